/-! ===== the class: what an instruction needs and makes of a frame ===== -/
section
variable {f_codeCount f_coverCount f_placeCount f_tooMany f_layAnswer f_wrongKind f_wrongKey f_grown f_frameDepth f_frameThere f_lastReason f_valueDepth f_objectCount f_hasRun f_begun f_nowAt f_endClass : Int32} {a_parent a_entry a_code a_operand a_coverFrom a_coverTo a_coverTarget a_coverClass a_placeKey a_placeDepth a_cameWith a_ledWith a_faults a_found a_hasFound a_kept a_hasMap a_frame a_kind a_value a_objectClass a_objectReady : Nat → Int32}
variable {g : md_C} {m k d : Nat} {P D kr fr f : Nat → Nat}
theorem xa_onS {post : Int32 → Prop} {x : Nat} (hd : d ≤ 6) (hx : x ≤ 90) (f90 : ∀ s, f s ≤ 90) (hfr : ∀ s, s < 4 + d → fr s = f s) (h1 : ¬ (∀ i, i < d → f (4 + i) ≠ x) → post 1) (h0 : (∀ i, i < d → f (4 + i) ≠ x) → post 0) : wpX_isOnStack post (f_codeCount, f_coverCount, f_placeCount, f_tooMany, f_layAnswer, f_wrongKind, f_wrongKey, f_grown, (nI d), f_frameThere, f_lastReason, f_valueDepth, f_objectCount, f_hasRun, f_begun, f_nowAt, f_endClass, a_parent, a_entry, a_code, a_operand, a_coverFrom, a_coverTo, a_coverTarget, a_coverClass, a_placeKey, a_placeDepth, a_cameWith, a_ledWith, a_faults, a_found, a_hasFound, a_kept, a_hasMap, (ar fr), a_kind, a_value, a_objectClass, a_objectReady) (nI x) := by
  have L : ∀ e i, i + e = 6 → (∀ j, j < i → j < d → f (4 + j) ≠ x) → wX_isOnStack_2 post (nI x) f_codeCount f_coverCount f_placeCount f_tooMany f_layAnswer f_wrongKind f_wrongKey f_grown (nI d) f_frameThere f_lastReason f_valueDepth f_objectCount f_hasRun f_begun f_nowAt f_endClass a_parent a_entry a_code a_operand a_coverFrom a_coverTo a_coverTarget a_coverClass a_placeKey a_placeDepth a_cameWith a_ledWith a_faults a_found a_hasFound a_kept a_hasMap (ar fr) a_kind a_value a_objectClass a_objectReady (e + 1) (nI i) := by
    intro e
    induction e with
    | zero =>
      intro i hi no
      exact pk_le 6 i (fun _ => h0 (fun j hj => no j (by omega) hj)) (fun c => by omega)
    | succ e ih =>
      intro i hi no
      refine pk_le 6 i (fun c => by omega) (fun _ => pk_le d i (fun c => h0 (fun j hj => no j (by omega) hj)) (fun c => ?_))
      have e4 : (4 : Int32) + nI i = nI (4 + i) := nI_add 4 i
      rw [e4, ar_at _ (by omega), hfr (4 + i) (by omega)]
      have := f90 (4 + i)
      refine ⟨vp_in_nI (by omega) (by omega), pk_eq (f (4 + i)) x (fun q => h1 (fun z => z i c q)) (fun q => nm_r (nI_1 i) (ih (i + 1) (by omega) (fun j hj hjd => ?_)))⟩
      by_cases z : j = i
      · subst z; exact q
      · exact no j (by omega) hjd
  unfold wpX_isOnStack
  dsimp only
  exact ⟨7, L 6 0 rfl (fun j hj => by omega)⟩
theorem xa_mc {post : Int32 → Prop} {t : Nat} (hG : md_G g) (hM : md_M g) (Y : ml_Y g m P D) (hkr : ∀ k, k < m → kr k = md_kx (P k)) (ht : t ≤ 90) (h1 : mf_isM g m P t → post (nI (mf_mc g P t))) (h0 : ¬ mf_isM g m P t → post (-1)) : wpX_madeClass post ((nI (mc_cc g)), (nI (mc_hc g)), (nI m), f_tooMany, f_layAnswer, f_wrongKind, f_wrongKey, f_grown, f_frameDepth, f_frameThere, f_lastReason, f_valueDepth, f_objectCount, f_hasRun, f_begun, f_nowAt, f_endClass, (ar (mc_p g)), (ar (mc_e g)), (ar (mc_o g)), (mc_r g), (ar (mc_f g)), (ar (mc_t g)), (ar (mc_g g)), (ar (mc_k g)), (ar kr), a_placeDepth, a_cameWith, a_ledWith, a_faults, a_found, a_hasFound, a_kept, a_hasMap, a_frame, a_kind, a_value, a_objectClass, a_objectReady) (nI t) := by
  have hm := Y.1
  have hcc := hG.1
  unfold wpX_madeClass
  dsimp only
  by_cases c : t < 11
  · have e : nI t - 11 < 0 := pk_sneg (b := 11) (by omega) c
    refine nm_e (br_t e (h0 ?_))
    unfold mf_isM; omega
  · refine nm_r (e' := nI (t - 11)) (pk_sub (b := 11) (by omega)) (xb_n (by omega) (pk_lt (t - 11) m (fun q => ⟨vp_in_nI (by omega) (by omega), ?_⟩) (fun q => h0 (by unfold mf_isM; omega))))
    have v := mg_V hG hM Y q
    have hi := md_Vi hcc v
    refine nm_r (e' := nI (P (t - 11) % 24)) (by rw [ar_at _ (by omega), hkr _ q, xk_31 (md_kxlt _ (md_Vlt hcc v)), xk_i]) ⟨vp_in_nI (by omega) (by omega), ?_⟩
    have h20 := hG.2.2.1 (P (t - 11) % 24)
    rw [ar_at _ (by omega)]
    refine pk_eq (mc_o g (P (t - 11) % 24)) 8 (fun z => ⟨vp_in_nI (by omega) (by omega), ?_⟩) (fun z => h0 (fun y => z y.2.2))
    rw [nI_clamp (by omega), (mn_lim8 hG (i := P (t - 11) % 24) (Or.inl z)).2]
    exact h1 ⟨by omega, q, z⟩
theorem xa_link {post : Int32 → Prop} {t : Nat} (hG : md_G g) (hM : md_M g) (Y : ml_Y g m P D) (hkr : ∀ k, k < m → kr k = md_kx (P k)) (hk : k < m) (hn : 0 < md_n (P k)) (ht : t ≤ 90) (h1 : t = 51 + mf_ix P m (md_cl (P k)) → post 1) (h0 : ¬ t = 51 + mf_ix P m (md_cl (P k)) → post 0) : wpX_isLinkOf post ((nI (mc_cc g)), (nI (mc_hc g)), (nI m), f_tooMany, f_layAnswer, f_wrongKind, f_wrongKey, f_grown, f_frameDepth, f_frameThere, f_lastReason, f_valueDepth, f_objectCount, f_hasRun, f_begun, f_nowAt, f_endClass, (ar (mc_p g)), (ar (mc_e g)), (ar (mc_o g)), (mc_r g), (ar (mc_f g)), (ar (mc_t g)), (ar (mc_g g)), (ar (mc_k g)), (ar kr), a_placeDepth, a_cameWith, a_ledWith, a_faults, a_found, a_hasFound, a_kept, a_hasMap, a_frame, a_kind, a_value, a_objectClass, a_objectReady) (nI t) (nI (md_kx (P k))) := by
  have hm := Y.1
  have hcc := hG.1
  have hK : ∀ j, j < m → P j < 1327104 := fun j hj => md_Vlt hcc (mg_V hG hM Y hj)
  obtain ⟨j, hj, ej⟩ := mg_cl hG hM Y hk hn
  unfold wpX_isLinkOf
  dsimp only
  refine xa_ck hcc (mg_V hG hM Y hk) hn ?_
  rw [← ej] at h1 h0 ⊢
  rw [mf_ix_eq m j Y.2.1 hj] at h1 h0
  refine xa_po hm hkr hK (hK j hj) (fun i hi ei => ?_) (fun no => absurd rfl (no j hj))
  have : i = j := ml_inj Y.2.1 _ _ hi hj ei
  subst this
  refine xb_n (by omega) ?_
  have e51 : (51 : Int32) + nI i = nI (51 + i) := nI_add 51 i
  rw [e51]
  exact pk_eq t (51 + i) h1 h0
theorem xa_need {post : Int32 → Prop} (hG : md_G g) (hM : md_M g) (Y : ml_Y g m P D) (hkr : ∀ k, k < m → kr k = md_kx (P k)) (hk : k < m) (hd : d = D k) (f90 : ∀ s, f s ≤ 90) (hfr : ∀ s, s < 4 + d → fr s = f s) (h1 : mf_nd g m P k d f → post 1) (h0 : ¬ mf_nd g m P k d f → post 0) : wpX_meetsNeeds post ((nI (mc_cc g)), (nI (mc_hc g)), (nI m), f_tooMany, f_layAnswer, f_wrongKind, f_wrongKey, f_grown, (nI d), f_frameThere, f_lastReason, f_valueDepth, f_objectCount, f_hasRun, f_begun, f_nowAt, f_endClass, (ar (mc_p g)), (ar (mc_e g)), (ar (mc_o g)), (mc_r g), (ar (mc_f g)), (ar (mc_t g)), (ar (mc_g g)), (ar (mc_k g)), (ar kr), a_placeDepth, a_cameWith, a_ledWith, a_faults, a_found, a_hasFound, a_kept, a_hasMap, (ar fr), a_kind, a_value, a_objectClass, a_objectReady) (nI k) := by
  have hm := Y.1
  have hcc := hG.1
  have v := mg_V hG hM Y hk
  have hi := md_Vi hcc v
  have hD := mg_D hG hM Y hk
  have hth := mg_th Y hk
  have h20 := hG.2.2.1 (P k % 24)
  obtain ⟨_, _, _, _, f5⟩ := mg_W Y hk
  have nb : narrow .boolean (.int (1 : Int32)) = .int 1 := rfl
  have nb0 : narrow .boolean (.int (0 : Int32)) = .int 0 := rfl
  unfold wpX_meetsNeeds
  dsimp only
  refine ⟨vp_in_nI (by omega) (by omega), nm_r (e' := nI (md_kx (P k))) (by rw [ar_at _ (by omega), hkr k hk]) (nm_r (e' := nI (P k % 24)) (by rw [xk_31 (md_kxlt _ (md_Vlt hcc v)), xk_i]) ⟨vp_in_nI (by omega) (by omega), nm_e ?_⟩)⟩
  have etop : (4 : Int32) + nI d - 1 = nI (3 + d) := by
    show nI 4 + nI d - nI 1 = _
    rw [nI_add, pk_sub (by omega)]; exact congrArg nI (by omega)
  refine nm_r etop ⟨vp_in_nI (by omega) (by omega), nm_r (ar_at _ (by omega)) ?_⟩
  rw [nI_clamp (show P k % 24 < 2 ^ 31 by omega)]
  have F : ∀ s, s < 4 + d → ar fr (nI s).toNatClampNeg = nI (f s) := by
    intro s hs; rw [ar_at _ (by omega), hfr s hs]
  have tk := hth.1
  rw [← hd] at tk
  generalize ho : mc_o g (P k % 24) = o at *
  have S219 : (o = 10 ∨ o = 14 ∨ o = 19) → wX_meetsNeeds_219 post (nI (3 + d)) (nI (mc_cc g)) (nI (mc_hc g)) (nI m) f_tooMany f_layAnswer f_wrongKind f_wrongKey f_grown (nI d) f_frameThere f_lastReason f_valueDepth f_objectCount f_hasRun f_begun f_nowAt f_endClass (ar (mc_p g)) (ar (mc_e g)) (ar (mc_o g)) (mc_r g) (ar (mc_f g)) (ar (mc_t g)) (ar (mc_g g)) (ar (mc_k g)) (ar kr) a_placeDepth a_cameWith a_ledWith a_faults a_found a_hasFound a_kept a_hasMap (ar fr) a_kind a_value a_objectClass a_objectReady := by
    intro q
    have := f90 (3 + d)
    refine ⟨vp_in_nI (by omega) (by omega), ?_⟩
    rw [F _ (by omega)]
    refine pk_lt (f (3 + d)) 2 (fun c => h0 (fun z => ?_)) (fun c => ⟨vp_in_nI (by omega) (by omega), pk_lt 10 (f (3 + d)) (fun e => h0 (fun z => ?_)) (fun e => h1 ?_)⟩)
    · have := z.2.2.2.2.1 (by rw [ho]; exact q); omega
    · have := z.2.2.2.2.1 (by rw [ho]; exact q); omega
    · unfold mf_nd; rw [ho]
      refine ⟨fun z => by omega, fun z => by omega, fun z => by omega, fun z => by omega, fun _ => ⟨c, e⟩, fun z => by omega, fun z => by omega, fun z => by omega⟩
  have S248 : (o = 11 ∨ o = 18) → wX_meetsNeeds_248 post (mc_r g (P k % 24)) (nI (3 + d)) (nI (mc_cc g)) (nI (mc_hc g)) (nI m) f_tooMany f_layAnswer f_wrongKind f_wrongKey f_grown (nI d) f_frameThere f_lastReason f_valueDepth f_objectCount f_hasRun f_begun f_nowAt f_endClass (ar (mc_p g)) (ar (mc_e g)) (ar (mc_o g)) (mc_r g) (ar (mc_f g)) (ar (mc_t g)) (ar (mc_g g)) (ar (mc_k g)) (ar kr) a_placeDepth a_cameWith a_ledWith a_faults a_found a_hasFound a_kept a_hasMap (ar fr) a_kind a_value a_objectClass a_objectReady := by
    intro q
    have ha := mn_lim8 hG (i := P k % 24) (by rw [ho]; omega)
    refine ⟨vp_in_nI (by omega) (by omega), ?_⟩
    have e3 : (3 : Int32) + nI (mc_a g (P k % 24)) = nI (3 + mc_a g (P k % 24)) := nI_add 3 _
    rw [F _ (by omega), ha.2, e3]
    refine xa_fits hG (f90 _) (by omega) (fun z => ⟨nb, h1 ?_⟩) (fun z => ⟨nb0, h0 (fun y => z ?_)⟩)
    · unfold mf_nd; rw [ho]
      refine ⟨fun z => by omega, fun z => by omega, fun z => by omega, fun z => by omega, fun z => by omega, fun _ => z, fun z => by omega, fun z => by omega⟩
    · exact y.2.2.2.2.2.1 (by rw [ho]; exact q)
  have T : (o = 0 ∨ o = 1 ∨ o = 3 ∨ o = 4 ∨ o = 5 ∨ o = 6 ∨ o = 12 ∨ o = 15 ∨ o = 17 ∨ 19 < o) → post 1 := by
    intro q
    refine h1 ?_
    unfold mf_nd; rw [ho]
    refine ⟨fun z => by omega, fun z => by omega, fun z => by omega, fun z => by omega, fun z => by omega, fun z => by omega, fun z => by omega, fun z => by omega⟩
  refine pk_lt o 2 (fun c => T (by omega)) (fun c2 => pk_lt 19 o (fun c => T (by omega)) (fun c19 => ?_))
  refine pk_eq o 2 (fun c => ?_) (fun n2 => ?_)
  · have ha := mn_lim4 hG (i := P k % 24) (by rw [ho]; omega)
    have := f90 (mc_a g (P k % 24))
    rw [ha.2, F _ (by omega)]
    refine ⟨vp_in_nI (by omega) (by omega), pk_eq (f (mc_a g (P k % 24))) 0 (fun q => h0 (fun z => (z.1 (by rw [ho]; exact c)).1 q)) (fun q => ⟨vp_in_nI (by omega) (by omega), pk_le 51 (f (mc_a g (P k % 24))) (fun q2 => h0 (fun z => ?_)) (fun q2 => h1 ?_)⟩)⟩
    · have := (z.1 (by rw [ho]; exact c)).2; omega
    · unfold mf_nd; rw [ho]
      refine ⟨fun _ => ⟨q, q2⟩, fun z => by omega, fun z => by omega, fun z => by omega, fun z => by omega, fun z => by omega, fun z => by omega, fun z => by omega⟩
  refine pk_eq o 3 (fun c => T (by omega)) (fun n3 => pk_eq o 4 (fun c => T (by omega)) (fun n4 => pk_eq o 5 (fun c => T (by omega)) (fun n5 => pk_eq o 6 (fun c => T (by omega)) (fun n6 => ?_))))
  refine pk_eq o 7 (fun c => ?_) (fun n7 => ?_)
  · have t7 : 2 ≤ d := by rw [c] at tk; exact tk
    have a1 := f90 (3 + d)
    have a2 := f90 (2 + d)
    have e2 : nI (3 + d) - 1 = nI (2 + d) := by
      show nI (3 + d) - nI 1 = _
      rw [pk_sub (by omega)]; exact congrArg nI (by omega)
    rw [e2, F _ (by omega), F _ (by omega)]
    refine ⟨vp_in_nI (by omega) (by omega), pk_eq (f (3 + d)) 1 (fun q => ⟨vp_in_nI (by omega) (by omega), pk_eq (f (2 + d)) 1 (fun q2 => h1 ?_) (fun q2 => h0 (fun z => q2 (z.2.1 (by rw [ho]; exact c)).2))⟩) (fun q => h0 (fun z => q (z.2.1 (by rw [ho]; exact c)).1))⟩
    unfold mf_nd; rw [ho]
    refine ⟨fun z => by omega, fun _ => ⟨q, q2⟩, fun z => by omega, fun z => by omega, fun z => by omega, fun z => by omega, fun z => by omega, fun z => by omega⟩
  refine pk_eq o 8 (fun c => ?_) (fun n8 => ?_)
  · have e11 : (11 : Int32) + nI k = nI (11 + k) := nI_add 11 k
    rw [e11]
    refine xa_onS (by omega) (by omega) f90 hfr (fun q => xb_1 (h0 (fun z => q (z.2.2.1 (by rw [ho]; exact c))))) (fun q => xb_0 (h1 ?_))
    unfold mf_nd; rw [ho]
    refine ⟨fun z => by omega, fun z => by omega, fun _ => q, fun z => by omega, fun z => by omega, fun z => by omega, fun z => by omega, fun z => by omega⟩
  refine pk_eq o 9 (fun c => ⟨vp_in_nI (by omega) (by omega), ?_⟩) (fun n9 => ?_)
  · rw [F _ (by omega)]
    refine xa_mc hG hM Y hkr (f90 _) (fun q => ?_) (fun q => xb_m (h0 (fun z => q (z.2.2.2.1 (by rw [ho]; exact c)))))
    have := (mn_lim8 hG (i := P (f (3 + d) - 11) % 24) (Or.inl q.2.2)).1
    refine xb_n (by unfold mf_mc; omega) (h1 ?_)
    unfold mf_nd; rw [ho]
    refine ⟨fun z => by omega, fun z => by omega, fun z => by omega, fun _ => q, fun z => by omega, fun z => by omega, fun z => by omega, fun z => by omega⟩
  refine pk_eq o 10 (fun c => S219 (by omega)) (fun n10 => pk_eq o 11 (fun c => S248 (by omega)) (fun n11 => pk_eq o 12 (fun c => T (by omega)) (fun n12 => ?_)))
  refine pk_eq o 13 (fun c => ⟨vp_in_nI (by omega) (by omega), ?_⟩) (fun n13 => ?_)
  · have := f90 (3 + d)
    rw [F _ (by omega)]
    refine pk_eq (f (3 + d)) 1 (fun q => h1 ?_) (fun q => h0 (fun z => q (z.2.2.2.2.2.2.1 (by rw [ho]; exact c))))
    unfold mf_nd; rw [ho]
    refine ⟨fun z => by omega, fun z => by omega, fun z => by omega, fun z => by omega, fun z => by omega, fun z => by omega, fun _ => q, fun z => by omega⟩
  refine pk_eq o 14 (fun c => S219 (by omega)) (fun n14 => pk_eq o 15 (fun c => T (by omega)) (fun n15 => ?_))
  refine pk_eq o 16 (fun c => ?_) (fun n16 => ?_)
  · have ha := mn_lim4 hG (i := P k % 24) (by rw [ho]; omega)
    have hn : 0 < md_n (P k) := Nat.pos_of_ne_zero (fun z => f5 ⟨by rw [ho]; exact c, z⟩)
    rw [ha.2, F _ (by omega)]
    refine ⟨vp_in_nI (by omega) (by omega), xa_link hG hM Y hkr hk hn (f90 _) (fun q => ⟨nb, h1 ?_⟩) (fun q => ⟨nb0, h0 (fun z => q (z.2.2.2.2.2.2.2 (by rw [ho]; exact c)))⟩)⟩
    unfold mf_nd; rw [ho]
    refine ⟨fun z => by omega, fun z => by omega, fun z => by omega, fun z => by omega, fun z => by omega, fun z => by omega, fun z => by omega, fun _ => q⟩
  refine pk_eq o 17 (fun c => T (by omega)) (fun n17 => pk_eq o 18 (fun c => S248 (by omega)) (fun n18 => pk_eq o 19 (fun c => S219 (by omega)) (fun n19 => by omega)))
end
