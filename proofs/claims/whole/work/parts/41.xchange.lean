/-! ===== the class: what an instruction makes of a frame ===== -/
section
variable {f_codeCount f_coverCount f_placeCount f_tooMany f_layAnswer f_wrongKind f_wrongKey f_grown f_frameDepth f_frameThere f_lastReason f_valueDepth f_objectCount f_hasRun f_begun f_nowAt f_endClass : Int32} {a_parent a_entry a_code a_operand a_coverFrom a_coverTo a_coverTarget a_coverClass a_placeKey a_placeDepth a_cameWith a_ledWith a_faults a_found a_hasFound a_kept a_hasMap a_frame a_kind a_value a_objectClass a_objectReady : Nat → Int32}
variable {g : md_C} {m k d : Nat} {P D kr fr f : Nat → Nat}
theorem xa_repl {post : SX → Prop} {old new : Nat} (ho : old ≤ 90) {n : Nat} (hn : n ≤ 10) (f90 : ∀ s, f s ≤ 90) (hfr : ∀ s, s < n → fr s = f s) (H : ∀ fr' : Nat → Nat, (∀ s, s < n → fr' s = if f s = old then new else f s) → post (f_codeCount, f_coverCount, f_placeCount, f_tooMany, f_layAnswer, f_wrongKind, f_wrongKey, f_grown, f_frameDepth, f_frameThere, f_lastReason, f_valueDepth, f_objectCount, f_hasRun, f_begun, f_nowAt, f_endClass, a_parent, a_entry, a_code, a_operand, a_coverFrom, a_coverTo, a_coverTarget, a_coverClass, a_placeKey, a_placeDepth, a_cameWith, a_ledWith, a_faults, a_found, a_hasFound, a_kept, a_hasMap, (ar fr'), a_kind, a_value, a_objectClass, a_objectReady)) : wpX_replace post (f_codeCount, f_coverCount, f_placeCount, f_tooMany, f_layAnswer, f_wrongKind, f_wrongKey, f_grown, f_frameDepth, f_frameThere, f_lastReason, f_valueDepth, f_objectCount, f_hasRun, f_begun, f_nowAt, f_endClass, a_parent, a_entry, a_code, a_operand, a_coverFrom, a_coverTo, a_coverTarget, a_coverClass, a_placeKey, a_placeDepth, a_cameWith, a_ledWith, a_faults, a_found, a_hasFound, a_kept, a_hasMap, (ar fr), a_kind, a_value, a_objectClass, a_objectReady) (nI old) (nI new) := by
  have L : ∀ e s, s + e = 10 → ∀ fr1 : Nat → Nat, (∀ t, t < s → t < n → fr1 t = if f t = old then new else f t) → (∀ t, s ≤ t → fr1 t = fr t) → wX_replace_2 post (nI old) (nI new) f_codeCount f_coverCount f_placeCount f_tooMany f_layAnswer f_wrongKind f_wrongKey f_grown f_frameDepth f_frameThere f_lastReason f_valueDepth f_objectCount f_hasRun f_begun f_nowAt f_endClass (e + 1) (nI s) a_parent a_entry a_code a_operand a_coverFrom a_coverTo a_coverTarget a_coverClass a_placeKey a_placeDepth a_cameWith a_ledWith a_faults a_found a_hasFound a_kept a_hasMap (ar fr1) a_kind a_value a_objectClass a_objectReady := by
    intro e
    induction e with
    | zero =>
      intro s hs fr1 h1 h2
      exact pk_le 10 s (fun _ => H fr1 (fun t ht => h1 t (by omega) ht)) (fun c => by omega)
    | succ e ih =>
      intro s hs fr1 h1 h2
      refine pk_le 10 s (fun c => by omega) (fun _ => ⟨vp_in_nI (by omega) (by omega), ?_⟩)
      rw [ar_at _ (by omega), h2 s (Nat.le_refl _)]
      refine br_c (fun c => ⟨vp_in_nI (by omega) (by omega), nm_r (ar_ui _ _ (by omega)) (nm_r (nI_1 s) (ih (s + 1) (by omega) _ (fun t ht htn => ?_) (fun t ht => ?_)))⟩) (fun c => nm_r (nI_1 s) (ih (s + 1) (by omega) fr1 (fun t ht htn => ?_) (fun t ht => h2 t (by omega))))
      · by_cases q : t = s
        · subst q
          have f9 := f90 t
          rw [hfr t htn] at c
          rw [up_s, if_pos ((nI_eq (by omega) (by omega)).mp c)]
        · rw [up_n q]; exact h1 t (by omega) htn
      · rw [up_n (by omega)]; exact h2 t (by omega)
      · by_cases q : t = s
        · subst q
          rw [hfr t htn] at c
          rw [h2 t (Nat.le_refl _), hfr t htn, if_neg (fun z => c (by rw [z]))]
        · exact h1 t (by omega) htn
  unfold wpX_replace
  dsimp only
  exact ⟨11, L 10 0 rfl fr (fun t ht => by omega) (fun t _ => rfl)⟩
theorem xa_chg {post : SX → Prop} (hG : md_G g) (hM : md_M g) (Y : ml_Y g m P D) (hkr : ∀ k, k < m → kr k = md_kx (P k)) (hk : k < m) (hd : d = D k) (f90 : ∀ s, f s ≤ 90) (hfr : ∀ s, s < 4 + d → fr s = f s) (nd : mf_nd g m P k d f) (H : ∀ fr' : Nat → Nat, (∀ s, s < 4 + md_th g (P k) d → fr' s = mf_cg g P k d f s) → post ((nI (mc_cc g)), (nI (mc_hc g)), (nI m), f_tooMany, f_layAnswer, f_wrongKind, f_wrongKey, f_grown, (nI (md_th g (P k) d)), f_frameThere, f_lastReason, f_valueDepth, f_objectCount, f_hasRun, f_begun, f_nowAt, f_endClass, (ar (mc_p g)), (ar (mc_e g)), (ar (mc_o g)), (mc_r g), (ar (mc_f g)), (ar (mc_t g)), (ar (mc_g g)), (ar (mc_k g)), (ar kr), a_placeDepth, a_cameWith, a_ledWith, a_faults, a_found, a_hasFound, a_kept, a_hasMap, (ar fr'), a_kind, a_value, a_objectClass, a_objectReady)) : wpX_changeFrame post ((nI (mc_cc g)), (nI (mc_hc g)), (nI m), f_tooMany, f_layAnswer, f_wrongKind, f_wrongKey, f_grown, (nI d), f_frameThere, f_lastReason, f_valueDepth, f_objectCount, f_hasRun, f_begun, f_nowAt, f_endClass, (ar (mc_p g)), (ar (mc_e g)), (ar (mc_o g)), (mc_r g), (ar (mc_f g)), (ar (mc_t g)), (ar (mc_g g)), (ar (mc_k g)), (ar kr), a_placeDepth, a_cameWith, a_ledWith, a_faults, a_found, a_hasFound, a_kept, a_hasMap, (ar fr), a_kind, a_value, a_objectClass, a_objectReady) (nI k) := by
  have hm := Y.1
  have hcc := hG.1
  have v := mg_V hG hM Y hk
  have hi := md_Vi hcc v
  have hD := mg_D hG hM Y hk
  have hth := mg_th Y hk
  have h20 := hG.2.2.1 (P k % 24)
  have t2 := md_tk2 (mc_o g (P k % 24))
  have p2 := md_pu2 (mc_o g (P k % 24))
  unfold wpX_changeFrame
  dsimp only
  refine ⟨vp_in_nI (by omega) (by omega), nm_r (e' := nI (P k % 24)) (by rw [ar_at _ (by omega), hkr k hk, xk_31 (md_kxlt _ (md_Vlt hcc v)), xk_i]) ⟨vp_in_nI (by omega) (by omega), nm_r (ar_at _ (by omega)) ⟨vp_in_nI (by omega) (by omega), nm_e ?_⟩⟩⟩
  have etop : (4 : Int32) + nI d - 1 = nI (3 + d) := by
    show nI 4 + nI d - nI 1 = _
    rw [nI_add, pk_sub (by omega)]; exact congrArg nI (by omega)
  refine nm_r etop ⟨vp_in_nI (by omega) (by omega), nm_r (ar_at _ (by omega)) (xa_pu h20 (xa_tk h20 ?_))⟩
  have tk := hth.1
  have th6 := hth.2
  rw [← hd] at tk th6
  have ed : nI d + (nI (md_pu (mc_o g (P k % 24))) - nI (md_tk (mc_o g (P k % 24)))) = nI (md_th g (P k) d) := by
    unfold md_th
    have e1 : nI d = nI (d - md_tk (mc_o g (P k % 24))) + nI (md_tk (mc_o g (P k % 24))) := by
      rw [nI_add]; exact congrArg nI (by omega)
    rw [e1, ← nI_add (d - md_tk (mc_o g (P k % 24)))]
    generalize nI (d - md_tk (mc_o g (P k % 24))) = x
    generalize nI (md_tk (mc_o g (P k % 24))) = y
    generalize nI (md_pu (mc_o g (P k % 24))) = z
    grind
  refine nm_r ed ?_
  rw [nI_clamp (show P k % 24 < 2 ^ 31 by omega)]
  have e4 : nI (3 + d) + 1 = nI (4 + d) := by rw [nI_1]; exact congrArg nI (by omega)
  have h3 : 0 < d → fr (3 + d) = f (3 + d) := fun h => hfr _ (by omega)
  have idc : mc_o g (P k % 24) = 4 ∨ mc_o g (P k % 24) = 7 ∨ (11 ≤ mc_o g (P k % 24) ∧ mc_o g (P k % 24) ≤ 14) ∨ 15 < mc_o g (P k % 24) → post ((nI (mc_cc g)), (nI (mc_hc g)), (nI m), f_tooMany, f_layAnswer, f_wrongKind, f_wrongKey, f_grown, (nI (md_th g (P k) d)), f_frameThere, f_lastReason, f_valueDepth, f_objectCount, f_hasRun, f_begun, f_nowAt, f_endClass, (ar (mc_p g)), (ar (mc_e g)), (ar (mc_o g)), (mc_r g), (ar (mc_f g)), (ar (mc_t g)), (ar (mc_g g)), (ar (mc_k g)), (ar kr), a_placeDepth, a_cameWith, a_ledWith, a_faults, a_found, a_hasFound, a_kept, a_hasMap, (ar fr), a_kind, a_value, a_objectClass, a_objectReady) := by
    intro q
    refine H fr (fun s hs => ?_)
    have e : mf_cg g P k d f = f := by
      unfold mf_cg
      rw [if_neg (by omega), if_neg (by omega), if_neg (by omega), if_neg (by omega), if_neg (by omega), if_neg (by omega), if_neg (by omega), if_neg (by omega), if_neg (by omega), if_neg (by omega)]
    rw [e]
    refine hfr s ?_
    have : md_th g (P k) d ≤ d := by
      unfold md_th
      have : md_pu (mc_o g (P k % 24)) ≤ md_tk (mc_o g (P k % 24)) := by
        unfold md_pu md_tk
        rcases q with q | q | q | q
        · rw [q]; decide
        · rw [q]; decide
        · rw [if_neg (by omega), if_neg (by omega)]; omega
        · rw [if_neg (by omega), if_neg (by omega)]; omega
      omega
    omega
  have thv : ∀ n t p, mc_o g (P k % 24) = n → md_tk n = t → md_pu n = p → md_th g (P k) d = d - t + p ∧ t ≤ d := by
    intro n t p e1 e2 e3
    unfold md_th; rw [e1] at tk ⊢; rw [e2] at tk ⊢; rw [e3]; exact ⟨rfl, tk⟩
  -- a slot put on top
  have put : ∀ v, md_th g (P k) d = d + 1 → mf_cg g P k d f = mf_up f (4 + d) v → post ((nI (mc_cc g)), (nI (mc_hc g)), (nI m), f_tooMany, f_layAnswer, f_wrongKind, f_wrongKey, f_grown, (nI (md_th g (P k) d)), f_frameThere, f_lastReason, f_valueDepth, f_objectCount, f_hasRun, f_begun, f_nowAt, f_endClass, (ar (mc_p g)), (ar (mc_e g)), (ar (mc_o g)), (mc_r g), (ar (mc_f g)), (ar (mc_t g)), (ar (mc_g g)), (ar (mc_k g)), (ar kr), a_placeDepth, a_cameWith, a_ledWith, a_faults, a_found, a_hasFound, a_kept, a_hasMap, (ar (mf_up fr (4 + d) v)), a_kind, a_value, a_objectClass, a_objectReady) := by
    intro v e1 e2
    refine H _ (fun s hs => ?_)
    rw [e2]
    by_cases q : s = 4 + d
    · subst q; rw [up_s, up_s]
    · rw [up_n q, up_n q]; exact hfr s (by omega)
  refine br_f (nI_pos (by omega)) (pk_lt 15 (mc_o g (P k % 24)) (fun c => idc (by omega)) (fun c15 => ?_))
  refine pk_eq (mc_o g (P k % 24)) 0 (fun c => ?_) (fun n0 => ?_)
  · have th := thv 0 0 1 c rfl rfl
    rw [e4]
    refine ⟨vp_in_nI (by omega) (by omega), nm_r (ar_ui fr 1 (by omega)) (put 1 (by omega) ?_)⟩
    unfold mf_cg; rw [if_pos c]
  refine pk_eq (mc_o g (P k % 24)) 1 (fun c => ?_) (fun n1 => ?_)
  · have th := thv 1 0 1 c rfl rfl
    rw [e4]
    refine ⟨vp_in_nI (by omega) (by omega), nm_r (ar_ui fr 2 (by omega)) (put 2 (by omega) ?_)⟩
    unfold mf_cg; rw [if_neg n0, if_pos c]
  refine pk_eq (mc_o g (P k % 24)) 2 (fun c => ?_) (fun n2 => ?_)
  · have th := thv 2 0 1 c rfl rfl
    have ha := mn_lim4 hG (i := P k % 24) (Or.inl c)
    rw [e4, ha.2, ar_at _ (by omega)]
    refine ⟨vp_in_nI (by omega) (by omega), vp_in_nI (by omega) (by omega), nm_r (ar_ui fr _ (by omega)) (put _ (by omega) ?_)⟩
    unfold mf_cg; rw [if_neg n0, if_neg n1, if_pos c, hfr _ (by omega)]
  refine pk_eq (mc_o g (P k % 24)) 3 (fun c => ?_) (fun n3 => ?_)
  · have th := thv 3 1 0 c rfl rfl
    have ha := mn_lim4 hG (i := P k % 24) (Or.inr (Or.inl c))
    rw [ha.2]
    refine ⟨vp_in_nI (by omega) (by omega), nm_r (ar_ui fr _ (by omega)) (H _ (fun s hs => ?_))⟩
    unfold mf_cg; rw [if_neg n0, if_neg n1, if_neg n2, if_pos c]
    by_cases q : s = mc_a g (P k % 24)
    · subst q; rw [up_s, up_s]; exact h3 (by omega)
    · rw [up_n q, up_n q]; exact hfr s (by omega)
  refine pk_eq (mc_o g (P k % 24)) 4 (fun c => idc (by omega)) (fun n4 => ?_)
  refine pk_eq (mc_o g (P k % 24)) 5 (fun c => ?_) (fun n5 => ?_)
  · have th := thv 5 1 2 c rfl rfl
    rw [e4]
    refine ⟨vp_in_nI (by omega) (by omega), nm_r (ar_ui fr _ (by omega)) (put _ (by omega) ?_)⟩
    unfold mf_cg; rw [if_neg n0, if_neg n1, if_neg n2, if_neg n3, if_pos c, h3 (by omega)]
  refine pk_eq (mc_o g (P k % 24)) 6 (fun c => ?_) (fun n6 => ?_)
  · have th := thv 6 2 2 c rfl rfl
    have e2 : nI (3 + d) - 1 = nI (2 + d) := by
      show nI (3 + d) - nI 1 = _
      rw [pk_sub (by omega)]; exact congrArg nI (by omega)
    rw [e2, ar_at _ (by omega)]
    refine ⟨vp_in_nI (by omega) (by omega), vp_in_nI (by omega) (by omega), nm_r (ar_ui fr _ (by omega)) ⟨vp_in_nI (by omega) (by omega), nm_r (ar_ui _ _ (by omega)) (H _ (fun s hs => ?_))⟩⟩
    unfold mf_cg; rw [if_neg n0, if_neg n1, if_neg n2, if_neg n3, if_neg n5, if_pos c]
    by_cases q : s = 2 + d
    · subst q; rw [up_s, up_s]; exact h3 (by omega)
    · rw [up_n q, up_n q]
      by_cases q2 : s = 3 + d
      · subst q2; rw [up_s, up_s]; exact hfr _ (by omega)
      · rw [up_n q2, up_n q2]; exact hfr s (by omega)
  refine pk_eq (mc_o g (P k % 24)) 7 (fun c => idc (by omega)) (fun n7 => ?_)
  refine pk_eq (mc_o g (P k % 24)) 8 (fun c => ?_) (fun n8 => ?_)
  · have th := thv 8 0 1 c rfl rfl
    have e11 : (11 : Int32) + nI k = nI (11 + k) := nI_add 11 k
    rw [e11]
    refine xa_repl (old := 11 + k) (new := 0) (n := 4 + d) (by omega) (by omega) f90 hfr (fun fr1 h1 => ?_)
    rw [e4]
    refine ⟨vp_in_nI (by omega) (by omega), nm_r (ar_ui fr1 _ (by omega)) (H _ (fun s hs => ?_))⟩
    unfold mf_cg; rw [if_neg n0, if_neg n1, if_neg n2, if_neg n3, if_neg n5, if_neg n6, if_pos c]
    by_cases q : s = 4 + d
    · subst q; rw [up_s, up_s]
    · rw [up_n q, up_n q]; exact h1 s (by omega)
  refine pk_eq (mc_o g (P k % 24)) 9 (fun c => ?_) (fun n9 => ?_)
  · have th := thv 9 1 0 c rfl rfl
    have f9 := f90 (3 + d)
    rw [h3 (by omega)]
    have q := nd.2.2.2.1 c
    refine xa_mc hG hM Y hkr f9 (fun _ => ?_) (fun z => absurd q z)
    have e3 : (3 : Int32) + nI (mf_mc g P (f (3 + d))) = nI (3 + mf_mc g P (f (3 + d))) := nI_add 3 _
    rw [e3]
    refine xa_repl (n := 4 + d) f9 (by omega) f90 hfr (fun fr1 h1 => H fr1 (fun s hs => ?_))
    unfold mf_cg; rw [if_neg n0, if_neg n1, if_neg n2, if_neg n3, if_neg n5, if_neg n6, if_neg n8, if_pos c]
    exact h1 s (by omega)
  refine pk_eq (mc_o g (P k % 24)) 10 (fun c => ?_) (fun n10 => ?_)
  · have th := thv 10 1 1 c rfl rfl
    have ha := mn_lim8 hG (i := P k % 24) (Or.inr (Or.inl c))
    have e3 : (3 : Int32) + nI (mc_a g (P k % 24)) = nI (3 + mc_a g (P k % 24)) := nI_add 3 _
    rw [ha.2, e3]
    refine ⟨vp_in_nI (by omega) (by omega), nm_r (ar_ui fr _ (by omega)) (H _ (fun s hs => ?_))⟩
    unfold mf_cg; rw [if_neg n0, if_neg n1, if_neg n2, if_neg n3, if_neg n5, if_neg n6, if_neg n8, if_neg n9, if_pos c]
    by_cases q : s = 3 + d
    · subst q; rw [up_s, up_s]
    · rw [up_n q, up_n q]; exact hfr s (by omega)
  refine pk_eq (mc_o g (P k % 24)) 11 (fun c => idc (by omega)) (fun n11 => pk_eq (mc_o g (P k % 24)) 12 (fun c => idc (by omega)) (fun n12 => pk_eq (mc_o g (P k % 24)) 13 (fun c => idc (by omega)) (fun n13 => pk_eq (mc_o g (P k % 24)) 14 (fun c => idc (by omega)) (fun n14 => ?_))))
  refine pk_eq (mc_o g (P k % 24)) 15 (fun c => ?_) (fun n15 => by omega)
  have th := thv 15 0 1 c rfl rfl
  have e51 : (51 : Int32) + nI k = nI (51 + k) := nI_add 51 k
  rw [e4, e51]
  refine ⟨vp_in_nI (by omega) (by omega), nm_r (ar_ui fr _ (by omega)) (put _ (by omega) ?_)⟩
  unfold mf_cg; rw [if_neg n0, if_neg n1, if_neg n2, if_neg n3, if_neg n5, if_neg n6, if_neg n8, if_neg n9, if_neg n10, if_pos c]
end
