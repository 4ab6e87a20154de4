/-! ===== the class: the one pass ===== -/
section
variable {f_codeCount f_coverCount f_placeCount f_tooMany f_layAnswer f_wrongKind f_wrongKey f_grown f_frameDepth f_frameThere f_lastReason f_valueDepth f_objectCount f_hasRun f_begun f_nowAt f_endClass : Int32} {a_parent a_entry a_code a_operand a_coverFrom a_coverTo a_coverTarget a_coverClass a_placeKey a_placeDepth a_cameWith a_ledWith a_faults a_found a_hasFound a_kept a_hasMap a_frame a_kind a_value a_objectClass a_objectReady : Nat → Int32}
variable {g : md_C} {m : Nat} {P D kr kp hm : Nat → Nat} {M : Nat → Bool} {K : Nat → Nat → Nat}
def mk_A (m : Nat) (D : Nat → Nat) (K : Nat → Nat → Nat) (kp : Nat → Nat) : Prop := ∀ q, q < m → ∀ s, s < 4 + D q → kp (10 * q + s) = K q s
theorem xa_fm {post : Int32 → Prop} {p : Nat} {fr f : Nat → Nat} (hG : md_G g) (hm : m ≤ 40) (hp : p < m) (hD : D p ≤ 6) (A : mk_A m D K kp) (K90 : ∀ q s, K q s ≤ 90) (f90 : ∀ s, f s ≤ 90) (hfr : ∀ s, s < 4 + D p → fr s = f s) (h1 : mk_ft g K p (4 + D p) f → post 1) (h0 : ¬ mk_ft g K p (4 + D p) f → post 0) : wpX_fitsMap post ((nI (mc_cc g)), (nI (mc_hc g)), f_placeCount, f_tooMany, f_layAnswer, f_wrongKind, f_wrongKey, f_grown, f_frameDepth, f_frameThere, f_lastReason, f_valueDepth, f_objectCount, f_hasRun, f_begun, f_nowAt, f_endClass, (ar (mc_p g)), (ar (mc_e g)), (ar (mc_o g)), (mc_r g), (ar (mc_f g)), (ar (mc_t g)), (ar (mc_g g)), (ar (mc_k g)), a_placeKey, (ar D), a_cameWith, a_ledWith, a_faults, a_found, a_hasFound, (ar kp), a_hasMap, (ar fr), a_kind, a_value, a_objectClass, a_objectReady) (nI p) := by
  have L : ∀ e s, s + e = 4 + D p → (∀ t, t < s → mt_fit g (f t) (K p t)) → wX_fitsMap_11 post (nI p) (nI (4 + D p)) (nI (mc_cc g)) (nI (mc_hc g)) f_placeCount f_tooMany f_layAnswer f_wrongKind f_wrongKey f_grown f_frameDepth f_frameThere f_lastReason f_valueDepth f_objectCount f_hasRun f_begun f_nowAt f_endClass (ar (mc_p g)) (ar (mc_e g)) (ar (mc_o g)) (mc_r g) (ar (mc_f g)) (ar (mc_t g)) (ar (mc_g g)) (ar (mc_k g)) a_placeKey (ar D) a_cameWith a_ledWith a_faults a_found a_hasFound (ar kp) a_hasMap (ar fr) a_kind a_value a_objectClass a_objectReady (e + 1) (nI s) := by
    intro e
    induction e with
    | zero =>
      intro s hs h
      have es : s = 4 + D p := by omega
      subst es
      exact pk_le 10 (4 + D p) (fun _ => h1 h) (fun _ => pk_le (4 + D p) (4 + D p) (fun _ => h1 h) (fun c => by omega))
    | succ e ih =>
      intro s hs h
      have ei : nI p * 10 + nI s = nI (10 * p + s) := by
        show nI p * nI 10 + nI s = _
        rw [pk_mul, nI_add, Nat.mul_comm]
      refine pk_le 10 s (fun c => by omega) (fun _ => pk_le (4 + D p) s (fun c => by omega) (fun _ => ⟨vp_in_nI (by omega) (by omega), ?_⟩))
      rw [ei, ar_at _ (by omega), ar_at _ (by omega), hfr s (by omega), A p hp s (by omega)]
      refine ⟨vp_in_nI (by omega) (by omega), xa_fits hG (f90 s) (K90 p s) (fun q => xb_1 (nm_r (nI_1 s) (ih (s + 1) (by omega) (fun t ht => ?_)))) (fun q => xb_0 (h0 (fun z => q (z s (by omega)))))⟩
      by_cases w : t = s
      · subst w; exact q
      · exact h t (by omega)
  unfold wpX_fitsMap
  dsimp only
  refine ⟨vp_in_nI (by omega) (by omega), nm_r (e' := nI (4 + D p)) ?_ ⟨4 + D p + 1, L (4 + D p) 0 (by omega) (fun t ht => by omega)⟩⟩
  rw [ar_at _ (by omega)]
  exact nI_add 4 _
theorem xa_fc {post : Int32 → Prop} {k x : Nat} {fr f : Nat → Nat} (hG : md_G g) (hM : md_M g) (Y : ml_Y g m P D) (hkr : ∀ k, k < m → kr k = md_kx (P k)) (hk : k < m) (hx : x < mc_hc g) (cv : md_cv g x (P k)) (A : mk_A m D K kp) (K90 : ∀ q s, K q s ≤ 90) (f90 : ∀ s, f s ≤ 90) (hfr : ∀ s, s < 4 → fr s = f s) (h1 : mk_ft g K (mf_ix P m (md_at (P k) (mc_g g x))) 5 (mf_hf g f x) → post 1) (h0 : ¬ mk_ft g K (mf_ix P m (md_at (P k) (mc_g g x))) 5 (mf_hf g f x) → post 0) : wpX_fitsCaught post ((nI (mc_cc g)), (nI (mc_hc g)), (nI m), f_tooMany, f_layAnswer, f_wrongKind, f_wrongKey, f_grown, f_frameDepth, f_frameThere, f_lastReason, f_valueDepth, f_objectCount, f_hasRun, f_begun, f_nowAt, f_endClass, (ar (mc_p g)), (ar (mc_e g)), (ar (mc_o g)), (mc_r g), (ar (mc_f g)), (ar (mc_t g)), (ar (mc_g g)), (ar (mc_k g)), (ar kr), a_placeDepth, a_cameWith, a_ledWith, a_faults, a_found, a_hasFound, (ar kp), a_hasMap, (ar fr), a_kind, a_value, a_objectClass, a_objectReady) (nI (md_kx (P k))) (nI x) := by
  have hm := Y.1
  have hhc := hG.2.1
  have hb := hG.2.2.2.2.1 x
  obtain ⟨j, hj, ej, eD⟩ := mg_h Y hk hx cv
  have ix : mf_ix P m (md_at (P k) (mc_g g x)) = j := by rw [← ej]; exact mf_ix_eq m j Y.2.1 hj
  rw [ix] at h1 h0
  have nb1 : narrow .boolean (.int (1 : Int32)) = .int 1 := rfl
  have nb0 : narrow .boolean (.int (0 : Int32)) = .int 0 := rfl
  have L : ∀ e s, s + e = 4 → (∀ t, t < s → mt_fit g (f t) (K j t)) → wX_fitsCaught_24 post (nI x) (nI j) (nI (mc_cc g)) (nI (mc_hc g)) (nI m) f_tooMany f_layAnswer f_wrongKind f_wrongKey f_grown f_frameDepth f_frameThere f_lastReason f_valueDepth f_objectCount f_hasRun f_begun f_nowAt f_endClass (ar (mc_p g)) (ar (mc_e g)) (ar (mc_o g)) (mc_r g) (ar (mc_f g)) (ar (mc_t g)) (ar (mc_g g)) (ar (mc_k g)) (ar kr) a_placeDepth a_cameWith a_ledWith a_faults a_found a_hasFound (ar kp) a_hasMap (ar fr) a_kind a_value a_objectClass a_objectReady (e + 1) (nI s) := by
    intro e
    induction e with
    | zero =>
      intro s hs h
      have e4 : nI j * 10 + 4 = nI (10 * j + 4) := by
        show nI j * nI 10 + nI 4 = _
        rw [pk_mul, nI_add, Nat.mul_comm]
      have e3 : (3 : Int32) + nI (mc_k g x) = nI (3 + mc_k g x) := nI_add 3 _
      refine pk_le 4 s (fun _ => ?_) (fun c => by omega)
      rw [e4, ar_at _ (by omega), ar_at _ (by omega), e3, A j hj 4 (by omega)]
      refine ⟨vp_in_nI (by omega) (by omega), vp_in_nI (by omega) (by omega), xa_fits hG (by omega) (K90 j 4) (fun q => ⟨nb1, h1 (fun t ht => ?_)⟩) (fun q => ⟨nb0, h0 (fun z => q ?_)⟩)⟩
      · unfold mf_hf
        by_cases w : t = 4
        · subst w; rw [up_s]; exact q
        · rw [up_n w]; exact h t (by omega)
      · have := z 4 (by omega)
        unfold mf_hf at this
        rw [up_s] at this; exact this
    | succ e ih =>
      intro s hs h
      have ei : nI j * 10 + nI s = nI (10 * j + s) := by
        show nI j * nI 10 + nI s = _
        rw [pk_mul, nI_add, Nat.mul_comm]
      refine pk_le 4 s (fun c => by omega) (fun _ => ⟨vp_in_nI (by omega) (by omega), ?_⟩)
      rw [ei, ar_at _ (by omega), ar_at _ (by omega), hfr s (by omega), A j hj s (by omega)]
      refine ⟨vp_in_nI (by omega) (by omega), xa_fits hG (f90 s) (K90 j s) (fun q => xb_1 (nm_r (nI_1 s) (ih (s + 1) (by omega) (fun t ht => ?_)))) (fun q => xb_0 (h0 (fun z => q ?_)))⟩
      · by_cases w : t = s
        · subst w; exact q
        · exact h t (by omega)
      · have := z s (by omega)
        unfold mf_hf at this
        rw [up_n (by omega)] at this; exact this
  unfold wpX_fitsCaught
  dsimp only
  refine xa_cgt hG (by omega) (md_Vlt hG.1 (mg_V hG hM Y hk)) (xa_po2 hG hM Y hkr hj ej (xb_n' (by omega) ⟨5, L 4 0 rfl (fun t ht => by omega)⟩))
theorem mk_fr90 (K90 : ∀ q s, K q s ≤ 90) {f : Nat → Nat} (f90 : ∀ s, f s ≤ 90) (k : Nat) : ∀ s, mk_fr M K k f s ≤ 90 := by
  intro s; unfold mk_fr; split
  · exact K90 k s
  · exact f90 s
theorem xa_rat {post : Int32 → SX → Prop} {k : Nat} {b : Bool} {dp : Int32} {fr f : Nat → Nat} (hG : md_G g) (hM : md_M g) (Y : ml_Y g m P D) (hkr : ∀ k, k < m → kr k = md_kx (P k)) (hk : k < m) (hhm : ∀ k, k < m → hm k = (M k).toNat) (A : mk_A m D K kp) (K90 : ∀ q s, K q s ≤ 90) (f90 : ∀ s, f s ≤ 90) (hb : b = true → dp = nI (D k) ∧ ∀ s, s < 4 + D k → fr s = f s) (hnb : b = false → M k = true) (H1 : ∀ w, mk_rs g m P D M K k b f = w → w ≠ 0 → ∀ (dp' th' : Int32) (fr' : Nat → Nat), post (nI w) ((nI (mc_cc g)), (nI (mc_hc g)), (nI m), f_tooMany, f_layAnswer, f_wrongKind, f_wrongKey, f_grown, dp', th', f_lastReason, f_valueDepth, f_objectCount, f_hasRun, f_begun, f_nowAt, f_endClass, (ar (mc_p g)), (ar (mc_e g)), (ar (mc_o g)), (mc_r g), (ar (mc_f g)), (ar (mc_t g)), (ar (mc_g g)), (ar (mc_k g)), (ar kr), (ar D), a_cameWith, a_ledWith, a_faults, a_found, a_hasFound, (ar kp), (ar hm), (ar fr'), a_kind, a_value, a_objectClass, a_objectReady)) (H0 : mk_rs g m P D M K k b f = 0 → (∀ s, mf_cg g P k (D k) (mk_fr M K k f) s ≤ 90) → ∀ fr' : Nat → Nat, (∀ s, s < 4 + md_th g (P k) (D k) → fr' s = mf_cg g P k (D k) (mk_fr M K k f) s) → post 0 ((nI (mc_cc g)), (nI (mc_hc g)), (nI m), f_tooMany, f_layAnswer, f_wrongKind, f_wrongKey, f_grown, (nI (md_th g (P k) (D k))), (mf_b (decide (md_gb (mc_o g (P k % 24))))), f_lastReason, f_valueDepth, f_objectCount, f_hasRun, f_begun, f_nowAt, f_endClass, (ar (mc_p g)), (ar (mc_e g)), (ar (mc_o g)), (mc_r g), (ar (mc_f g)), (ar (mc_t g)), (ar (mc_g g)), (ar (mc_k g)), (ar kr), (ar D), a_cameWith, a_ledWith, a_faults, a_found, a_hasFound, (ar kp), (ar hm), (ar fr'), a_kind, a_value, a_objectClass, a_objectReady)) : wpX_reasonAt post ((nI (mc_cc g)), (nI (mc_hc g)), (nI m), f_tooMany, f_layAnswer, f_wrongKind, f_wrongKey, f_grown, dp, (mf_b b), f_lastReason, f_valueDepth, f_objectCount, f_hasRun, f_begun, f_nowAt, f_endClass, (ar (mc_p g)), (ar (mc_e g)), (ar (mc_o g)), (mc_r g), (ar (mc_f g)), (ar (mc_t g)), (ar (mc_g g)), (ar (mc_k g)), (ar kr), (ar D), a_cameWith, a_ledWith, a_faults, a_found, a_hasFound, (ar kp), (ar hm), (ar fr), a_kind, a_value, a_objectClass, a_objectReady) (nI k) := by
  have hm40 := Y.1
  have hcc := hG.1
  have hhc := hG.2.1
  have v := mg_V hG hM Y hk
  have hpl := md_Vlt hcc v
  have hi := md_Vi hcc v
  have hDs : ∀ q, q < m → D q ≤ 6 := fun q hq => mg_D hG hM Y hq
  have hDk := hDs k hk
  have F90 := mk_fr90 (M := M) K90 f90 k
  -- with the frame of the place
  have S : ¬ (M k = true ∧ b = true ∧ ¬ mk_ft g K k (4 + D k) f) → ∀ (fr : Nat → Nat) (th : Int32), (∀ s, s < 4 + D k → fr s = mk_fr M K k f s) → ∃ n, wX_reasonAt_50 post (nI k) (nI (md_kx (P k))) (nI (P k % 24)) (nI (mc_cc g)) (nI (mc_hc g)) (nI m) f_tooMany f_layAnswer f_wrongKind f_wrongKey f_grown (nI (D k)) th f_lastReason f_valueDepth f_objectCount f_hasRun f_begun f_nowAt f_endClass (ar (mc_p g)) (ar (mc_e g)) (ar (mc_o g)) (mc_r g) (ar (mc_f g)) (ar (mc_t g)) (ar (mc_g g)) (ar (mc_k g)) (ar kr) (ar D) a_cameWith a_ledWith a_faults a_found a_hasFound (ar kp) (ar hm) (ar fr) a_kind a_value a_objectClass a_objectReady n 0 := by
    intro n1 fr th hfr
    have S93 : mk_hok g m P K k (mk_fr M K k f) → wX_reasonAt_93 post (nI k) (nI (md_kx (P k))) (nI (P k % 24)) (nI (mc_cc g)) (nI (mc_hc g)) (nI m) f_tooMany f_layAnswer f_wrongKind f_wrongKey f_grown (nI (D k)) th f_lastReason f_valueDepth f_objectCount f_hasRun f_begun f_nowAt f_endClass (ar (mc_p g)) (ar (mc_e g)) (ar (mc_o g)) (mc_r g) (ar (mc_f g)) (ar (mc_t g)) (ar (mc_g g)) (ar (mc_k g)) (ar kr) (ar D) a_cameWith a_ledWith a_faults a_found a_hasFound (ar kp) (ar hm) (ar fr) a_kind a_value a_objectClass a_objectReady := by
      intro hok
      unfold wX_reasonAt_93
      refine xa_need hG hM Y hkr hk rfl F90 hfr (fun nd => xb_1 ?_) (fun nd => xb_0 ?_)
      · have c90 := mn_cg90 (P := P) hG (show k < 40 by omega) F90 nd
        refine xa_chg hG hM Y hkr hk rfl F90 hfr nd (fun fr2 h2 => ?_)
        have last : mk_rs g m P D M K k b f = 0 → wX_reasonAt_139 post (nI (P k % 24)) (nI (mc_cc g)) (nI (mc_hc g)) (nI m) f_tooMany f_layAnswer f_wrongKind f_wrongKey f_grown (nI (md_th g (P k) (D k))) th f_lastReason f_valueDepth f_objectCount f_hasRun f_begun f_nowAt f_endClass (ar (mc_p g)) (ar (mc_e g)) (ar (mc_o g)) (mc_r g) (ar (mc_f g)) (ar (mc_t g)) (ar (mc_g g)) (ar (mc_k g)) (ar kr) (ar D) a_cameWith a_ledWith a_faults a_found a_hasFound (ar kp) (ar hm) (ar fr2) a_kind a_value a_objectClass a_objectReady := by
          intro e0
          have H0' := H0 e0 c90 fr2 h2
          unfold wX_reasonAt_139
          refine ⟨vp_in_nI (by omega) (by omega), ?_⟩
          rw [ar_at _ (by omega)]
          refine xa_gb (hG.2.2.1 _) (fun q => ⟨rfl, by decide, ?_⟩) (fun q => ⟨rfl, by decide, ?_⟩)
          · rw [decide_eq_true q] at H0'; exact H0'
          · rw [decide_eq_false q] at H0'; exact H0'
        refine xa_jk2 hG hM Y hk (fun q hq => ?_) (fun hq => ?_)
        · obtain ⟨j, hj, ej, eD⟩ := mg_j Y hk hq
          have ix : mf_ix P m q = j := by rw [← ej]; exact mf_ix_eq m j Y.2.1 hj
          have rs : mk_rs g m P D M K k b f = if mk_ft g K j (4 + md_th g (P k) (D k)) (mf_cg g P k (D k) (mk_fr M K k f)) then 0 else 4 := by
            unfold mk_rs
            rw [if_neg n1, if_neg (fun z => z hok), if_neg (fun z => z nd), hq]
            dsimp only
            rw [ix]
          refine xa_po2 hG hM Y hkr hj ej (xb_n (by omega) ?_)
          rw [← eD] at rs
          refine xa_fm hG hm40 hj (hDs j hj) A K90 c90 (fun s hs => h2 s (by omega)) (fun z => xb_1 (last ?_)) (fun z => xb_0 ?_)
          · rw [if_pos z] at rs; exact rs
          · rw [if_neg z] at rs; exact H1 4 rs (by omega) _ _ _
        · refine xa_po3 hG hM Y hkr (xb_m (last ?_))
          unfold mk_rs
          rw [if_neg n1, if_neg (fun z => z hok), if_neg (fun z => z nd), hq]
      · refine H1 3 ?_ (by omega) _ _ _
        unfold mk_rs
        rw [if_neg n1, if_neg (fun z => z hok), if_pos nd]
    have L : ∀ e x, x + e = 4 → x ≤ mc_hc g → (∀ y, y < x → md_cv g y (P k) → mk_ft g K (mf_ix P m (md_at (P k) (mc_g g y))) 5 (mf_hf g (mk_fr M K k f) y)) → wX_reasonAt_50 post (nI k) (nI (md_kx (P k))) (nI (P k % 24)) (nI (mc_cc g)) (nI (mc_hc g)) (nI m) f_tooMany f_layAnswer f_wrongKind f_wrongKey f_grown (nI (D k)) th f_lastReason f_valueDepth f_objectCount f_hasRun f_begun f_nowAt f_endClass (ar (mc_p g)) (ar (mc_e g)) (ar (mc_o g)) (mc_r g) (ar (mc_f g)) (ar (mc_t g)) (ar (mc_g g)) (ar (mc_k g)) (ar kr) (ar D) a_cameWith a_ledWith a_faults a_found a_hasFound (ar kp) (ar hm) (ar fr) a_kind a_value a_objectClass a_objectReady (e + 1) (nI x) := by
      intro e
      induction e with
      | zero =>
        intro x hx hxc h
        exact pk_le 4 x (fun _ => S93 (fun y hy cv => h y (by omega) cv)) (fun c => by omega)
      | succ e ih =>
        intro x hx hxc h
        refine pk_le 4 x (fun c => by omega) (fun _ => pk_le (mc_hc g) x (fun c => S93 (fun y hy cv => h y (by omega) cv)) (fun c => ?_))
        refine xa_cov hG (by omega) (by omega) (fun cv => xb_1 ?_) (fun cv => xb_0 (nm_r (nI_1 x) (ih (x + 1) (by omega) (by omega) (fun y hy cy => ?_))))
        · refine xa_fc hG hM Y hkr hk c cv A K90 F90 (fun s hs => hfr s (by omega)) (fun z => xb_1 (nm_r (nI_1 x) (ih (x + 1) (by omega) (by omega) (fun y hy cy => ?_)))) (fun z => xb_0 (H1 2 ?_ (by omega) _ _ _))
          · by_cases w : y = x
            · subst w; exact z
            · exact h y (by omega) cy
          · unfold mk_rs
            rw [if_neg n1, if_pos (fun y => z (y x c cv))]
        · by_cases w : y = x
          · subst w; exact absurd cy cv
          · exact h y (by omega) cy
    exact ⟨5, L 4 0 rfl (by omega) (fun y hy => by omega)⟩
  unfold wpX_reasonAt
  dsimp only
  refine ⟨vp_in_nI (by omega) (by omega), nm_r (e' := nI (md_kx (P k))) (by rw [ar_at _ (by omega), hkr k hk]) (nm_r (e' := nI (P k % 24)) (by rw [xk_31 (md_kxlt _ hpl), xk_i]) ⟨vp_in_nI (by omega) (by omega), ?_⟩)⟩
  rw [ar_at _ (by omega), hhm k hk]
  cases eM : M k with
  | false =>
    refine xb_0 ?_
    have eb : b = true := by
      cases q : b
      · have := hnb q; rw [eM] at this; cases this
      · rfl
    obtain ⟨ed, ef⟩ := hb eb
    rw [ed]
    refine S (fun z => by rw [eM] at z; cases z.1) fr _ (fun s hs => ?_)
    unfold mk_fr; rw [eM]; exact ef s hs
  | true =>
    have S38 : ¬ (M k = true ∧ b = true ∧ ¬ mk_ft g K k (4 + D k) f) → wX_reasonAt_38 post (nI k) (nI (md_kx (P k))) (nI (P k % 24)) (nI (mc_cc g)) (nI (mc_hc g)) (nI m) f_tooMany f_layAnswer f_wrongKind f_wrongKey f_grown dp (mf_b b) f_lastReason f_valueDepth f_objectCount f_hasRun f_begun f_nowAt f_endClass (ar (mc_p g)) (ar (mc_e g)) (ar (mc_o g)) (mc_r g) (ar (mc_f g)) (ar (mc_t g)) (ar (mc_g g)) (ar (mc_k g)) (ar kr) (ar D) a_cameWith a_ledWith a_faults a_found a_hasFound (ar kp) (ar hm) (ar fr) a_kind a_value a_objectClass a_objectReady := by
      intro n1
      unfold wX_reasonAt_38
      refine xa_loadK (by omega) (fun fr1 h1 => S n1 fr1 _ (fun s hs => ?_))
      unfold mk_fr; rw [eM, if_pos rfl, h1 s (by omega)]; exact A k hk s hs
    refine xb_1 ?_
    cases eb : b with
    | false =>
      subst eb
      exact xb_0 (S38 (fun z => by cases z.2.1))
    | true =>
      subst eb
      obtain ⟨ed, ef⟩ := hb rfl
      refine xb_1 (xa_fm hG hm40 hk hDk A K90 f90 ef (fun z => xb_1 (S38 (fun y => y.2.2 z))) (fun z => xb_0 (H1 1 ?_ (by omega) _ _ _)))
      unfold mk_rs
      rw [if_pos ⟨eM, rfl, z⟩]
/-- what check answers and why -/
theorem xl_check {post : Int32 → SX → Prop} {fr : Nat → Nat} {dp0 th0 : Int32} (hG : md_G g) (hM : md_M g) (Y : ml_Y g m P D) (hkr : ∀ k, k < m → kr k = md_kx (P k)) (hhm : ∀ k, k < m → hm k = (M k).toNat) (hMp : ∀ k, k < m → (M k = true ↔ ∃ j, j < m ∧ mg_hit g P j k)) (A : mk_A m D K kp) (K90 : ∀ q s, K q s ≤ 90) (H : ∀ r, mk_ck g m P D M K m 0 true (mc_e g) = r → ∀ (dp th : Int32) (fr' : Nat → Nat), post (match r with | none => -1 | some (k, _) => nI k) ((nI (mc_cc g)), (nI (mc_hc g)), (nI m), f_tooMany, f_layAnswer, f_wrongKind, f_wrongKey, f_grown, dp, th, ((match r with | none => 0 | some (_, w) => nI w)), f_valueDepth, f_objectCount, f_hasRun, f_begun, f_nowAt, f_endClass, (ar (mc_p g)), (ar (mc_e g)), (ar (mc_o g)), (mc_r g), (ar (mc_f g)), (ar (mc_t g)), (ar (mc_g g)), (ar (mc_k g)), (ar kr), (ar D), a_cameWith, a_ledWith, a_faults, a_found, a_hasFound, (ar kp), (ar hm), (ar fr'), a_kind, a_value, a_objectClass, a_objectReady)) : wpX_check post ((nI (mc_cc g)), (nI (mc_hc g)), (nI m), f_tooMany, f_layAnswer, f_wrongKind, f_wrongKey, f_grown, dp0, th0, f_lastReason, f_valueDepth, f_objectCount, f_hasRun, f_begun, f_nowAt, f_endClass, (ar (mc_p g)), (ar (mc_e g)), (ar (mc_o g)), (mc_r g), (ar (mc_f g)), (ar (mc_t g)), (ar (mc_g g)), (ar (mc_k g)), (ar kr), (ar D), a_cameWith, a_ledWith, a_faults, a_found, a_hasFound, (ar kp), (ar hm), (ar fr), a_kind, a_value, a_objectClass, a_objectReady) := by
  have hm40 := Y.1
  obtain ⟨m0, P0, D0⟩ := mg_0 Y
  have L : ∀ e k, k + e = m → ∀ (b : Bool) (dp : Int32) (fr f : Nat → Nat), (k < m → b = true → dp = nI (D k) ∧ ∀ s, s < 4 + D k → fr s = f s) → (k < m → b = false → M k = true) → (∀ s, f s ≤ 90) → mk_ck g m P D M K m 0 true (mc_e g) = mk_ck g m P D M K e k b f → wX_check_21 post (e + 1) (nI k) (nI (mc_cc g)) (nI (mc_hc g)) (nI m) f_tooMany f_layAnswer f_wrongKind f_wrongKey f_grown dp (mf_b b) 0 f_valueDepth f_objectCount f_hasRun f_begun f_nowAt f_endClass (ar (mc_p g)) (ar (mc_e g)) (ar (mc_o g)) (mc_r g) (ar (mc_f g)) (ar (mc_t g)) (ar (mc_g g)) (ar (mc_k g)) (ar kr) (ar D) a_cameWith a_ledWith a_faults a_found a_hasFound (ar kp) (ar hm) (ar fr) a_kind a_value a_objectClass a_objectReady := by
    intro e
    induction e with
    | zero =>
      intro k hk b dp fr f _ _ _ ec
      have ek : k = m := by omega
      subst ek
      have := H none (ec.trans rfl) dp (mf_b b) fr
      exact pk_le 40 k (fun _ => this) (fun _ => pk_le k k (fun _ => this) (fun c => by omega))
    | succ e ih =>
      intro k hk b dp fr f h1 h2 f90 ec
      have hkm : k < m := by omega
      refine pk_le 40 k (fun c => by omega) (fun _ => pk_le m k (fun c => by omega) (fun _ => ?_))
      refine xa_rat hG hM Y hkr hkm hhm A K90 f90 (h1 hkm) (h2 hkm) (fun w ew w0 dp' th' fr' => ?_) (fun e0 c90 fr' hfr' => xb_0 (nm_r (nI_1 k) (ih (k + 1) (by omega) _ _ fr' (mf_cg g P k (D k) (mk_fr M K k f)) (fun hk1 q => ?_) (fun hk1 q => ?_) c90 ?_)))
      · have e1 : mk_ck g m P D M K (e + 1) k b f = some (k, w) := by
          simp only [mk_ck]
          rw [ew, if_neg w0]
        have w4 : w ≤ 4 := by
          rw [← ew]; unfold mk_rs
          split
          · omega
          · split
            · omega
            · split
              · omega
              · split
                · split <;> omega
                · omega
        exact br_f (nI_ne0 (by omega) (by omega)) (H _ (ec.trans e1) dp' th' fr')
      · have b' : md_gb (mc_o g (P k % 24)) := of_decide_eq_true q
        obtain ⟨_, _, eD⟩ := mg_b Y hkm b'
        rw [eD]; exact ⟨rfl, hfr'⟩
      · have b' : ¬ md_gb (mc_o g (P k % 24)) := of_decide_eq_false q
        exact (hMp (k + 1) hk1).mpr (mg_mapped Y hk1 b')
      · rw [ec]
        simp only [mk_ck]
        rw [if_pos e0]
  unfold wpX_check
  dsimp only
  refine pk_eq m 0 (fun c => by omega) (fun _ => xa_bf (fun fr1 h1 => ⟨m + 1, ?_⟩))
  refine L m 0 (by omega) true 0 fr1 (mc_e g) (fun _ _ => ?_) (fun _ z => by cases z) (fun s => by have := hG.2.2.2.2.2.2 s; omega) rfl
  rw [D0]; exact ⟨rfl, fun s hs => h1 s (by omega)⟩
end
