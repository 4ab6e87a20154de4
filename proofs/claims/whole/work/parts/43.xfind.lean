/-! ===== the class: finding types ===== -/
section
variable {f_codeCount f_coverCount f_placeCount f_tooMany f_layAnswer f_wrongKind f_wrongKey f_grown f_frameDepth f_frameThere f_lastReason f_valueDepth f_objectCount f_hasRun f_begun f_nowAt f_endClass : Int32} {a_parent a_entry a_code a_operand a_coverFrom a_coverTo a_coverTarget a_coverClass a_placeKey a_placeDepth a_cameWith a_ledWith a_faults a_found a_hasFound a_kept a_hasMap a_frame a_kind a_value a_objectClass a_objectReady : Nat → Int32}
variable {g : md_C} {m : Nat} {P D kr : Nat → Nat}
theorem xa_po2 {post : Int32 → Prop} {q : Nat} (hG : md_G g) (hM : md_M g) (Y : ml_Y g m P D) (hkr : ∀ k, k < m → kr k = md_kx (P k)) {j : Nat} (hj : j < m) (ej : P j = q) (h : post (nI j)) : wpX_placeOf post (f_codeCount, f_coverCount, (nI m), f_tooMany, f_layAnswer, f_wrongKind, f_wrongKey, f_grown, f_frameDepth, f_frameThere, f_lastReason, f_valueDepth, f_objectCount, f_hasRun, f_begun, f_nowAt, f_endClass, a_parent, a_entry, a_code, a_operand, a_coverFrom, a_coverTo, a_coverTarget, a_coverClass, (ar kr), a_placeDepth, a_cameWith, a_ledWith, a_faults, a_found, a_hasFound, a_kept, a_hasMap, a_frame, a_kind, a_value, a_objectClass, a_objectReady) (nI (md_kx q)) := by
  have hK : ∀ j, j < m → P j < 1327104 := fun j hj => md_Vlt hG.1 (mg_V hG hM Y hj)
  refine xa_po Y.1 hkr hK (by rw [← ej]; exact hK j hj) (fun i hi ei => ?_) (fun no => absurd ej (no j hj))
  have : i = j := ml_inj Y.2.1 _ _ hi hj (ei.trans ej.symm)
  subst this; exact h
theorem xa_po3 {post : Int32 → Prop} (hG : md_G g) (hM : md_M g) (Y : ml_Y g m P D) (hkr : ∀ k, k < m → kr k = md_kx (P k)) (h : post (-1)) : wpX_placeOf post (f_codeCount, f_coverCount, (nI m), f_tooMany, f_layAnswer, f_wrongKind, f_wrongKey, f_grown, f_frameDepth, f_frameThere, f_lastReason, f_valueDepth, f_objectCount, f_hasRun, f_begun, f_nowAt, f_endClass, a_parent, a_entry, a_code, a_operand, a_coverFrom, a_coverTo, a_coverTarget, a_coverClass, (ar kr), a_placeDepth, a_cameWith, a_ledWith, a_faults, a_found, a_hasFound, a_kept, a_hasMap, a_frame, a_kind, a_value, a_objectClass, a_objectReady) (-1) :=
  xa_po_none Y.1 hkr (fun j hj => md_Vlt hG.1 (mg_V hG hM Y hj)) h
theorem xa_jk2 {post : Int32 → Prop} (hG : md_G g) (hM : md_M g) (Y : ml_Y g m P D) {k : Nat} (hk : k < m) (hs : ∀ q, md_L g (P k) = some q → post (nI (md_kx q))) (hn : md_L g (P k) = none → post (-1)) : wpX_jumpKey post ((nI (mc_cc g)), (nI (mc_hc g)), f_placeCount, f_tooMany, f_layAnswer, f_wrongKind, f_wrongKey, f_grown, f_frameDepth, f_frameThere, f_lastReason, f_valueDepth, f_objectCount, f_hasRun, f_begun, f_nowAt, f_endClass, (ar (mc_p g)), (ar (mc_e g)), (ar (mc_o g)), (mc_r g), (ar (mc_f g)), (ar (mc_t g)), (ar (mc_g g)), (ar (mc_k g)), a_placeKey, a_placeDepth, a_cameWith, a_ledWith, a_faults, a_found, a_hasFound, a_kept, a_hasMap, a_frame, a_kind, a_value, a_objectClass, a_objectReady) (nI (md_kx (P k))) := by
  obtain ⟨f1, f2, f3, f4, f5⟩ := mg_W Y hk
  have v := mg_V hG hM Y hk
  have n0 : mc_o g (P k % 24) = 16 → 0 < md_n (P k) := fun o => Nat.pos_of_ne_zero (fun z => f5 ⟨o, z⟩)
  refine xa_jk hG v (fun o z => f4 ⟨o, Or.inl z⟩) n0 (fun o => ?_) hs hn
  obtain ⟨w, e, _⟩ := md_Vcl hG.1 v (n0 o)
  have := md_Vi hG.1 w
  have : ¬ md_c (P k) (md_n (P k) - 1) + 1 = mc_cc g := fun z => f1 (Or.inr ⟨o, n0 o, z⟩)
  have := hG.1
  omega
theorem xa_giveOn {post : Int32 → SX → Prop} {T : mf_T} {gr : Bool} {k : Nat} {hf fd fr : Nat → Nat} (hG : md_G g) (hM : md_M g) (Y : ml_Y g m P D) (hkr : ∀ k, k < m → kr k = md_kx (P k)) (hk : k < m) (kn : T.1 k = true) (A : mf_A m D T hf fd) (T90 : mn_90 T) (H0 : mf_st g m P D k (T, gr) = none → ∀ (hf' fd' fr' : Nat → Nat) (gr' : Bool) (dp : Int32), post 0 ((nI (mc_cc g)), (nI (mc_hc g)), (nI m), f_tooMany, f_layAnswer, f_wrongKind, f_wrongKey, (mf_b gr'), dp, f_frameThere, f_lastReason, f_valueDepth, f_objectCount, f_hasRun, f_begun, f_nowAt, f_endClass, (ar (mc_p g)), (ar (mc_e g)), (ar (mc_o g)), (mc_r g), (ar (mc_f g)), (ar (mc_t g)), (ar (mc_g g)), (ar (mc_k g)), (ar kr), (ar D), a_cameWith, a_ledWith, a_faults, (ar fd'), (ar hf'), a_kept, a_hasMap, (ar fr'), a_kind, a_value, a_objectClass, a_objectReady)) (H1 : ∀ y, mf_st g m P D k (T, gr) = some y → ∀ (hf' fd' fr' : Nat → Nat) (dp : Int32), mf_A m D y.1 hf' fd' → post 1 ((nI (mc_cc g)), (nI (mc_hc g)), (nI m), f_tooMany, f_layAnswer, f_wrongKind, f_wrongKey, (mf_b y.2), dp, f_frameThere, f_lastReason, f_valueDepth, f_objectCount, f_hasRun, f_begun, f_nowAt, f_endClass, (ar (mc_p g)), (ar (mc_e g)), (ar (mc_o g)), (mc_r g), (ar (mc_f g)), (ar (mc_t g)), (ar (mc_g g)), (ar (mc_k g)), (ar kr), (ar D), a_cameWith, a_ledWith, a_faults, (ar fd'), (ar hf'), a_kept, a_hasMap, (ar fr'), a_kind, a_value, a_objectClass, a_objectReady)) : wpX_giveOn post ((nI (mc_cc g)), (nI (mc_hc g)), (nI m), f_tooMany, f_layAnswer, f_wrongKind, f_wrongKey, (mf_b gr), f_frameDepth, f_frameThere, f_lastReason, f_valueDepth, f_objectCount, f_hasRun, f_begun, f_nowAt, f_endClass, (ar (mc_p g)), (ar (mc_e g)), (ar (mc_o g)), (mc_r g), (ar (mc_f g)), (ar (mc_t g)), (ar (mc_g g)), (ar (mc_k g)), (ar kr), (ar D), a_cameWith, a_ledWith, a_faults, (ar fd), (ar hf), a_kept, a_hasMap, (ar fr), a_kind, a_value, a_objectClass, a_objectReady) (nI k) := by
  have hm := Y.1
  have hcc := hG.1
  have hhc := hG.2.1
  have v := mg_V hG hM Y hk
  have hpl := md_Vlt hcc v
  have hi := md_Vi hcc v
  have hDs : ∀ q, q < m → D q ≤ 6 := fun q hq => mg_D hG hM Y hq
  have th6 := (mg_th Y hk).2
  -- behind the handlers
  have S93 : ∀ (Z : mf_Z) (hf fd fr : Nat → Nat) (dp : Int32), Z = mf_hs g m P k (T.2 k) (mc_hc g) (T, gr) → mf_A m D Z.1 hf fd → wX_giveOn_93 post (nI k) (nI (md_kx (P k))) (nI (P k % 24)) (nI (mc_cc g)) (nI (mc_hc g)) (nI m) f_tooMany f_layAnswer f_wrongKind f_wrongKey (mf_b Z.2) dp f_frameThere f_lastReason f_valueDepth f_objectCount f_hasRun f_begun f_nowAt f_endClass (ar (mc_p g)) (ar (mc_e g)) (ar (mc_o g)) (mc_r g) (ar (mc_f g)) (ar (mc_t g)) (ar (mc_g g)) (ar (mc_k g)) (ar kr) (ar D) a_cameWith a_ledWith a_faults (ar fd) (ar hf) a_kept a_hasMap (ar fr) a_kind a_value a_objectClass a_objectReady := by
    intro Z hf fd fr dp eZ A
    have kZ : Z.1.1 k = true := by rw [eZ]; exact mn_hsk kn _
    have Z90 : mn_90 Z.1 := by rw [eZ]; exact mn_hs90 hG T90 (T90 k) _
    unfold wX_giveOn_93
    refine xa_loadF (by omega) (fun fr1 hfr1 => ?_)
    have hfr : ∀ s, s < 4 + D k → fr1 s = Z.1.2 k s := by
      intro s hs
      have := hDs k hk
      rw [hfr1 s (by omega)]; exact A.2 k hk kZ s hs
    refine xa_need hG hM Y hkr hk rfl (Z90 k) hfr (fun nd => xb_1 ?_) (fun nd => xb_0 ?_)
    · refine xa_chg hG hM Y hkr hk rfl (Z90 k) hfr nd (fun fr2 hfr2 => ?_)
      have c90 := mn_cg90 (P := P) hG (show k < 40 by omega) (Z90 k) nd
      have st : mf_st g m P D k (T, gr) = some (mf_gb g P k (4 + md_th g (P k) (D k)) (mf_cg g P k (D k) (Z.1.2 k)) (mf_gj g m P k (4 + md_th g (P k) (D k)) (mf_cg g P k (D k) (Z.1.2 k)) Z)) := by
        unfold mf_st
        dsimp only
        rw [← eZ, if_pos nd, mf_jb]
      have beh : ∀ (W : mf_Z) (hf fd : Nat → Nat), W = mf_gj g m P k (4 + md_th g (P k) (D k)) (mf_cg g P k (D k) (Z.1.2 k)) Z → mf_A m D W.1 hf fd → mn_90 W.1 → (vp_in (nI (P k % 24)) 24 ∧ wpX_goesBehind (fun r => (r = 0 → post 1 ((nI (mc_cc g)), (nI (mc_hc g)), (nI m), f_tooMany, f_layAnswer, f_wrongKind, f_wrongKey, (mf_b W.2), (nI (md_th g (P k) (D k))), f_frameThere, f_lastReason, f_valueDepth, f_objectCount, f_hasRun, f_begun, f_nowAt, f_endClass, (ar (mc_p g)), (ar (mc_e g)), (ar (mc_o g)), (mc_r g), (ar (mc_f g)), (ar (mc_t g)), (ar (mc_g g)), (ar (mc_k g)), (ar kr), (ar D), a_cameWith, a_ledWith, a_faults, (ar fd), (ar hf), a_kept, a_hasMap, (ar fr2), a_kind, a_value, a_objectClass, a_objectReady)) ∧ (¬ r = 0 → wpX_giveFrame (fun u => match u with | (f_codeCount, f_coverCount, f_placeCount, f_tooMany, f_layAnswer, f_wrongKind, f_wrongKey, f_grown, f_frameDepth, f_frameThere, f_lastReason, f_valueDepth, f_objectCount, f_hasRun, f_begun, f_nowAt, f_endClass, a_parent, a_entry, a_code, a_operand, a_coverFrom, a_coverTo, a_coverTarget, a_coverClass, a_placeKey, a_placeDepth, a_cameWith, a_ledWith, a_faults, a_found, a_hasFound, a_kept, a_hasMap, a_frame, a_kind, a_value, a_objectClass, a_objectReady) => post 1 (f_codeCount, f_coverCount, f_placeCount, f_tooMany, f_layAnswer, f_wrongKind, f_wrongKey, f_grown, f_frameDepth, f_frameThere, f_lastReason, f_valueDepth, f_objectCount, f_hasRun, f_begun, f_nowAt, f_endClass, a_parent, a_entry, a_code, a_operand, a_coverFrom, a_coverTo, a_coverTarget, a_coverClass, a_placeKey, a_placeDepth, a_cameWith, a_ledWith, a_faults, a_found, a_hasFound, a_kept, a_hasMap, a_frame, a_kind, a_value, a_objectClass, a_objectReady)) ((nI (mc_cc g)), (nI (mc_hc g)), (nI m), f_tooMany, f_layAnswer, f_wrongKind, f_wrongKey, (mf_b W.2), (nI (md_th g (P k) (D k))), f_frameThere, f_lastReason, f_valueDepth, f_objectCount, f_hasRun, f_begun, f_nowAt, f_endClass, (ar (mc_p g)), (ar (mc_e g)), (ar (mc_o g)), (mc_r g), (ar (mc_f g)), (ar (mc_t g)), (ar (mc_g g)), (ar (mc_k g)), (ar kr), (ar D), a_cameWith, a_ledWith, a_faults, (ar fd), (ar hf), a_kept, a_hasMap, (ar fr2), a_kind, a_value, a_objectClass, a_objectReady) (nI k + 1))) (ar (mc_o g) (nI (P k % 24)).toNatClampNeg)) := by
        intro W hf fd eW A W90
        refine ⟨vp_in_nI (by omega) (by omega), ?_⟩
        rw [ar_at _ (by omega)]
        refine xa_gb (hG.2.2.1 _) (fun b => xb_1 ?_) (fun b => xb_0 ?_)
        · rw [nI_1]
          obtain ⟨hk1, _, eD⟩ := mg_b Y hk b
          refine xa_give hG hm hk1 hDs A W90 c90 (fun s hs => hfr2 s (by omega)) (fun hf' fd' A' => ?_)
          rw [← eW] at st
          unfold mf_gb at st
          rw [if_pos b] at st
          rw [eD] at A' ⊢
          exact H1 _ st hf' fd' fr2 _ A'
        · rw [← eW] at st
          unfold mf_gb at st
          rw [if_neg b] at st
          exact H1 _ st hf fd fr2 _ A
      refine xa_jk2 hG hM Y hk (fun q hq => ?_) (fun hq => ?_)
      · obtain ⟨j, hj, ej, eD⟩ := mg_j Y hk hq
        have ix : mf_ix P m q = j := by rw [← ej]; exact mf_ix_eq m j Y.2.1 hj
        refine xa_po2 hG hM Y hkr hj ej ?_
        refine xa_give hG hm hj hDs A Z90 c90 (fun s hs => hfr2 s (by omega)) (fun hf' fd' A' => ?_)
        have eW : (mf_gv g Z.1 j (4 + D j) (mf_cg g P k (D k) (Z.1.2 k)), Z.2 || mf_fl g Z.1 j (4 + D j) (mf_cg g P k (D k) (Z.1.2 k))) = mf_gj g m P k (4 + md_th g (P k) (D k)) (mf_cg g P k (D k) (Z.1.2 k)) Z := by
          unfold mf_gj mf_g1
          rw [hq]
          dsimp only
          rw [ix, eD]
        exact beh _ hf' fd' eW A' (by rw [eW]; unfold mf_gj; rw [hq]; exact mn_g90 hG.2.2.2.2.2.1 Z90 c90)
      · refine xa_po3 hG hM Y hkr ?_
        have eW : Z = mf_gj g m P k (4 + md_th g (P k) (D k)) (mf_cg g P k (D k) (Z.1.2 k)) Z := by
          unfold mf_gj; rw [hq]
        unfold wpX_giveFrame
        dsimp only
        exact xb_m (beh Z hf fd eW A Z90)
    · have st : mf_st g m P D k (T, gr) = none := by
        unfold mf_st
        dsimp only
        rw [← eZ, if_neg nd]
      exact H0 st hf fd fr1 _ _
  have L : ∀ e x, x + e = 4 → x ≤ mc_hc g → ∀ (Z : mf_Z) (hf fd fr : Nat → Nat) (dp : Int32), Z = mf_hs g m P k (T.2 k) x (T, gr) → mf_A m D Z.1 hf fd → (∀ s, s < 4 → fr s = T.2 k s) → wX_giveOn_24 post (nI k) (nI (md_kx (P k))) (nI (P k % 24)) (e + 1) (nI x) (nI (mc_cc g)) (nI (mc_hc g)) (nI m) f_tooMany f_layAnswer f_wrongKind f_wrongKey (mf_b Z.2) dp f_frameThere f_lastReason f_valueDepth f_objectCount f_hasRun f_begun f_nowAt f_endClass (ar (mc_p g)) (ar (mc_e g)) (ar (mc_o g)) (mc_r g) (ar (mc_f g)) (ar (mc_t g)) (ar (mc_g g)) (ar (mc_k g)) (ar kr) (ar D) a_cameWith a_ledWith a_faults (ar fd) (ar hf) a_kept a_hasMap (ar fr) a_kind a_value a_objectClass a_objectReady := by
    intro e
    induction e with
    | zero =>
      intro x hx hxc Z hf fd fr dp eZ A hfr
      have ex : x = mc_hc g := by omega
      subst ex
      exact pk_le 4 (mc_hc g) (fun _ => S93 Z hf fd fr dp eZ A) (fun c => by omega)
    | succ e ih =>
      intro x hx hxc Z hf fd fr dp eZ A hfr
      refine pk_le 4 x (fun c => by omega) (fun _ => pk_le (mc_hc g) x (fun c => ?_) (fun c => ?_))
      · have ex : x = mc_hc g := by omega
        subst ex
        exact S93 Z hf fd fr dp eZ A
      · refine xa_cov hG (by omega) (by omega) (fun cv => xb_1 ⟨vp_in_nI (by omega) (by omega), ?_⟩) (fun cv => xb_0 ?_)
        · have hb := hG.2.2.2.2.1 x
          have e3 : upd (ar fr) 4 (3 + ar (mc_k g) (nI x).toNatClampNeg) = ar (mf_up fr 4 (3 + mc_k g x)) := by
            rw [ar_at _ (by omega)]
            show upd (ar fr) 4 (nI 3 + nI (mc_k g x)) = _
            rw [nI_add, ar_up]
          refine nm_r e3 (xa_cgt hG (by omega) hpl ?_)
          obtain ⟨j, hj, ej, eD⟩ := mg_h Y hk c cv
          have ix : mf_ix P m (md_at (P k) (mc_g g x)) = j := by rw [← ej]; exact mf_ix_eq m j Y.2.1 hj
          have Z90 : mn_90 Z.1 := by rw [eZ]; exact mn_hs90 hG T90 (T90 k) _
          refine xa_po2 hG hM Y hkr hj ej ?_
          refine xa_give (f := mf_hf g (T.2 k) x) hG hm hj hDs A Z90 (mn_h90 hG (T90 k) x) (fun s hs => ?_) (fun hf' fd' A' => ?_)
          · unfold mf_hf
            by_cases q : s = 4
            · subst q; rw [up_s, up_s]
            · rw [up_n q, up_n q]; exact hfr s (by omega)
          · have eW : (mf_gv g Z.1 j (4 + D j) (mf_hf g (T.2 k) x), Z.2 || mf_fl g Z.1 j (4 + D j) (mf_hf g (T.2 k) x)) = mf_hs g m P k (T.2 k) (x + 1) (T, gr) := by
              show _ = if md_cv g x (P k) then mf_g1 g (mf_hs g m P k (T.2 k) x (T, gr)) (mf_ix P m (md_at (P k) (mc_g g x))) 5 (mf_hf g (T.2 k) x) else _
              rw [if_pos cv, ← eZ, ix, eD]; rfl
            refine nm_r (nI_1 x) (ih (x + 1) (by omega) (by omega) _ hf' fd' _ dp eW A' (fun s hs => ?_))
            rw [up_n (by omega)]; exact hfr s hs
        · have eW : Z = mf_hs g m P k (T.2 k) (x + 1) (T, gr) := by
            show _ = if md_cv g x (P k) then mf_g1 g (mf_hs g m P k (T.2 k) x (T, gr)) (mf_ix P m (md_at (P k) (mc_g g x))) 5 (mf_hf g (T.2 k) x) else _
            rw [if_neg cv]; exact eZ
          exact nm_r (nI_1 x) (ih (x + 1) (by omega) (by omega) Z hf fd fr dp eW A hfr)
  unfold wpX_giveOn
  dsimp only
  refine ⟨vp_in_nI (by omega) (by omega), nm_r (e' := nI (md_kx (P k))) (by rw [ar_at _ (by omega), hkr k hk]) (nm_r (e' := nI (P k % 24)) (by rw [xk_31 (md_kxlt _ hpl), xk_i]) ?_)⟩
  refine xa_loadF (by omega) (fun fr1 hfr1 => ⟨5, L 4 0 rfl (by omega) (T, gr) hf fd fr1 _ rfl A (fun s hs => ?_)⟩)
  rw [hfr1 s (by omega)]; exact A.2 k hk kn s (by omega)
theorem xa_round {post : Int32 → SX → Prop} {J32 : _} {T0 : mf_T} {x1 : Nat} (hG : md_G g) (hM : md_M g) (Y : ml_Y g m P D) (hkr : ∀ k, k < m → kr k = md_kx (P k)) (T90 : mn_90 T0) (H0 : mf_rd g m P D m (T0, false) = none → ∀ (hf' fd' fr' : Nat → Nat) (gr' : Bool) (dp : Int32), post 0 ((nI (mc_cc g)), (nI (mc_hc g)), (nI m), f_tooMany, f_layAnswer, f_wrongKind, f_wrongKey, (mf_b gr'), dp, f_frameThere, f_lastReason, f_valueDepth, f_objectCount, f_hasRun, f_begun, f_nowAt, f_endClass, (ar (mc_p g)), (ar (mc_e g)), (ar (mc_o g)), (mc_r g), (ar (mc_f g)), (ar (mc_t g)), (ar (mc_g g)), (ar (mc_k g)), (ar kr), (ar D), a_cameWith, a_ledWith, a_faults, (ar fd'), (ar hf'), a_kept, a_hasMap, (ar fr'), a_kind, a_value, a_objectClass, a_objectReady)) (H1 : ∀ y, mf_rd g m P D m (T0, false) = some y → ∀ (hf' fd' fr' : Nat → Nat) (dp : Int32), mf_A m D y.1 hf' fd' → J32 (nI (x1 + 1)) (nI (mc_cc g)) (nI (mc_hc g)) (nI m) f_tooMany f_layAnswer f_wrongKind f_wrongKey (mf_b y.2) dp f_frameThere f_lastReason f_valueDepth f_objectCount f_hasRun f_begun f_nowAt f_endClass (ar (mc_p g)) (ar (mc_e g)) (ar (mc_o g)) (mc_r g) (ar (mc_f g)) (ar (mc_t g)) (ar (mc_g g)) (ar (mc_k g)) (ar kr) (ar D) a_cameWith a_ledWith a_faults (ar fd') (ar hf') a_kept a_hasMap (ar fr') a_kind a_value a_objectClass a_objectReady) : ∀ e k, k + e = m → ∀ (Z : mf_Z) (hf fd fr : Nat → Nat) (dp : Int32), mf_rd g m P D k (T0, false) = some Z → mf_A m D Z.1 hf fd → wX_findTypes_52 post J32 (nI x1) (e + 1) (nI k) (nI (mc_cc g)) (nI (mc_hc g)) (nI m) f_tooMany f_layAnswer f_wrongKind f_wrongKey (mf_b Z.2) dp f_frameThere f_lastReason f_valueDepth f_objectCount f_hasRun f_begun f_nowAt f_endClass (ar (mc_p g)) (ar (mc_e g)) (ar (mc_o g)) (mc_r g) (ar (mc_f g)) (ar (mc_t g)) (ar (mc_g g)) (ar (mc_k g)) (ar kr) (ar D) a_cameWith a_ledWith a_faults (ar fd) (ar hf) a_kept a_hasMap (ar fr) a_kind a_value a_objectClass a_objectReady := by
  have hm := Y.1
  intro e
  induction e with
  | zero =>
    intro k hk Z hf fd fr dp eZ A
    have ek : k = m := by omega
    subst ek
    exact pk_le 40 k (fun _ => nm_r (nI_1 x1) (H1 Z eZ hf fd fr dp A)) (fun _ => pk_le k k (fun _ => nm_r (nI_1 x1) (H1 Z eZ hf fd fr dp A)) (fun c => by omega))
  | succ e ih =>
    intro k hk Z hf fd fr dp eZ A
    refine pk_le 40 k (fun c => by omega) (fun _ => pk_le m k (fun c => by omega) (fun _ => ⟨vp_in_nI (by omega) (by omega), ?_⟩))
    rw [ar_at _ (by omega), A.1 k (by omega)]
    have Z90 := mi_rd90 hG hm k _ Z (by omega) eZ T90
    cases kk : Z.1.1 k with
    | false =>
      refine xb_0 (nm_r (nI_1 k) (ih (k + 1) (by omega) Z hf fd fr dp ?_ A))
      simp only [mf_rd]; rw [eZ]; dsimp only; rw [kk]; simp
    | true =>
      refine xb_1 ?_
      have nx : mf_rd g m P D (k + 1) (T0, false) = mf_st g m P D k Z := by
        simp only [mf_rd]; rw [eZ]; dsimp only; rw [kk]; simp
      refine xa_giveOn (T := Z.1) (gr := Z.2) hG hM Y hkr (by omega) kk A Z90 (fun hn hf' fd' fr' gr' dp' => xb_0 (H0 ?_ hf' fd' fr' gr' dp')) (fun y hy hf' fd' fr' dp' A' => xb_1 (nm_r (nI_1 k) (ih (k + 1) (by omega) y hf' fd' fr' dp' (nx.trans hy) A')))
      have := mi_rdn (g := g) (m := m) (P := P) (D := D) e (k + 1) (T0, false) (nx.trans hn)
      rw [show k + 1 + e = m by omega] at this
      exact this
theorem xa_rounds {post : Int32 → SX → Prop} (hG : md_G g) (hM : md_M g) (Y : ml_Y g m P D) (hkr : ∀ k, k < m → kr k = md_kx (P k)) : ∀ n x1 (T : mf_T) (hf fd fr : Nat → Nat) (dp : Int32), mf_mu m T < n → x1 + mf_mu m T ≤ 5000 → mn_90 T → mf_A m D T hf fd → (mf_it g m P D n T = none → ∀ (hf' fd' fr' : Nat → Nat) (gr' : Bool) (dp : Int32), post 0 ((nI (mc_cc g)), (nI (mc_hc g)), (nI m), f_tooMany, f_layAnswer, f_wrongKind, f_wrongKey, (mf_b gr'), dp, f_frameThere, f_lastReason, f_valueDepth, f_objectCount, f_hasRun, f_begun, f_nowAt, f_endClass, (ar (mc_p g)), (ar (mc_e g)), (ar (mc_o g)), (mc_r g), (ar (mc_f g)), (ar (mc_t g)), (ar (mc_g g)), (ar (mc_k g)), (ar kr), (ar D), a_cameWith, a_ledWith, a_faults, (ar fd'), (ar hf'), a_kept, a_hasMap, (ar fr'), a_kind, a_value, a_objectClass, a_objectReady)) → (∀ T', mf_it g m P D n T = some T' → ∀ (hf' fd' fr' : Nat → Nat) (gr' : Bool) (dp : Int32), mf_A m D T' hf' fd' → post 1 ((nI (mc_cc g)), (nI (mc_hc g)), (nI m), f_tooMany, f_layAnswer, f_wrongKind, f_wrongKey, (mf_b gr'), dp, f_frameThere, f_lastReason, f_valueDepth, f_objectCount, f_hasRun, f_begun, f_nowAt, f_endClass, (ar (mc_p g)), (ar (mc_e g)), (ar (mc_o g)), (mc_r g), (ar (mc_f g)), (ar (mc_t g)), (ar (mc_g g)), (ar (mc_k g)), (ar kr), (ar D), a_cameWith, a_ledWith, a_faults, (ar fd'), (ar hf'), a_kept, a_hasMap, (ar fr'), a_kind, a_value, a_objectClass, a_objectReady)) → wX_findTypes_32 post (n + 1) (nI x1) (nI (mc_cc g)) (nI (mc_hc g)) (nI m) f_tooMany f_layAnswer f_wrongKind f_wrongKey 1 dp f_frameThere f_lastReason f_valueDepth f_objectCount f_hasRun f_begun f_nowAt f_endClass (ar (mc_p g)) (ar (mc_e g)) (ar (mc_o g)) (mc_r g) (ar (mc_f g)) (ar (mc_t g)) (ar (mc_g g)) (ar (mc_k g)) (ar kr) (ar D) a_cameWith a_ledWith a_faults (ar fd) (ar hf) a_kept a_hasMap (ar fr) a_kind a_value a_objectClass a_objectReady := by
  intro n
  induction n with
  | zero => intro x1 T hf fd fr dp h; omega
  | succ n ih =>
    intro x1 T hf fd fr dp hmu hx T90 A H0 H1
    refine pk_le 1000000 x1 (fun c => by omega) (fun _ => xb_1 ⟨m + 1, ?_⟩)
    refine xa_round hG hM Y hkr T90 (fun hn => ?_) (fun y hy hf' fd' fr' dp' A' => ?_) m 0 (by omega) (T, false) hf fd fr dp rfl A
    · refine H0 ?_
      simp only [mf_it]; rw [hn]
    · have Q := mg_Qrd hG.2.2.2.2.2.1 Y m _ y (Nat.le_refl _) hy
      have y90 := mi_rd90 hG Y.1 m _ y (Nat.le_refl _) hy T90
      have it : mf_it g m P D (n + 1) T = if y.2 = true then mf_it g m P D n y.1 else some y.1 := by
        simp only [mf_it]; rw [hy]
      cases fy : y.2 with
      | true =>
        rw [fy] at it
        rw [if_pos rfl] at it
        rcases Q.2 fy with z | z
        · cases z
        · have z' : mf_mu m y.1 < mf_mu m T := z
          exact ih (x1 + 1) y.1 hf' fd' fr' dp' (by omega) (by omega) y90 A' (fun h => H0 (it.trans h)) (fun T' h => H1 T' (it.trans h))
      | false =>
        rw [fy] at it
        rw [if_neg (by simp)] at it
        refine pk_le 1000000 (x1 + 1) (fun c => by omega) (fun _ => xb_0 ?_)
        exact H1 y.1 it hf' fd' fr' _ dp' A'
/-- the first frame -/
def mf_T0 (g : md_C) : mf_T := mf_gv g (fun _ => false, fun _ _ => 0) 0 4 (mc_e g)
theorem mf_T0_90 (hG : md_G g) : mn_90 (mf_T0 g) := by
  have := mn_g90 (z := ((fun _ => false, fun _ _ => 0), false)) (p := 0) (n := 4) hG.2.2.2.2.2.1 (fun p s => by show 0 ≤ 90; omega) (fun s => by have := hG.2.2.2.2.2.2 s; show mc_e g s ≤ 90; omega)
  exact this
theorem xa_bf {post : SX → Prop} {fr : Nat → Nat} (H : ∀ fr' : Nat → Nat, (∀ s, s < 4 → fr' s = mc_e g s) → post ((nI (mc_cc g)), (nI (mc_hc g)), f_placeCount, f_tooMany, f_layAnswer, f_wrongKind, f_wrongKey, f_grown, 0, 1, f_lastReason, f_valueDepth, f_objectCount, f_hasRun, f_begun, f_nowAt, f_endClass, (ar (mc_p g)), (ar (mc_e g)), (ar (mc_o g)), (mc_r g), (ar (mc_f g)), (ar (mc_t g)), (ar (mc_g g)), (ar (mc_k g)), a_placeKey, a_placeDepth, a_cameWith, a_ledWith, a_faults, a_found, a_hasFound, a_kept, a_hasMap, (ar fr'), a_kind, a_value, a_objectClass, a_objectReady)) : wpX_beginFrame post ((nI (mc_cc g)), (nI (mc_hc g)), f_placeCount, f_tooMany, f_layAnswer, f_wrongKind, f_wrongKey, f_grown, f_frameDepth, f_frameThere, f_lastReason, f_valueDepth, f_objectCount, f_hasRun, f_begun, f_nowAt, f_endClass, (ar (mc_p g)), (ar (mc_e g)), (ar (mc_o g)), (mc_r g), (ar (mc_f g)), (ar (mc_t g)), (ar (mc_g g)), (ar (mc_k g)), a_placeKey, a_placeDepth, a_cameWith, a_ledWith, a_faults, a_found, a_hasFound, a_kept, a_hasMap, (ar fr), a_kind, a_value, a_objectClass, a_objectReady) := by
  have L : ∀ e s, s + e = 4 → ∀ fr : Nat → Nat, (∀ t, t < s → fr t = mc_e g t) → wX_beginFrame_2 post (nI (mc_cc g)) (nI (mc_hc g)) f_placeCount f_tooMany f_layAnswer f_wrongKind f_wrongKey f_grown f_frameDepth f_frameThere f_lastReason f_valueDepth f_objectCount f_hasRun f_begun f_nowAt f_endClass (e + 1) (nI s) (ar (mc_p g)) (ar (mc_e g)) (ar (mc_o g)) (mc_r g) (ar (mc_f g)) (ar (mc_t g)) (ar (mc_g g)) (ar (mc_k g)) a_placeKey a_placeDepth a_cameWith a_ledWith a_faults a_found a_hasFound a_kept a_hasMap (ar fr) a_kind a_value a_objectClass a_objectReady := by
    intro e
    induction e with
    | zero =>
      intro s hs fr h
      exact pk_le 4 s (fun _ => H fr (fun t ht => h t (by omega))) (fun c => by omega)
    | succ e ih =>
      intro s hs fr h
      refine pk_le 4 s (fun c => by omega) (fun _ => ?_)
      rw [ar_at _ (by omega)]
      refine ⟨vp_in_nI (by omega) (by omega), vp_in_nI (by omega) (by omega), nm_r (ar_ui _ _ (by omega)) (nm_r (nI_1 s) (ih (s + 1) (by omega) _ (fun t ht => ?_)))⟩
      by_cases q : t = s
      · subst q; exact up_s
      · rw [up_n q]; exact h t (by omega)
  unfold wpX_beginFrame
  dsimp only
  exact ⟨5, L 4 0 rfl fr (fun t ht => by omega)⟩
theorem xa_find {post : Int32 → SX → Prop} {hf fd fr : Nat → Nat} {gr : Bool} (hG : md_G g) (hM : md_M g) (Y : ml_Y g m P D) (hkr : ∀ k, k < m → kr k = md_kx (P k)) (H0 : mf_it g m P D 4000 (mf_T0 g) = none → ∀ (hf' fd' fr' : Nat → Nat) (gr' : Bool) (dp th : Int32), post 0 ((nI (mc_cc g)), (nI (mc_hc g)), (nI m), f_tooMany, f_layAnswer, f_wrongKind, f_wrongKey, (mf_b gr'), dp, th, f_lastReason, f_valueDepth, f_objectCount, f_hasRun, f_begun, f_nowAt, f_endClass, (ar (mc_p g)), (ar (mc_e g)), (ar (mc_o g)), (mc_r g), (ar (mc_f g)), (ar (mc_t g)), (ar (mc_g g)), (ar (mc_k g)), (ar kr), (ar D), a_cameWith, a_ledWith, a_faults, (ar fd'), (ar hf'), a_kept, a_hasMap, (ar fr'), a_kind, a_value, a_objectClass, a_objectReady)) (H1 : ∀ T', mf_it g m P D 4000 (mf_T0 g) = some T' → ∀ (hf' fd' fr' : Nat → Nat) (gr' : Bool) (dp th : Int32), mf_A m D T' hf' fd' → post 1 ((nI (mc_cc g)), (nI (mc_hc g)), (nI m), f_tooMany, f_layAnswer, f_wrongKind, f_wrongKey, (mf_b gr'), dp, th, f_lastReason, f_valueDepth, f_objectCount, f_hasRun, f_begun, f_nowAt, f_endClass, (ar (mc_p g)), (ar (mc_e g)), (ar (mc_o g)), (mc_r g), (ar (mc_f g)), (ar (mc_t g)), (ar (mc_g g)), (ar (mc_k g)), (ar kr), (ar D), a_cameWith, a_ledWith, a_faults, (ar fd'), (ar hf'), a_kept, a_hasMap, (ar fr'), a_kind, a_value, a_objectClass, a_objectReady)) : wpX_findTypes post ((nI (mc_cc g)), (nI (mc_hc g)), (nI m), f_tooMany, f_layAnswer, f_wrongKind, f_wrongKey, (mf_b gr), f_frameDepth, f_frameThere, f_lastReason, f_valueDepth, f_objectCount, f_hasRun, f_begun, f_nowAt, f_endClass, (ar (mc_p g)), (ar (mc_e g)), (ar (mc_o g)), (mc_r g), (ar (mc_f g)), (ar (mc_t g)), (ar (mc_g g)), (ar (mc_k g)), (ar kr), (ar D), a_cameWith, a_ledWith, a_faults, (ar fd), (ar hf), a_kept, a_hasMap, (ar fr), a_kind, a_value, a_objectClass, a_objectReady) := by
  have hm := Y.1
  obtain ⟨m0, P0, D0⟩ := mg_0 Y
  have L : ∀ e k, k + e = 40 → ∀ hf : Nat → Nat, (∀ t, t < k → hf t = 0) → wX_findTypes_2 post (nI (mc_cc g)) (nI (mc_hc g)) (nI m) f_tooMany f_layAnswer f_wrongKind f_wrongKey (mf_b gr) f_frameDepth f_frameThere f_lastReason f_valueDepth f_objectCount f_hasRun f_begun f_nowAt f_endClass (e + 1) (nI k) (ar (mc_p g)) (ar (mc_e g)) (ar (mc_o g)) (mc_r g) (ar (mc_f g)) (ar (mc_t g)) (ar (mc_g g)) (ar (mc_k g)) (ar kr) (ar D) a_cameWith a_ledWith a_faults (ar fd) (ar hf) a_kept a_hasMap (ar fr) a_kind a_value a_objectClass a_objectReady := by
    intro e
    induction e with
    | zero =>
      intro k hk hf h
      refine pk_le 40 k (fun _ => ?_) (fun c => by omega)
      refine xa_bf (fun fr1 hfr1 => ?_)
      have hDs : ∀ q, q < m → D q ≤ 6 := fun q hq => mg_D hG hM Y hq
      refine xa_give (p := 0) (T := (fun _ => false, fun _ _ => 0)) (f := mc_e g) hG hm m0 hDs ⟨fun q hq => h q (by omega), fun q _ z => (by cases z)⟩ (fun p s => by show 0 ≤ 90; omega) (fun s => by have := hG.2.2.2.2.2.2 s; omega) (fun s hs => hfr1 s (by omega)) (fun hf' fd' A' => ⟨4001, ?_⟩)
      have ef : (gr || mf_fl g (fun _ => false, fun _ _ => 0) 0 (4 + D 0) (mc_e g)) = true := by unfold mf_fl; simp
      have eT : mf_gv g (fun _ => false, fun _ _ => 0) 0 (4 + D 0) (mc_e g) = mf_T0 g := by rw [D0]; rfl
      rw [ef]
      rw [eT] at A'
      have mub := mf_mu_b m (mf_T0 g) hm
      exact xa_rounds hG hM Y hkr 4000 0 (mf_T0 g) hf' fd' fr1 _ (by omega) (by omega) (mf_T0_90 hG) A' (fun hn hf2 fd2 fr2 gr2 dp2 => H0 hn hf2 fd2 fr2 gr2 dp2 _) (fun T' hT hf2 fd2 fr2 gr2 dp2 A2 => H1 T' hT hf2 fd2 fr2 gr2 dp2 _ A2)
    | succ e ih =>
      intro k hk hf h
      refine pk_le 40 k (fun c => by omega) (fun _ => ⟨vp_in_nI (by omega) (by omega), nm_r (e' := ar (mf_up hf k 0)) (by rw [mi_n0]; exact ar_ui hf 0 (by omega)) (nm_r (nI_1 k) (ih (k + 1) (by omega) _ (fun t ht => ?_)))⟩)
      by_cases q : t = k
      · subst q; exact up_s
      · rw [up_n q]; exact h t (by omega)
  unfold wpX_findTypes
  dsimp only
  exact ⟨41, L 40 0 rfl hf (fun t ht => by omega)⟩
end
