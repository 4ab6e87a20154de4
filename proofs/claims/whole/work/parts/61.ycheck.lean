/-! ===== the reference: the one pass ===== -/
section
variable {f_length f_handlers f_many f_there f_typed f_wrongNumber f_wrongPlace f_size f_why f_height f_objects f_line f_begun f_last f_end : Int32} {a_parent a_begin a_op a_arg a_from a_to a_target a_caught a_places a_heights a_gone a_worst a_frames a_maps a_high a_known a_mapped a_now a_sorts a_ints a_classes a_ready : Nat → Int32}
variable {g : md_C} {m : Nat} {P D pl hi kp mp : Nat → Nat} {M : Nat → Bool} {K : Nat → Nat → Nat}
theorem ya_und {post : Int32 → Prop} {j q d : Nat} {nw f : Nat → Nat} (hG : md_G g) (hM : md_M g) (Y : ml_Y g m P D) (hpl : ∀ k, k < m → pl k = P k) (hj : j < m) (ej : P j = q) (hd : d = D j) (A : mk_A m D K kp) (K90 : ∀ q s, K q s ≤ 90) (f90 : ∀ s, f s ≤ 90) (hnw : ∀ s, s < 4 + d → nw s = f s) (h1 : mk_ft g K j (4 + d) f → post 1) (h0 : ¬ mk_ft g K j (4 + d) f → post 0) : wpY_isUnder post ((nI (mc_cc g)), (nI (mc_hc g)), (nI m), f_there, f_typed, f_wrongNumber, f_wrongPlace, (nI d), f_why, f_height, f_objects, f_line, f_begun, f_last, f_end, (ar (mc_p g)), (ar (mc_e g)), (ar (mc_o g)), (mc_r g), (ar (mc_f g)), (ar (mc_t g)), (ar (mc_g g)), (ar (mc_k g)), (ar pl), a_heights, a_gone, a_worst, a_frames, (ar kp), a_high, a_known, a_mapped, (ar nw), a_sorts, a_ints, a_classes, a_ready) (nI q) := by
  have hm := Y.1
  have hD := mg_D hG hM Y hj
  have e4 : (4 : Int32) + nI d = nI (4 + d) := nI_add 4 _
  have L : ∀ e s, s + e = 4 + d → (∀ t, t < s → mt_fit g (f t) (K j t)) → wY_isUnder_8 post (nI j) (nI (mc_cc g)) (nI (mc_hc g)) (nI m) f_there f_typed f_wrongNumber f_wrongPlace (nI d) f_why f_height f_objects f_line f_begun f_last f_end (ar (mc_p g)) (ar (mc_e g)) (ar (mc_o g)) (mc_r g) (ar (mc_f g)) (ar (mc_t g)) (ar (mc_g g)) (ar (mc_k g)) (ar pl) a_heights a_gone a_worst a_frames (ar kp) a_high a_known a_mapped (ar nw) a_sorts a_ints a_classes a_ready (e + 1) (nI s) := by
    intro e
    induction e with
    | zero =>
      intro s hs h
      have es : s = 4 + d := by omega
      subst es
      exact pk_le (4 + d) (4 + d) (fun _ => h1 h) (fun c => by omega) e4
    | succ e ih =>
      intro s hs h
      have ei : (10 : Int32) * nI j + nI s = nI (10 * j + s) := by
        show nI 10 * nI j + nI s = _
        rw [pk_mul, nI_add]
      refine pk_le (4 + d) s (fun c => by omega) (fun _ => ⟨vp_in_nI (by omega) (by omega), ?_⟩) e4
      rw [ei, ar_at _ (by omega), ar_at _ (by omega), hnw s (by omega), A j hj s (by omega)]
      refine ⟨vp_in_nI (by omega) (by omega), ya_fits hG (f90 s) (K90 j s) (fun q => xb_1 (nm_r (nI_1 s) (ih (s + 1) (by omega) (fun t ht => ?_)))) (fun q => xb_0 (h0 (fun z => q (z s (by omega)))))⟩
      by_cases w : t = s
      · subst w; exact q
      · exact h t (by omega)
  unfold wpY_isUnder
  dsimp only
  exact ya_num2 hG hM Y hpl hj ej ⟨4 + d + 1, L (4 + d) 0 (by omega) (fun t ht => by omega)⟩
theorem ya_look {post : Int32 → SY → Prop} {k : Nat} {b : Bool} {nw f0 f : Nat → Nat} (hG : md_G g) (hM : md_M g) (Y : ml_Y g m P D) (hpl : ∀ k, k < m → pl k = P k) (hk : k < m) (A : mk_A m D K kp) (K90 : ∀ q s, K q s ≤ 90) (f90 : ∀ s, f0 s ≤ 90) (ef : f = mk_fr M K k f0) (n1 : ¬ (M k = true ∧ b = true ∧ ¬ mk_ft g K k (4 + D k) f0)) (hnw : ∀ s, s < 4 + D k → nw s = f s) (H1 : ∀ w, mk_rs g m P D M K k b f0 = w → w ≠ 0 → ∀ (sz : Int32) (nw' : Nat → Nat), post (nI w) ((nI (mc_cc g)), (nI (mc_hc g)), (nI m), f_there, f_typed, f_wrongNumber, f_wrongPlace, sz, f_why, f_height, f_objects, f_line, f_begun, f_last, f_end, (ar (mc_p g)), (ar (mc_e g)), (ar (mc_o g)), (mc_r g), (ar (mc_f g)), (ar (mc_t g)), (ar (mc_g g)), (ar (mc_k g)), (ar pl), a_heights, a_gone, a_worst, a_frames, (ar kp), (ar hi), a_known, a_mapped, (ar nw'), a_sorts, a_ints, a_classes, a_ready)) (H0 : mk_rs g m P D M K k b f0 = 0 → (∀ s, mf_cg g P k (D k) f s ≤ 90) → ∀ nw' : Nat → Nat, (∀ s, s < 4 + md_th g (P k) (D k) → nw' s = mf_cg g P k (D k) f s) → post 0 ((nI (mc_cc g)), (nI (mc_hc g)), (nI m), f_there, f_typed, f_wrongNumber, f_wrongPlace, (nI (md_th g (P k) (D k))), f_why, f_height, f_objects, f_line, f_begun, f_last, f_end, (ar (mc_p g)), (ar (mc_e g)), (ar (mc_o g)), (mc_r g), (ar (mc_f g)), (ar (mc_t g)), (ar (mc_g g)), (ar (mc_k g)), (ar pl), a_heights, a_gone, a_worst, a_frames, (ar kp), (ar hi), a_known, a_mapped, (ar nw'), a_sorts, a_ints, a_classes, a_ready)) : wpY_look post ((nI (mc_cc g)), (nI (mc_hc g)), (nI m), f_there, f_typed, f_wrongNumber, f_wrongPlace, (nI (D k)), f_why, f_height, f_objects, f_line, f_begun, f_last, f_end, (ar (mc_p g)), (ar (mc_e g)), (ar (mc_o g)), (mc_r g), (ar (mc_f g)), (ar (mc_t g)), (ar (mc_g g)), (ar (mc_k g)), (ar pl), a_heights, a_gone, a_worst, a_frames, (ar kp), (ar hi), a_known, a_mapped, (ar nw), a_sorts, a_ints, a_classes, a_ready) (nI k) := by
  have hm40 := Y.1
  have hcc := hG.1
  have hhc := hG.2.1
  have v := mg_V hG hM Y hk
  have hpk := md_Vlt hcc v
  have F90 : ∀ s, f s ≤ 90 := by rw [ef]; exact mk_fr90 K90 f90 k
  have L : ∀ x8 : Int32, ((md_L g (P k) = none ∧ x8 = -1) ∨ ∃ q, md_L g (P k) = some q ∧ x8 = nI q) → ∀ e x, x + e = mc_hc g → (∀ y, y < x → md_cv g y (P k) → mk_ft g K (mf_ix P m (md_at (P k) (mc_g g y))) 5 (mf_hf g f y)) → wY_look_27 post (nI k) (nI (D k)) (nI (nw 4)) x8 (nI (mc_cc g)) (nI (mc_hc g)) (nI m) f_there f_typed f_wrongNumber f_wrongPlace f_why f_height f_objects f_line f_begun f_last f_end (e + 1) (nI x) (nI (D k)) (ar (mc_p g)) (ar (mc_e g)) (ar (mc_o g)) (mc_r g) (ar (mc_f g)) (ar (mc_t g)) (ar (mc_g g)) (ar (mc_k g)) (ar pl) a_heights a_gone a_worst a_frames (ar kp) (ar hi) a_known a_mapped (ar nw) a_sorts a_ints a_classes a_ready := by
    intro x8 h8 e
    induction e with
    | zero =>
      intro x hx h
      have ex : x = mc_hc g := by omega
      subst ex
      have hok : mk_hok g m P K k (mk_fr M K k f0) := by rw [← ef]; exact h
      refine pk_le (mc_hc g) (mc_hc g) (fun _ => ?_) (fun c => by omega)
      refine ya_does hG hM Y hpl hk rfl F90 hnw (fun nd nw2 h2 => xb_1 ?_) (fun nd sz nw2 => xb_0 (H1 3 ?_ (by omega) _ _))
      · have c90 := mn_cg90 (P := P) hG (show k < 40 by omega) F90 nd
        have nd' : mf_nd g m P k (D k) (mk_fr M K k f0) := by rw [← ef]; exact nd
        rcases h8 with ⟨hq, rfl⟩ | ⟨q, hq, rfl⟩
        · refine xb_m (H0 ?_ c90 nw2 h2)
          unfold mk_rs
          rw [if_neg n1, if_neg (fun z => z hok), if_neg (fun z => z nd'), hq]
        · obtain ⟨j, hj, ej, eD⟩ := mg_j Y hk hq
          have ix : mf_ix P m q = j := by rw [← ej]; exact mf_ix_eq m j Y.2.1 hj
          have hq1 : q < 1327104 := by rw [← ej]; exact md_Vlt hcc (mg_V hG hM Y hj)
          have rs : mk_rs g m P D M K k b f0 = if mk_ft g K j (4 + md_th g (P k) (D k)) (mf_cg g P k (D k) f) then 0 else 4 := by
            unfold mk_rs
            rw [if_neg n1, if_neg (fun z => z hok), if_neg (fun z => z nd'), hq]
            dsimp only
            rw [ix, ← ef]
          refine xb_n (by omega) (ya_und hG hM Y hpl hj ej eD.symm A K90 c90 h2 (fun z => xb_1 (H0 ?_ c90 nw2 h2)) (fun z => xb_0 (H1 4 ?_ (by omega) _ _)))
          · rw [if_pos z] at rs; exact rs
          · rw [if_neg z] at rs; exact rs
      · unfold mk_rs
        rw [if_neg n1, if_neg (fun z => z hok), if_pos (by rw [← ef]; exact nd)]
    | succ e ih =>
      intro x hx h
      have hb := hG.2.2.2.2.1 x
      refine pk_le (mc_hc g) x (fun c => by omega) (fun c => ⟨vp_in_nI (by omega) (by omega), ?_⟩)
      have e3 : upd (ar nw) 4 (3 + ar (mc_k g) (nI x).toNatClampNeg) = ar (mf_up nw 4 (3 + mc_k g x)) := by
        rw [ar_at _ (by omega)]
        show upd (ar nw) 4 (nI 3 + nI (mc_k g x)) = _
        rw [nI_add, ar_up]
      refine nm_r e3 ⟨vp_in_nI (by omega) (by omega), vp_in_nI (by omega) (by omega), ?_⟩
      rw [ar_at _ (by omega), ar_at _ (by omega), hpl k hk]
      have back : upd (ar (mf_up nw 4 (3 + mc_k g x))) 4 (nI (nw 4)) = ar nw := by
        rw [ar_up]
        refine congrArg ar ?_
        funext t
        by_cases q : t = 4
        · subst q; rw [up_s]
        · rw [up_n q, up_n q]
      have nx : (md_cv g x (P k) → mk_ft g K (mf_ix P m (md_at (P k) (mc_g g x))) 5 (mf_hf g f x)) → wY_look_98 post (wY_look_27 post (nI k) (nI (D k)) (nI (nw 4)) x8 (nI (mc_cc g)) (nI (mc_hc g)) (nI m) f_there f_typed f_wrongNumber f_wrongPlace f_why f_height f_objects f_line f_begun f_last f_end (e + 1)) (nI k) (nI (D k)) (nI (nw 4)) x8 (nI x) (nI (mc_cc g)) (nI (mc_hc g)) (nI m) f_there f_typed f_wrongNumber f_wrongPlace 1 f_why f_height f_objects f_line f_begun f_last f_end (ar (mc_p g)) (ar (mc_e g)) (ar (mc_o g)) (mc_r g) (ar (mc_f g)) (ar (mc_t g)) (ar (mc_g g)) (ar (mc_k g)) (ar pl) a_heights a_gone a_worst a_frames (ar kp) (ar hi) a_known a_mapped (ar (mf_up nw 4 (3 + mc_k g x))) a_sorts a_ints a_classes a_ready := by
        intro z
        unfold wY_look_98 wY_look_103
        refine nm_r back (xb_1 (nm_r (nI_1 x) (ih (x + 1) (by omega) (fun y hy cy => ?_))))
        by_cases w : y = x
        · subst w; exact z cy
        · exact h y (by omega) cy
      refine ya_at (by omega) ⟨vp_in_nI (by omega) (by omega), ?_⟩
      refine ya_cov hG (by omega) (by omega) (fun cv => xb_1 ?_) (fun cv => xb_0 (nx (fun z => absurd z cv)))
      obtain ⟨j, hj, ej, eD⟩ := mg_h Y hk c cv
      have ix : mf_ix P m (md_at (P k) (mc_g g x)) = j := by rw [← ej]; exact mf_ix_eq m j Y.2.1 hj
      refine ya_und (d := 1) (f := mf_hf g f x) hG hM Y hpl hj ej eD.symm A K90 (mn_h90 hG F90 x) (fun s hs => ?_) (fun z => xb_1 (nx (fun _ => by rw [ix]; exact z))) (fun z => xb_0 ?_)
      · unfold mf_hf
        by_cases q : s = 4
        · subst q; rw [up_s, up_s]
        · rw [up_n q, up_n q]; exact hnw s (by omega)
      · unfold wY_look_103
        refine nm_r back (xb_0 (H1 2 ?_ (by omega) _ _))
        unfold mk_rs
        have : ¬ mk_hok g m P K k (mk_fr M K k f0) := by
          intro y
          have := y x c cv
          rw [ix, ← ef] at this
          exact z this
        rw [if_neg n1, if_pos this]
  unfold wpY_look
  dsimp only
  refine nm_r (e' := nI (nw 4)) rfl ⟨vp_in_nI (by omega) (by omega), ?_⟩
  rw [ar_at _ (by omega), hpl k hk]
  exact ya_led2 hG hM Y hk (fun q hq => ⟨mc_hc g + 1, L _ (Or.inr ⟨q, hq, rfl⟩) (mc_hc g) 0 (by omega) (fun y hy => by omega)⟩) (fun hq => ⟨mc_hc g + 1, L _ (Or.inl ⟨hq, rfl⟩) (mc_hc g) 0 (by omega) (fun y hy => by omega)⟩)
theorem yl_check {post : Int32 → SY → Prop} {nw : Nat → Nat} {th : Int32} (hG : md_G g) (hM : md_M g) (Y : ml_Y g m P D) (hpl : ∀ k, k < m → pl k = P k) (hhi : ∀ k, k < m → hi k = D k) (hth : ¬ th = 0) (hmp : ∀ k, k < m → mp k = (M k).toNat) (hMp : ∀ k, k < m → (M k = true ↔ ∃ j, j < m ∧ mg_hit g P j k)) (A : mk_A m D K kp) (K90 : ∀ q s, K q s ≤ 90) (H : ∀ r, mk_ck g m P D M K m 0 true (mc_e g) = r → ∀ (sz : Int32) (nw' : Nat → Nat), post (match r with | none => -1 | some (k, _) => nI k) ((nI (mc_cc g)), (nI (mc_hc g)), (nI m), th, f_typed, f_wrongNumber, f_wrongPlace, sz, ((match r with | none => 0 | some (_, w) => nI w)), f_height, f_objects, f_line, f_begun, f_last, f_end, (ar (mc_p g)), (ar (mc_e g)), (ar (mc_o g)), (mc_r g), (ar (mc_f g)), (ar (mc_t g)), (ar (mc_g g)), (ar (mc_k g)), (ar pl), a_heights, a_gone, a_worst, a_frames, (ar kp), (ar hi), a_known, (ar mp), (ar nw'), a_sorts, a_ints, a_classes, a_ready)) : wpY_check post ((nI (mc_cc g)), (nI (mc_hc g)), (nI m), th, f_typed, f_wrongNumber, f_wrongPlace, f_size, f_why, f_height, f_objects, f_line, f_begun, f_last, f_end, (ar (mc_p g)), (ar (mc_e g)), (ar (mc_o g)), (mc_r g), (ar (mc_f g)), (ar (mc_t g)), (ar (mc_g g)), (ar (mc_k g)), (ar pl), a_heights, a_gone, a_worst, a_frames, (ar kp), (ar hi), a_known, (ar mp), (ar nw), a_sorts, a_ints, a_classes, a_ready) := by
  have hm40 := Y.1
  have hcc := hG.1
  obtain ⟨m0, P0, D0⟩ := mg_0 Y
  have L : ∀ e k, k + e = m → ∀ (b : Bool) (dp : Int32) (nw f : Nat → Nat), (k < m → b = true → dp = nI (D k) ∧ ∀ s, s < 4 + D k → nw s = f s) → (k < m → b = false → M k = true) → (∀ s, f s ≤ 90) → mk_ck g m P D M K m 0 true (mc_e g) = mk_ck g m P D M K e k b f → wY_check_23 post (e + 1) (mf_b b) (nI k) (nI (mc_cc g)) (nI (mc_hc g)) (nI m) th f_typed f_wrongNumber f_wrongPlace dp 0 f_height f_objects f_line f_begun f_last f_end (ar (mc_p g)) (ar (mc_e g)) (ar (mc_o g)) (mc_r g) (ar (mc_f g)) (ar (mc_t g)) (ar (mc_g g)) (ar (mc_k g)) (ar pl) a_heights a_gone a_worst a_frames (ar kp) (ar hi) a_known (ar mp) (ar nw) a_sorts a_ints a_classes a_ready := by
    intro e
    induction e with
    | zero =>
      intro k hk b dp nw f _ _ _ ec
      have ek : k = m := by omega
      subst ek
      have := H none (ec.trans rfl) dp nw
      exact pk_le k k (fun _ => this) (fun c => by omega)
    | succ e ih =>
      intro k hk b dp nw f h1 h2 f90 ec
      have hkm : k < m := by omega
      have v := mg_V hG hM Y hkm
      have hDk := mg_D hG hM Y hkm
      have fail : ∀ w, mk_rs g m P D M K k b f = w → w ≠ 0 → w ≤ 4 → ∀ (sz : Int32) (nw' : Nat → Nat), wY_check_87 post (wY_check_23 post (e + 1)) (nI k) (nI (mc_cc g)) (nI (mc_hc g)) (nI m) th f_typed f_wrongNumber f_wrongPlace sz (nI w) f_height f_objects f_line f_begun f_last f_end (ar (mc_p g)) (ar (mc_e g)) (ar (mc_o g)) (mc_r g) (ar (mc_f g)) (ar (mc_t g)) (ar (mc_g g)) (ar (mc_k g)) (ar pl) a_heights a_gone a_worst a_frames (ar kp) (ar hi) a_known (ar mp) (ar nw') a_sorts a_ints a_classes a_ready := by
        intro w ew w0 w4 sz nw'
        have e1 : mk_ck g m P D M K (e + 1) k b f = some (k, w) := by
          simp only [mk_ck]
          rw [ew, if_neg w0]
        unfold wY_check_87
        exact pk_le w 0 (fun c => by omega) (fun _ => H _ (ec.trans e1) sz nw')
      have w4 : mk_rs g m P D M K k b f ≤ 4 := by
        unfold mk_rs
        split
        · omega
        · split
          · omega
          · split
            · omega
            · split
              · split <;> omega
              · omega
      have look : ¬ (M k = true ∧ b = true ∧ ¬ mk_ft g K k (4 + D k) f) → ∀ nw : Nat → Nat, (∀ s, s < 4 + D k → nw s = mk_fr M K k f s) → wY_check_71 post (wY_check_23 post (e + 1)) (nI k) (nI (mc_cc g)) (nI (mc_hc g)) (nI m) th f_typed f_wrongNumber f_wrongPlace (nI (D k)) 0 f_height f_objects f_line f_begun f_last f_end (ar (mc_p g)) (ar (mc_e g)) (ar (mc_o g)) (mc_r g) (ar (mc_f g)) (ar (mc_t g)) (ar (mc_g g)) (ar (mc_k g)) (ar pl) a_heights a_gone a_worst a_frames (ar kp) (ar hi) a_known (ar mp) (ar nw) a_sorts a_ints a_classes a_ready := by
        intro n1 nw hnw
        unfold wY_check_71
        refine xb_0 (ya_look hG hM Y hpl hkm A K90 f90 rfl n1 hnw (fun w ew w0 sz nw' => fail w ew w0 (by omega) sz nw') (fun e0 c90 nw' h' => ?_))
        unfold wY_check_87
        refine pk_le 0 0 (fun _ => ⟨vp_in_nI (by omega) (by omega), ?_⟩) (fun c => by omega)
        have ec' : mk_ck g m P D M K m 0 true (mc_e g) = mk_ck g m P D M K e (k + 1) (decide (md_gb (mc_o g (P k % 24)))) (mf_cg g P k (D k) (mk_fr M K k f)) := by
          rw [ec]; simp only [mk_ck]; rw [if_pos e0]
        rw [ar_at _ (by omega), hpl k hkm]
        have := md_Vlt hcc v
        refine ya_bh hG v (fun q => xb_n (by omega) (nm_r (nI_1 k) (ih (k + 1) (by omega) true _ nw' (mf_cg g P k (D k) (mk_fr M K k f)) (fun hk1 _ => ?_) (fun _ z => by cases z) c90 ?_))) (fun q => xb_m (nm_r (nI_1 k) (ih (k + 1) (by omega) false _ nw' (mf_cg g P k (D k) (mk_fr M K k f)) (fun _ z => by cases z) (fun hk1 _ => ?_) c90 ?_)))
        · obtain ⟨_, _, eD⟩ := mg_b Y hkm q
          rw [eD]; exact ⟨rfl, h'⟩
        · rw [decide_eq_true q] at ec'; exact ec'
        · exact (hMp (k + 1) hk1).mpr (mg_mapped Y hk1 q)
        · rw [decide_eq_false q] at ec'; exact ec'
      refine pk_le m k (fun c => by omega) (fun _ => ⟨vp_in_nI (by omega) (by omega), ?_⟩)
      rw [ar_at _ (by omega), hmp k hkm]
      cases eM : M k with
      | false =>
        refine xb_0 ?_
        have eb : b = true := by
          cases q : b
          · have := h2 hkm q; rw [eM] at this; cases this
          · rfl
        obtain ⟨ed, ef⟩ := h1 hkm eb
        rw [ed]
        refine look (fun z => by rw [eM] at z; cases z.1) nw (fun s hs => ?_)
        unfold mk_fr; rw [eM]; exact ef s hs
      | true =>
        have takes : ∀ nw1 : Nat → Nat, (∀ s, s < 4 + D k → nw1 s = kp (10 * k + s)) → ∀ s, s < 4 + D k → nw1 s = mk_fr M K k f s := by
          intro nw1 h s hs
          unfold mk_fr; rw [eM, if_pos rfl, h s hs]; exact A k hkm s hs
        refine xb_1 ?_
        cases eb : b with
        | false =>
          subst eb
          refine xb_0 ?_
          unfold wY_check_62
          exact ya_takeM (by omega) hDk (hhi k hkm) (fun nw1 hn => look (fun z => by cases z.2.1) nw1 (takes nw1 hn))
        | true =>
          subst eb
          obtain ⟨ed, ef⟩ := h1 hkm rfl
          refine xb_1 ⟨vp_in_nI (by omega) (by omega), ?_⟩
          rw [ar_at _ (by omega), hpl k hkm, ed]
          refine ya_und hG hM Y hpl hkm rfl rfl A K90 f90 ef (fun z => xb_1 ?_) (fun z => xb_0 ?_)
          · unfold wY_check_62
            exact ya_takeM (by omega) hDk (hhi k hkm) (fun nw1 hn => look (fun y => y.2.2 z) nw1 (takes nw1 hn))
          · unfold wY_check_62
            refine ya_takeM (by omega) hDk (hhi k hkm) (fun nw1 hn => ?_)
            unfold wY_check_71
            refine xb_1 (fail 1 ?_ (by omega) (by omega) _ _)
            unfold mk_rs
            rw [if_pos ⟨eM, rfl, z⟩]
  unfold wpY_check
  dsimp only
  refine br_f hth (ya_start (fun nw1 h1 => ⟨m + 1, ?_⟩))
  refine L m 0 (by omega) true 0 nw1 (mc_e g) (fun _ _ => ?_) (fun _ z => by cases z) (fun s => by have := hG.2.2.2.2.2.2 s; omega) rfl
  rw [D0]; exact ⟨rfl, fun s hs => h1 s (by omega)⟩
end
