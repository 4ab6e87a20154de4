/-! ===== the reference: what an instruction needs and makes of a frame ===== -/
section
variable {f_length f_handlers f_many f_there f_typed f_wrongNumber f_wrongPlace f_size f_why f_height f_objects f_line f_begun f_last f_end : Int32} {a_parent a_begin a_op a_arg a_from a_to a_target a_caught a_places a_heights a_gone a_worst a_frames a_maps a_high a_known a_mapped a_now a_sorts a_ints a_classes a_ready : Nat → Int32}
variable {g : md_C} {m k d : Nat} {P D pl hi nw f : Nat → Nat}
theorem ya_pull {post : Int32 → SY → Prop} (h0 : 0 < d) (hd : d ≤ 8) (H : post (nI (nw (3 + d))) (f_length, f_handlers, f_many, f_there, f_typed, f_wrongNumber, f_wrongPlace, (nI (d - 1)), f_why, f_height, f_objects, f_line, f_begun, f_last, f_end, a_parent, a_begin, a_op, a_arg, a_from, a_to, a_target, a_caught, a_places, a_heights, a_gone, a_worst, a_frames, a_maps, a_high, a_known, a_mapped, (ar nw), a_sorts, a_ints, a_classes, a_ready)) : wpY_pull post (f_length, f_handlers, f_many, f_there, f_typed, f_wrongNumber, f_wrongPlace, (nI d), f_why, f_height, f_objects, f_line, f_begun, f_last, f_end, a_parent, a_begin, a_op, a_arg, a_from, a_to, a_target, a_caught, a_places, a_heights, a_gone, a_worst, a_frames, a_maps, a_high, a_known, a_mapped, (ar nw), a_sorts, a_ints, a_classes, a_ready) := by
  unfold wpY_pull
  dsimp only
  refine nm_r (pk_sub (b := 1) h0) ?_
  have e : (3 : Int32) + nI (d - 1) + 1 = nI (3 + d) := by
    show nI 3 + nI (d - 1) + nI 1 = _
    rw [nI_add, nI_add]; exact congrArg nI (by omega)
  rw [e, ar_at _ (by omega)]
  exact ⟨vp_in_nI (by omega) (by omega), H⟩
theorem ya_push {post : SY → Prop} {v : Nat} (hd : d ≤ 7) (H : post (f_length, f_handlers, f_many, f_there, f_typed, f_wrongNumber, f_wrongPlace, (nI (d + 1)), f_why, f_height, f_objects, f_line, f_begun, f_last, f_end, a_parent, a_begin, a_op, a_arg, a_from, a_to, a_target, a_caught, a_places, a_heights, a_gone, a_worst, a_frames, a_maps, a_high, a_known, a_mapped, (ar (mf_up nw (4 + d) v)), a_sorts, a_ints, a_classes, a_ready)) : wpY_push post (f_length, f_handlers, f_many, f_there, f_typed, f_wrongNumber, f_wrongPlace, (nI d), f_why, f_height, f_objects, f_line, f_begun, f_last, f_end, a_parent, a_begin, a_op, a_arg, a_from, a_to, a_target, a_caught, a_places, a_heights, a_gone, a_worst, a_frames, a_maps, a_high, a_known, a_mapped, (ar nw), a_sorts, a_ints, a_classes, a_ready) (nI v) := by
  unfold wpY_push
  dsimp only
  have e : (4 : Int32) + nI d = nI (4 + d) := nI_add 4 d
  rw [e]
  exact ⟨vp_in_nI (by omega) (by omega), nm_r (ar_ui _ _ (by omega)) (nm_r (nI_1 d) H)⟩
theorem ya_isR {post : Int32 → Prop} {t : Nat} (ht : t ≤ 90) (h1 : 2 ≤ t ∧ t ≤ 10 → post 1) (h0 : ¬ (2 ≤ t ∧ t ≤ 10) → post 0) : wpY_isReference post (nI t) := by
  unfold wpY_isReference
  refine pk_eq t 2 (fun c => h1 (by omega)) (fun c => ya_isC ht (fun q => xb_1 (h1 ?_)) (fun q => xb_0 (h0 ?_)))
  · unfold mt_C at q; omega
  · unfold mt_C at q; omega
theorem ya_begun {post : Int32 → SY → Prop} {t : Nat} (hG : md_G g) (hM : md_M g) (Y : ml_Y g m P D) (hpl : ∀ k, k < m → pl k = P k) (hd : d ≤ 6) (ht : t ≤ 90) (f90 : ∀ s, f s ≤ 90) (hnw : ∀ s, s < 4 + d → nw s = f s) (h1 : mf_isM g m P t → ∀ nw' : Nat → Nat, (∀ s, s < 4 + d → nw' s = if f s = t then 3 + mf_mc g P t else f s) → post 1 ((nI (mc_cc g)), (nI (mc_hc g)), (nI m), f_there, f_typed, f_wrongNumber, f_wrongPlace, (nI d), f_why, f_height, f_objects, f_line, f_begun, f_last, f_end, (ar (mc_p g)), (ar (mc_e g)), (ar (mc_o g)), (mc_r g), (ar (mc_f g)), (ar (mc_t g)), (ar (mc_g g)), (ar (mc_k g)), (ar pl), a_heights, a_gone, a_worst, a_frames, a_maps, (ar hi), a_known, a_mapped, (ar nw'), a_sorts, a_ints, a_classes, a_ready)) (h0 : ¬ mf_isM g m P t → post 0 ((nI (mc_cc g)), (nI (mc_hc g)), (nI m), f_there, f_typed, f_wrongNumber, f_wrongPlace, (nI d), f_why, f_height, f_objects, f_line, f_begun, f_last, f_end, (ar (mc_p g)), (ar (mc_e g)), (ar (mc_o g)), (mc_r g), (ar (mc_f g)), (ar (mc_t g)), (ar (mc_g g)), (ar (mc_k g)), (ar pl), a_heights, a_gone, a_worst, a_frames, a_maps, (ar hi), a_known, a_mapped, (ar nw), a_sorts, a_ints, a_classes, a_ready)) : wpY_begun post ((nI (mc_cc g)), (nI (mc_hc g)), (nI m), f_there, f_typed, f_wrongNumber, f_wrongPlace, (nI d), f_why, f_height, f_objects, f_line, f_begun, f_last, f_end, (ar (mc_p g)), (ar (mc_e g)), (ar (mc_o g)), (mc_r g), (ar (mc_f g)), (ar (mc_t g)), (ar (mc_g g)), (ar (mc_k g)), (ar pl), a_heights, a_gone, a_worst, a_frames, a_maps, (ar hi), a_known, a_mapped, (ar nw), a_sorts, a_ints, a_classes, a_ready) (nI t) := by
  have hm := Y.1
  have hcc := hG.1
  have e4 : (4 : Int32) + nI d = nI (4 + d) := nI_add 4 d
  unfold wpY_begun
  dsimp only
  refine pk_lt t 11 (fun c => h0 (by unfold mf_isM; omega)) (fun c1 => pk_le 51 t (fun c => h0 (by unfold mf_isM; omega)) (fun c2 => ?_))
  have e : nI t - 11 = nI (t - 11) := pk_sub (b := 11) c1
  rw [e]
  refine pk_le m (t - 11) (fun c => h0 (by unfold mf_isM; omega)) (fun c3 => ⟨vp_in_nI (by omega) (by omega), ?_⟩)
  have v := mg_V hG hM Y c3
  have hpl1 := md_Vlt hcc v
  have hi1 := md_Vi hcc v
  have h20 := hG.2.2.1 (P (t - 11) % 24)
  rw [ar_at _ (by omega), hpl _ c3]
  refine ya_ins (by omega) ⟨vp_in_nI (by omega) (by omega), ?_⟩
  rw [ar_at _ (by omega)]
  refine pk_eq (mc_o g (P (t - 11) % 24)) 8 (fun z => ⟨vp_in_nI (by omega) (by omega), ya_ins (by omega) ⟨vp_in_nI (by omega) (by omega), nm_e ⟨4 + d + 1, ?_⟩⟩⟩) (fun z => h0 (fun y => z y.2.2))
  have isM : mf_isM g m P t := ⟨c1, c3, z⟩
  rw [nI_clamp (by omega), (mn_lim8 hG (i := P (t - 11) % 24) (Or.inl z)).2]
  have L : ∀ e s, s + e = 4 + d → ∀ nw1 : Nat → Nat, (∀ j, j < s → nw1 j = if f j = t then 3 + mf_mc g P t else f j) → (∀ j, s ≤ j → nw1 j = nw j) → wY_begun_67 post (nI t) (nI (mc_a g (P (t - 11) % 24))) (nI (mc_cc g)) (nI (mc_hc g)) (nI m) f_there f_typed f_wrongNumber f_wrongPlace (nI d) f_why f_height f_objects f_line f_begun f_last f_end (e + 1) (nI s) (ar (mc_p g)) (ar (mc_e g)) (ar (mc_o g)) (mc_r g) (ar (mc_f g)) (ar (mc_t g)) (ar (mc_g g)) (ar (mc_k g)) (ar pl) a_heights a_gone a_worst a_frames a_maps (ar hi) a_known a_mapped (ar nw1) a_sorts a_ints a_classes a_ready := by
    intro e
    induction e with
    | zero =>
      intro s hs nw1 a b
      exact pk_le (4 + d) s (fun _ => h1 isM nw1 (fun j hj => a j (by omega))) (fun c => by omega) e4
    | succ e ih =>
      intro s hs nw1 a b
      have f9 := f90 s
      have e3 : (3 : Int32) + nI (mc_a g (P (t - 11) % 24)) = nI (3 + mf_mc g P t) := nI_add 3 _
      refine pk_le (4 + d) s (fun c => by omega) (fun _ => ⟨vp_in_nI (by omega) (by omega), ?_⟩) e4
      rw [ar_at _ (by omega), b s (Nat.le_refl _), hnw s (by omega)]
      refine pk_eq (f s) t (fun q => ⟨vp_in_nI (by omega) (by omega), nm_r (e' := ar (mf_up nw1 s (3 + mf_mc g P t))) (by rw [e3]; exact ar_ui _ _ (by omega)) (nm_r (nI_1 s) (ih (s + 1) (by omega) _ (fun j hj => ?_) (fun j hj => ?_)))⟩) (fun q => nm_r (nI_1 s) (ih (s + 1) (by omega) nw1 (fun j hj => ?_) (fun j hj => b j (by omega))))
      · by_cases w : j = s
        · subst w; rw [up_s, if_pos q]
        · rw [up_n w]; exact a j (by omega)
      · rw [up_n (by omega)]; exact b j (by omega)
      · by_cases w : j = s
        · subst w; rw [b j (Nat.le_refl _), hnw j (by omega), if_neg q]
        · exact a j (by omega)
  exact L (4 + d) 0 (by omega) nw (fun j hj => by omega) (fun j _ => rfl)
theorem ya_does {post : Int32 → SY → Prop} (hG : md_G g) (hM : md_M g) (Y : ml_Y g m P D) (hpl : ∀ k, k < m → pl k = P k) (hk : k < m) (hd : d = D k) (f90 : ∀ s, f s ≤ 90) (hnw : ∀ s, s < 4 + d → nw s = f s) (H1 : mf_nd g m P k d f → ∀ nw' : Nat → Nat, (∀ s, s < 4 + md_th g (P k) d → nw' s = mf_cg g P k d f s) → post 1 ((nI (mc_cc g)), (nI (mc_hc g)), (nI m), f_there, f_typed, f_wrongNumber, f_wrongPlace, (nI (md_th g (P k) d)), f_why, f_height, f_objects, f_line, f_begun, f_last, f_end, (ar (mc_p g)), (ar (mc_e g)), (ar (mc_o g)), (mc_r g), (ar (mc_f g)), (ar (mc_t g)), (ar (mc_g g)), (ar (mc_k g)), (ar pl), a_heights, a_gone, a_worst, a_frames, a_maps, (ar hi), a_known, a_mapped, (ar nw'), a_sorts, a_ints, a_classes, a_ready)) (H0 : ¬ mf_nd g m P k d f → ∀ (sz : Int32) (nw' : Nat → Nat), post 0 ((nI (mc_cc g)), (nI (mc_hc g)), (nI m), f_there, f_typed, f_wrongNumber, f_wrongPlace, sz, f_why, f_height, f_objects, f_line, f_begun, f_last, f_end, (ar (mc_p g)), (ar (mc_e g)), (ar (mc_o g)), (mc_r g), (ar (mc_f g)), (ar (mc_t g)), (ar (mc_g g)), (ar (mc_k g)), (ar pl), a_heights, a_gone, a_worst, a_frames, a_maps, (ar hi), a_known, a_mapped, (ar nw'), a_sorts, a_ints, a_classes, a_ready)) : wpY_does post ((nI (mc_cc g)), (nI (mc_hc g)), (nI m), f_there, f_typed, f_wrongNumber, f_wrongPlace, (nI d), f_why, f_height, f_objects, f_line, f_begun, f_last, f_end, (ar (mc_p g)), (ar (mc_e g)), (ar (mc_o g)), (mc_r g), (ar (mc_f g)), (ar (mc_t g)), (ar (mc_g g)), (ar (mc_k g)), (ar pl), a_heights, a_gone, a_worst, a_frames, a_maps, (ar hi), a_known, a_mapped, (ar nw), a_sorts, a_ints, a_classes, a_ready) (nI k) := by
  have hm := Y.1
  have hcc := hG.1
  have v := mg_V hG hM Y hk
  have hPl := md_Vlt hcc v
  have hi1 := md_Vi hcc v
  have hD := mg_D hG hM Y hk
  have hth := mg_th Y hk
  have h20 := hG.2.2.1 (P k % 24)
  have t2 := md_tk2 (mc_o g (P k % 24))
  have p2 := md_pu2 (mc_o g (P k % 24))
  obtain ⟨_, _, _, _, f5⟩ := mg_W Y hk
  have tk := hth.1
  have th6 := hth.2
  rw [← hd] at tk th6 hD
  have nb1 : narrow .boolean (.int (1 : Int32)) = .int 1 := rfl
  have nb0 : narrow .boolean (.int (0 : Int32)) = .int 0 := rfl
  have thv : ∀ n t p, mc_o g (P k % 24) = n → md_tk n = t → md_pu n = p → md_th g (P k) d = d - t + p ∧ md_tk (mc_o g (P k % 24)) = t ∧ t ≤ d := by
    intro n t p e1 e2 e3
    unfold md_th; rw [e1] at tk ⊢; rw [e2] at tk ⊢; rw [e3]; exact ⟨rfl, rfl, tk⟩
  have f3 : 0 < d → nw (3 + d) = f (3 + d) := fun h => hnw _ (by omega)
  have f2 : 1 < d → nw (2 + d) = f (2 + d) := fun h => hnw _ (by omega)
  -- nothing needed, or all else than the one clause empty
  have S69 : ∀ x7 z0 : Nat, (0 < md_tk (mc_o g (P k % 24)) → x7 = f (3 + d)) → (1 < md_tk (mc_o g (P k % 24)) → z0 = f (2 + d)) → wY_does_69 post (nI k) (nI (P k)) (nI (mc_o g (P k % 24))) (mc_r g (P k % 24)) (nI (11 + k)) (nI x7) (nI z0) (nI (mc_cc g)) (nI (mc_hc g)) (nI m) f_there f_typed f_wrongNumber f_wrongPlace (nI (d - md_tk (mc_o g (P k % 24)))) f_why f_height f_objects f_line f_begun f_last f_end (ar (mc_p g)) (ar (mc_e g)) (ar (mc_o g)) (mc_r g) (ar (mc_f g)) (ar (mc_t g)) (ar (mc_g g)) (ar (mc_k g)) (ar pl) a_heights a_gone a_worst a_frames a_maps (ar hi) a_known a_mapped (ar nw) a_sorts a_ints a_classes a_ready := by
    intro x7 z0 h7 hz
    unfold wY_does_69
    have put : ∀ v, md_tk (mc_o g (P k % 24)) = 0 → md_th g (P k) d = d + 1 → mf_cg g P k d f = mf_up f (4 + d) v → mf_nd g m P k d f → post 1 ((nI (mc_cc g)), (nI (mc_hc g)), (nI m), f_there, f_typed, f_wrongNumber, f_wrongPlace, (nI (d + 1)), f_why, f_height, f_objects, f_line, f_begun, f_last, f_end, (ar (mc_p g)), (ar (mc_e g)), (ar (mc_o g)), (mc_r g), (ar (mc_f g)), (ar (mc_t g)), (ar (mc_g g)), (ar (mc_k g)), (ar pl), a_heights, a_gone, a_worst, a_frames, a_maps, (ar hi), a_known, a_mapped, (ar (mf_up nw (4 + d) v)), a_sorts, a_ints, a_classes, a_ready) := by
      intro v e0 e1 e2 nd
      have := H1 nd (mf_up nw (4 + d) v) (fun s hs => by
        rw [e2]
        by_cases q : s = 4 + d
        · subst q; rw [up_s, up_s]
        · rw [up_n q, up_n q]; exact hnw s (by omega))
      rw [e1] at this; exact this
    have idd : mf_cg g P k d f = f → md_th g (P k) d = d - md_tk (mc_o g (P k % 24)) → mf_nd g m P k d f → post 1 ((nI (mc_cc g)), (nI (mc_hc g)), (nI m), f_there, f_typed, f_wrongNumber, f_wrongPlace, (nI (d - md_tk (mc_o g (P k % 24)))), f_why, f_height, f_objects, f_line, f_begun, f_last, f_end, (ar (mc_p g)), (ar (mc_e g)), (ar (mc_o g)), (mc_r g), (ar (mc_f g)), (ar (mc_t g)), (ar (mc_g g)), (ar (mc_k g)), (ar pl), a_heights, a_gone, a_worst, a_frames, a_maps, (ar hi), a_known, a_mapped, (ar nw), a_sorts, a_ints, a_classes, a_ready) := by
      intro e1 e2 nd
      have := H1 nd nw (fun s hs => by rw [e1]; exact hnw s (by omega))
      rw [e2] at this; exact this
    have cgid : mc_o g (P k % 24) = 4 ∨ mc_o g (P k % 24) = 7 ∨ (11 ≤ mc_o g (P k % 24) ∧ mc_o g (P k % 24) ≤ 14) ∨ 15 < mc_o g (P k % 24) → mf_cg g P k d f = f := by
      intro q
      unfold mf_cg
      rw [if_neg (by omega), if_neg (by omega), if_neg (by omega), if_neg (by omega), if_neg (by omega), if_neg (by omega), if_neg (by omega), if_neg (by omega), if_neg (by omega), if_neg (by omega)]
    refine br_f (nI_pos (by omega)) (pk_lt 19 (mc_o g (P k % 24)) (fun c => by omega) (fun c19 => ?_))
    have triv : (mc_o g (P k % 24) = 0 ∨ mc_o g (P k % 24) = 1 ∨ mc_o g (P k % 24) = 3 ∨ mc_o g (P k % 24) = 4 ∨ mc_o g (P k % 24) = 5 ∨ mc_o g (P k % 24) = 6 ∨ mc_o g (P k % 24) = 12 ∨ mc_o g (P k % 24) = 15 ∨ mc_o g (P k % 24) = 17) → mf_nd g m P k d f := by
      intro q
      unfold mf_nd
      refine ⟨fun z => by omega, fun z => by omega, fun z => by omega, fun z => by omega, fun z => by omega, fun z => by omega, fun z => by omega, fun z => by omega⟩
    have refs : (mc_o g (P k % 24) = 10 ∨ mc_o g (P k % 24) = 14 ∨ mc_o g (P k % 24) = 19) → (mf_nd g m P k d f ↔ 2 ≤ f (3 + d) ∧ f (3 + d) ≤ 10) := by
      intro q
      unfold mf_nd
      exact ⟨fun z => z.2.2.2.2.1 q, fun z => ⟨fun z => by omega, fun z => by omega, fun z => by omega, fun z => by omega, fun _ => z, fun z => by omega, fun z => by omega, fun z => by omega⟩⟩
    have s381 : (mc_o g (P k % 24) = 11 ∨ mc_o g (P k % 24) = 18) → md_tk (mc_o g (P k % 24)) = 1 → md_th g (P k) d = d - 1 → wY_does_381 post (mc_r g (P k % 24)) (nI x7) (nI (mc_cc g)) (nI (mc_hc g)) (nI m) f_there f_typed f_wrongNumber f_wrongPlace (nI (d - md_tk (mc_o g (P k % 24)))) f_why f_height f_objects f_line f_begun f_last f_end (ar (mc_p g)) (ar (mc_e g)) (ar (mc_o g)) (mc_r g) (ar (mc_f g)) (ar (mc_t g)) (ar (mc_g g)) (ar (mc_k g)) (ar pl) a_heights a_gone a_worst a_frames a_maps (ar hi) a_known a_mapped (ar nw) a_sorts a_ints a_classes a_ready := by
      intro q e1 e2
      have ha := mn_lim8 hG (i := P k % 24) (by omega)
      have e3 : (3 : Int32) + nI (mc_a g (P k % 24)) = nI (3 + mc_a g (P k % 24)) := nI_add 3 _
      unfold wY_does_381
      rw [ha.2, e3, h7 (by omega)]
      refine ya_fits hG (f90 _) (by omega) (fun z => ⟨nb1, idd (cgid (by omega)) (by omega) ?_⟩) (fun z => ⟨nb0, H0 (fun y => z (y.2.2.2.2.2.1 q)) _ _⟩)
      unfold mf_nd
      exact ⟨fun z => by omega, fun z => by omega, fun z => by omega, fun z => by omega, fun z => by omega, fun _ => z, fun z => by omega, fun z => by omega⟩
    have s404 : (mc_o g (P k % 24) = 14 ∨ mc_o g (P k % 24) = 19) → md_tk (mc_o g (P k % 24)) = 1 → md_th g (P k) d = d - 1 → wY_does_404 post (nI x7) (nI (mc_cc g)) (nI (mc_hc g)) (nI m) f_there f_typed f_wrongNumber f_wrongPlace (nI (d - md_tk (mc_o g (P k % 24)))) f_why f_height f_objects f_line f_begun f_last f_end (ar (mc_p g)) (ar (mc_e g)) (ar (mc_o g)) (mc_r g) (ar (mc_f g)) (ar (mc_t g)) (ar (mc_g g)) (ar (mc_k g)) (ar pl) a_heights a_gone a_worst a_frames a_maps (ar hi) a_known a_mapped (ar nw) a_sorts a_ints a_classes a_ready := by
      intro q e1 e2
      unfold wY_does_404
      rw [h7 (by omega)]
      refine ya_isR (f90 _) (fun z => ⟨nb1, idd (cgid (by omega)) (by omega) ((refs (by omega)).mpr z)⟩) (fun z => ⟨nb0, H0 (fun y => z ((refs (by omega)).mp y)) _ _⟩)
    refine pk_eq (mc_o g (P k % 24)) 0 (fun c => ?_) (fun n0 => ?_)
    · obtain ⟨th, et, _⟩ := thv 0 0 1 c rfl rfl
      rw [et]
      refine ya_push (v := 1) (by omega) (put 1 et (by omega) (by unfold mf_cg; rw [if_pos c]) (triv (by omega)))
    refine pk_eq (mc_o g (P k % 24)) 1 (fun c => ?_) (fun n1 => ?_)
    · obtain ⟨th, et, _⟩ := thv 1 0 1 c rfl rfl
      rw [et]
      refine ya_push (v := 2) (by omega) (put 2 et (by omega) (by unfold mf_cg; rw [if_neg n0, if_pos c]) (triv (by omega)))
    refine pk_eq (mc_o g (P k % 24)) 2 (fun c => ?_) (fun n2 => ?_)
    · obtain ⟨th, et, _⟩ := thv 2 0 1 c rfl rfl
      have ha := mn_lim4 hG (i := P k % 24) (Or.inl c)
      have fa := f90 (mc_a g (P k % 24))
      rw [et, ha.2, ar_at _ (by omega), hnw _ (by omega)]
      refine ⟨vp_in_nI (by omega) (by omega), ya_push (by omega) ⟨vp_in_nI (by omega) (by omega), ?_⟩⟩
      rw [ar_at _ (by omega), up_n (by omega), hnw _ (by omega)]
      refine pk_eq (f (mc_a g (P k % 24))) 0 (fun q => H0 (fun z => (z.1 c).1 q) _ _) (fun q => ⟨vp_in_nI (by omega) (by omega), pk_le 51 (f (mc_a g (P k % 24))) (fun q2 => H0 (fun z => ?_) _ _) (fun q2 => put _ et (by omega) (by unfold mf_cg; rw [if_neg n0, if_neg n1, if_pos c]) ?_)⟩)
      · have := (z.1 c).2; omega
      · unfold mf_nd
        exact ⟨fun _ => ⟨q, q2⟩, fun z => by omega, fun z => by omega, fun z => by omega, fun z => by omega, fun z => by omega, fun z => by omega, fun z => by omega⟩
    refine pk_eq (mc_o g (P k % 24)) 3 (fun c => ?_) (fun n3 => ?_)
    · obtain ⟨th, et, _⟩ := thv 3 1 0 c rfl rfl
      have ha := mn_lim4 hG (i := P k % 24) (Or.inr (Or.inl c))
      rw [et, ha.2, h7 (by omega)]
      refine ⟨vp_in_nI (by omega) (by omega), nm_r (ar_ui _ _ (by omega)) ?_⟩
      have := H1 (triv (by omega)) (mf_up nw (mc_a g (P k % 24)) (f (3 + d))) (fun s hs => by
        unfold mf_cg; rw [if_neg n0, if_neg n1, if_neg n2, if_pos c]
        by_cases q : s = mc_a g (P k % 24)
        · subst q; rw [up_s, up_s]
        · rw [up_n q, up_n q]; exact hnw s (by omega))
      rw [show md_th g (P k) d = d - 1 by omega] at this; exact this
    refine pk_eq (mc_o g (P k % 24)) 4 (fun c => idd (cgid (by omega)) (by have := thv 4 1 0 c rfl rfl; omega) (triv (by omega))) (fun n4 => ?_)
    refine pk_eq (mc_o g (P k % 24)) 5 (fun c => ?_) (fun n5 => ?_)
    · obtain ⟨th, et, td⟩ := thv 5 1 2 c rfl rfl
      rw [et, h7 (by omega)]
      refine ya_push (by omega) (ya_push (by omega) ?_)
      have := H1 (triv (by omega)) (mf_up (mf_up nw (4 + (d - 1)) (f (3 + d))) (4 + (d - 1 + 1)) (f (3 + d))) (fun s hs => by
        unfold mf_cg; rw [if_neg n0, if_neg n1, if_neg n2, if_neg n3, if_pos c]
        by_cases q : s = 4 + d
        · have : s = 4 + (d - 1 + 1) := by omega
          rw [this, up_s]
          have : 4 + (d - 1 + 1) = 4 + d := by omega
          rw [this, up_s]
        · rw [up_n (by omega), up_n q]
          by_cases q2 : s = 3 + d
          · have : s = 4 + (d - 1) := by omega
            rw [this, up_s]; exact congrArg f (by omega)
          · rw [up_n (by omega)]; exact hnw s (by omega))
      rw [show md_th g (P k) d = d - 1 + 1 + 1 by omega] at this; exact this
    refine pk_eq (mc_o g (P k % 24)) 6 (fun c => ?_) (fun n6 => ?_)
    · obtain ⟨th, et, td⟩ := thv 6 2 2 c rfl rfl
      rw [et, h7 (by omega), hz (by omega)]
      refine ya_push (by omega) (ya_push (by omega) ?_)
      have := H1 (triv (by omega)) (mf_up (mf_up nw (4 + (d - 2)) (f (3 + d))) (4 + (d - 2 + 1)) (f (2 + d))) (fun s hs => by
        unfold mf_cg; rw [if_neg n0, if_neg n1, if_neg n2, if_neg n3, if_neg n5, if_pos c]
        by_cases q : s = 2 + d
        · have e1 : mf_up (mf_up f (3 + d) (f (2 + d))) (2 + d) (f (3 + d)) s = f (3 + d) := by rw [q, up_s]
          rw [e1, up_n (by omega)]
          have : s = 4 + (d - 2) := by omega
          rw [this, up_s]
        · by_cases q2 : s = 3 + d
          · have e1 : mf_up (mf_up f (3 + d) (f (2 + d))) (2 + d) (f (3 + d)) s = f (2 + d) := by rw [up_n q, q2, up_s]
            rw [e1]
            have : s = 4 + (d - 2 + 1) := by omega
            rw [this, up_s]
          · rw [up_n (by omega), up_n (by omega), up_n q, up_n q2]; exact hnw s (by omega))
      rw [show md_th g (P k) d = d - 2 + 1 + 1 by omega] at this; exact this
    refine pk_eq (mc_o g (P k % 24)) 7 (fun c => ?_) (fun n7 => ?_)
    · obtain ⟨th, et, td⟩ := thv 7 2 1 c rfl rfl
      have a1 := f90 (3 + d)
      have a2 := f90 (2 + d)
      rw [et, h7 (by omega), hz (by omega)]
      refine ya_push (v := 1) (by omega) (pk_eq (f (3 + d)) 1 (fun q => pk_eq (f (2 + d)) 1 (fun q2 => ?_) (fun q2 => H0 (fun z => q2 (z.2.1 c).2) _ _)) (fun q => H0 (fun z => q (z.2.1 c).1) _ _))
      have nd : mf_nd g m P k d f := by
        unfold mf_nd
        exact ⟨fun z => by omega, fun _ => ⟨q, q2⟩, fun z => by omega, fun z => by omega, fun z => by omega, fun z => by omega, fun z => by omega, fun z => by omega⟩
      have := H1 nd (mf_up nw (4 + (d - 2)) 1) (fun s hs => by
        rw [cgid (by omega)]
        by_cases w : s = 2 + d
        · have : s = 4 + (d - 2) := by omega
          rw [this, up_s, ← this, w]; exact q2.symm
        · rw [up_n (by omega)]; exact hnw s (by omega))
      rw [show md_th g (P k) d = d - 2 + 1 by omega] at this; exact this
    refine pk_eq (mc_o g (P k % 24)) 8 (fun c => ?_) (fun n8 => ?_)
    · obtain ⟨th, et, td⟩ := thv 8 0 1 c rfl rfl
      rw [et]
      have e4 : (4 : Int32) + nI (d - 0) = nI (4 + d) := nI_add 4 d
      have ndiff : mf_nd g m P k d f ↔ ∀ i, i < d → f (4 + i) ≠ 11 + k := by
        unfold mf_nd
        exact ⟨fun z => z.2.2.1 c, fun z => ⟨fun z => by omega, fun z => by omega, fun _ => z, fun z => by omega, fun z => by omega, fun z => by omega, fun z => by omega, fun z => by omega⟩⟩
      have B : ∀ e s, s + e = 4 + d → 4 ≤ s → ∀ nw1 : Nat → Nat, (∀ j, j < 4 → nw1 j = if f j = 11 + k then 0 else f j) → (∀ j, 4 ≤ j → nw1 j = nw j) → (∀ i, 4 + i < s → f (4 + i) ≠ 11 + k) → wY_does_321 post (nI (11 + k)) (nI (mc_cc g)) (nI (mc_hc g)) (nI m) f_there f_typed f_wrongNumber f_wrongPlace (nI (d - 0)) f_why f_height f_objects f_line f_begun f_last f_end (ar (mc_p g)) (ar (mc_e g)) (ar (mc_o g)) (mc_r g) (ar (mc_f g)) (ar (mc_t g)) (ar (mc_g g)) (ar (mc_k g)) (ar pl) a_heights a_gone a_worst a_frames a_maps (ar hi) a_known a_mapped (ar nw1) a_sorts a_ints a_classes a_ready (e + 1) (nI s) := by
        intro e
        induction e with
        | zero =>
          intro s hs h4 nw1 a b no
          refine pk_le (4 + d) s (fun _ => ?_) (fun c => by omega) e4
          refine ya_push (by omega) ?_
          have := H1 (ndiff.mpr (fun i hi => no i (by omega))) (mf_up nw1 (4 + d) (11 + k)) (fun j hj => by
            unfold mf_cg; rw [if_neg n0, if_neg n1, if_neg n2, if_neg n3, if_neg n5, if_neg n6, if_pos c]
            by_cases q : j = 4 + d
            · subst q; rw [up_s, up_s]
            · rw [up_n q, up_n q]
              by_cases q2 : j < 4
              · exact a j q2
              · rw [b j (by omega), hnw j (by omega)]
                have := no (j - 4) (by omega)
                rw [show 4 + (j - 4) = j by omega] at this
                rw [if_neg this])
          rw [show md_th g (P k) d = d + 1 by omega] at this; exact this
        | succ e ih =>
          intro s hs h4 nw1 a b no
          have f9 := f90 s
          refine pk_le (4 + d) s (fun c => by omega) (fun _ => ⟨vp_in_nI (by omega) (by omega), ?_⟩) e4
          rw [ar_at _ (by omega), b s h4, hnw s (by omega)]
          refine pk_eq (f s) (11 + k) (fun q => H0 (fun z => ?_) _ _) (fun q => nm_r (nI_1 s) (ih (s + 1) (by omega) (by omega) nw1 a b (fun i hi => ?_)))
          · have := ndiff.mp z (s - 4) (by omega)
            rw [show 4 + (s - 4) = s by omega] at this
            exact this q
          · by_cases w : 4 + i = s
            · rw [w]; exact q
            · exact no i (by omega)
      have A : ∀ e s, s + e = 4 → ∀ nw1 : Nat → Nat, (∀ j, j < s → nw1 j = if f j = 11 + k then 0 else f j) → (∀ j, s ≤ j → nw1 j = nw j) → wY_does_286 post (nI (11 + k)) (nI (mc_cc g)) (nI (mc_hc g)) (nI m) f_there f_typed f_wrongNumber f_wrongPlace (nI (d - 0)) f_why f_height f_objects f_line f_begun f_last f_end (e + 1) (nI s) (ar (mc_p g)) (ar (mc_e g)) (ar (mc_o g)) (mc_r g) (ar (mc_f g)) (ar (mc_t g)) (ar (mc_g g)) (ar (mc_k g)) (ar pl) a_heights a_gone a_worst a_frames a_maps (ar hi) a_known a_mapped (ar nw1) a_sorts a_ints a_classes a_ready := by
        intro e
        induction e with
        | zero =>
          intro s hs nw1 a b
          exact pk_le 4 s (fun _ => ⟨d + 1, B d 4 (by omega) (by omega) nw1 (fun j hj => a j (by omega)) (fun j hj => b j (by omega)) (fun i hi => by omega)⟩) (fun c => by omega)
        | succ e ih =>
          intro s hs nw1 a b
          have f9 := f90 s
          refine pk_le 4 s (fun c => by omega) (fun _ => ⟨vp_in_nI (by omega) (by omega), ?_⟩)
          rw [ar_at _ (by omega), b s (Nat.le_refl _), hnw s (by omega)]
          refine pk_eq (f s) (11 + k) (fun q => ⟨vp_in_nI (by omega) (by omega), nm_r (ar_ui nw1 0 (by omega)) (nm_r (nI_1 s) (ih (s + 1) (by omega) _ (fun j hj => ?_) (fun j hj => ?_)))⟩) (fun q => nm_r (nI_1 s) (ih (s + 1) (by omega) nw1 (fun j hj => ?_) (fun j hj => b j (by omega))))
          · by_cases w : j = s
            · subst w; rw [up_s, if_pos q]
            · rw [up_n w]; exact a j (by omega)
          · rw [up_n (by omega)]; exact b j (by omega)
          · by_cases w : j = s
            · subst w; rw [b j (Nat.le_refl _), hnw j (by omega), if_neg q]
            · exact a j (by omega)
      exact ⟨5, A 4 0 rfl nw (fun j hj => by omega) (fun j _ => rfl)⟩
    refine pk_eq (mc_o g (P k % 24)) 9 (fun c => ?_) (fun n9 => ?_)
    · obtain ⟨th, et, td⟩ := thv 9 1 0 c rfl rfl
      rw [et, h7 (by omega)]
      refine ya_begun hG hM Y hpl (by omega) (f90 _) f90 (fun s hs => hnw s (by omega)) (fun q nw1 h1 => ⟨nb1, ?_⟩) (fun q => ⟨nb0, H0 (fun z => q (z.2.2.2.1 c)) _ _⟩)
      have nd : mf_nd g m P k d f := by
        unfold mf_nd
        exact ⟨fun z => by omega, fun z => by omega, fun z => by omega, fun _ => q, fun z => by omega, fun z => by omega, fun z => by omega, fun z => by omega⟩
      have := H1 nd nw1 (fun s hs => by
        unfold mf_cg; rw [if_neg n0, if_neg n1, if_neg n2, if_neg n3, if_neg n5, if_neg n6, if_neg n8, if_pos c]
        exact h1 s (by omega))
      rw [show md_th g (P k) d = d - 1 by omega] at this; exact this
    refine pk_eq (mc_o g (P k % 24)) 10 (fun c => ?_) (fun n10 => ?_)
    · obtain ⟨th, et, td⟩ := thv 10 1 1 c rfl rfl
      have ha := mn_lim8 hG (i := P k % 24) (Or.inr (Or.inl c))
      have e3 : (3 : Int32) + nI (mc_a g (P k % 24)) = nI (3 + mc_a g (P k % 24)) := nI_add 3 _
      rw [et, h7 (by omega), ha.2, e3]
      refine ya_push (by omega) (ya_isR (f90 _) (fun z => ⟨nb1, ?_⟩) (fun z => ⟨nb0, H0 (fun y => z ((refs (by omega)).mp y)) _ _⟩))
      have := H1 ((refs (by omega)).mpr z) (mf_up nw (4 + (d - 1)) (3 + mc_a g (P k % 24))) (fun s hs => by
        unfold mf_cg; rw [if_neg n0, if_neg n1, if_neg n2, if_neg n3, if_neg n5, if_neg n6, if_neg n8, if_neg n9, if_pos c]
        by_cases q : s = 3 + d
        · have e1 : mf_up f (3 + d) (3 + mc_a g (P k % 24)) s = 3 + mc_a g (P k % 24) := by rw [q, up_s]
          rw [e1]
          have : s = 4 + (d - 1) := by omega
          rw [this, up_s]
        · rw [up_n (by omega), up_n q]; exact hnw s (by omega))
      rw [show md_th g (P k) d = d - 1 + 1 by omega] at this; exact this
    refine pk_eq (mc_o g (P k % 24)) 11 (fun c => s381 (by omega) (thv 11 1 0 c rfl rfl).2.1 (by have := thv 11 1 0 c rfl rfl; omega)) (fun n11 => ?_)
    refine pk_eq (mc_o g (P k % 24)) 12 (fun c => idd (cgid (by omega)) (by have := thv 12 0 0 c rfl rfl; omega) (triv (by omega))) (fun n12 => ?_)
    refine pk_eq (mc_o g (P k % 24)) 13 (fun c => ?_) (fun n13 => ?_)
    · obtain ⟨th, et, td⟩ := thv 13 1 0 c rfl rfl
      have a1 := f90 (3 + d)
      rw [h7 (by omega)]
      refine pk_eq (f (3 + d)) 1 (fun q => idd (cgid (by omega)) (by omega) ?_) (fun q => H0 (fun z => q (z.2.2.2.2.2.2.1 c)) _ _)
      unfold mf_nd
      exact ⟨fun z => by omega, fun z => by omega, fun z => by omega, fun z => by omega, fun z => by omega, fun z => by omega, fun _ => q, fun z => by omega⟩
    refine pk_eq (mc_o g (P k % 24)) 14 (fun c => s404 (by omega) (thv 14 1 0 c rfl rfl).2.1 (by have := thv 14 1 0 c rfl rfl; omega)) (fun n14 => ?_)
    refine pk_eq (mc_o g (P k % 24)) 15 (fun c => ?_) (fun n15 => ?_)
    · obtain ⟨th, et, td⟩ := thv 15 0 1 c rfl rfl
      have e51 : (51 : Int32) + nI k = nI (51 + k) := nI_add 51 k
      rw [et, e51]
      refine ya_push (by omega) (put _ et (by omega) ?_ (triv (by omega)))
      unfold mf_cg; rw [if_neg n0, if_neg n1, if_neg n2, if_neg n3, if_neg n5, if_neg n6, if_neg n8, if_neg n9, if_neg n10, if_pos c]
    refine pk_eq (mc_o g (P k % 24)) 16 (fun c => ?_) (fun n16 => ?_)
    · obtain ⟨th, et, td⟩ := thv 16 0 0 c rfl rfl
      have ha := mn_lim4 hG (i := P k % 24) (Or.inr (Or.inr c))
      have hn : 0 < md_n (P k) := Nat.pos_of_ne_zero (fun z => f5 ⟨c, z⟩)
      obtain ⟨j, hj, ej⟩ := mg_cl hG hM Y hk hn
      have hK : ∀ j, j < m → pl j < 1327104 := fun j hj => by rw [hpl j hj]; exact md_Vlt hcc (mg_V hG hM Y hj)
      have fa := f90 (mc_a g (P k % 24))
      refine ya_cl hcc v hn ?_
      rw [ha.2, ar_at _ (by omega), hnw _ (by omega)]
      refine ⟨vp_in_nI (by omega) (by omega), ya_num (by omega) hK (by rw [← ej, ← hpl j hj]; exact hK j hj) (fun i hi ei => ?_) (fun no => absurd ((hpl j hj).trans ej) (no j hj))⟩
      have eij : i = j := ml_inj Y.2.1 _ _ hi hj ((hpl i hi).symm.trans (ei.trans ej.symm))
      subst eij
      have ix : mf_ix P m (md_cl (P k)) = i := by rw [← ej]; exact mf_ix_eq m i Y.2.1 hj
      have e51 : (51 : Int32) + nI i = nI (51 + i) := nI_add 51 i
      rw [e51]
      refine pk_eq (f (mc_a g (P k % 24))) (51 + i) (fun q => idd (cgid (by omega)) (by omega) ?_) (fun q => H0 (fun z => q ?_) _ _)
      · unfold mf_nd
        exact ⟨fun z => by omega, fun z => by omega, fun z => by omega, fun z => by omega, fun z => by omega, fun z => by omega, fun z => by omega, fun _ => by rw [ix]; exact q⟩
      · have := z.2.2.2.2.2.2.2 c
        rw [ix] at this; exact this
    refine pk_eq (mc_o g (P k % 24)) 17 (fun c => idd (cgid (by omega)) (by have := thv 17 0 0 c rfl rfl; omega) (triv (by omega))) (fun n17 => ?_)
    refine pk_eq (mc_o g (P k % 24)) 18 (fun c => s381 (by omega) (thv 18 1 0 c rfl rfl).2.1 (by have := thv 18 1 0 c rfl rfl; omega)) (fun n18 => ?_)
    refine pk_eq (mc_o g (P k % 24)) 19 (fun c => s404 (by omega) (thv 19 1 0 c rfl rfl).2.1 (by have := thv 19 1 0 c rfl rfl; omega)) (fun n19 => by omega)
  have S50 : ∀ x7 : Nat, (0 < md_tk (mc_o g (P k % 24)) → x7 = f (3 + d)) → ∀ h, h = (if 0 < md_tk (mc_o g (P k % 24)) then d - 1 else d) → wY_does_50 post (nI k) (nI (P k)) (nI (mc_o g (P k % 24))) (mc_r g (P k % 24)) (nI (11 + k)) (nI x7) (nI (mc_cc g)) (nI (mc_hc g)) (nI m) f_there f_typed f_wrongNumber f_wrongPlace (nI h) f_why f_height f_objects f_line f_begun f_last f_end (ar (mc_p g)) (ar (mc_e g)) (ar (mc_o g)) (mc_r g) (ar (mc_f g)) (ar (mc_t g)) (ar (mc_g g)) (ar (mc_k g)) (ar pl) a_heights a_gone a_worst a_frames a_maps (ar hi) a_known a_mapped (ar nw) a_sorts a_ints a_classes a_ready := by
    intro x7 h7 h eh
    unfold wY_does_50
    refine ya_tk h20 (pk_le (md_tk (mc_o g (P k % 24))) 1 (fun c => ?_) (fun c => ?_))
    · have : h = d - md_tk (mc_o g (P k % 24)) := by
        rw [eh]; split <;> omega
      rw [this]
      exact S69 x7 0 h7 (fun z => by omega)
    · have eh' : h = d - 1 := by rw [eh, if_pos (by omega)]
      rw [eh']
      refine ya_pull (by omega) (by omega) ?_
      have : d - 1 - 1 = d - md_tk (mc_o g (P k % 24)) := by omega
      rw [this]
      refine S69 x7 (nw (3 + (d - 1))) h7 (fun _ => ?_)
      rw [show 3 + (d - 1) = 2 + d by omega]; exact f2 (by omega)
  unfold wpY_does
  dsimp only
  refine ⟨vp_in_nI (by omega) (by omega), nm_r (e' := nI (P k)) (by rw [ar_at _ (by omega), hpl k hk]) (ya_ins (by omega) ⟨vp_in_nI (by omega) (by omega), nm_r (ar_at _ (by omega)) ⟨vp_in_nI (by omega) (by omega), nm_e (nm_r (nI_add 11 k) (ya_tk h20 ?_))⟩⟩)⟩
  rw [nI_clamp (show P k % 24 < 2 ^ 31 by omega)]
  refine pk_le (md_tk (mc_o g (P k % 24))) 0 (fun c => ?_) (fun c => ?_)
  · exact S50 0 (fun z => by omega) d (by rw [if_neg (by omega)])
  · refine ya_pull (by omega) (by omega) (S50 (nw (3 + d)) (fun _ => f3 (by omega)) (d - 1) (by rw [if_pos (by omega)]))
end
