/-! ===== the reference: the whole instruction, the whole run ===== -/
section
variable {f_length f_handlers f_many f_there f_typed f_wrongNumber f_wrongPlace f_size f_why f_height f_objects f_line f_begun f_last f_end : Int32} {a_parent a_begin a_op a_arg a_from a_to a_target a_caught a_places a_heights a_gone a_worst a_frames a_maps a_high a_known a_mapped a_now a_sorts a_ints a_classes a_ready : Nat → Int32}
variable {g : md_C} {q : mr_Q} {st cl rd : Nat → Nat} {it : Nat → Int32}
theorem yr_r24 {post : SY → Prop} {ob : Nat} {hh : Int32} (hG : md_G g) (R : mr_Yn 4 q st it cl rd) (hC : ∀ j, j < rq_n q → rq_C q j < 8) (hn : rq_n q ≤ 205) (hl : rq_l q < mc_cc g) (hob : ob < rq_n q) (H1 : ∀ q', mr_rz g q ob = (q', 0, 0) → ∀ (st : Nat → Nat) (it : Nat → Int32), mr_Y q' st it cl rd → post ((nI (mc_cc g)), (nI (mc_hc g)), f_many, f_there, f_typed, f_wrongNumber, f_wrongPlace, f_size, f_why, (nI (rq_h q')), (nI (rq_n q')), (nI (rq_l q')), f_begun, (-1), (-1), (ar (mc_p g)), (ar (mc_e g)), (ar (mc_o g)), (mc_r g), (ar (mc_f g)), (ar (mc_t g)), (ar (mc_g g)), (ar (mc_k g)), a_places, a_heights, a_gone, a_worst, a_frames, a_maps, a_high, a_known, a_mapped, a_now, (ar st), it, (ar cl), (ar rd))) (H0 : mr_rz g q ob = (q, 3, rq_C q ob + 1) → post ((nI (mc_cc g)), (nI (mc_hc g)), f_many, f_there, f_typed, f_wrongNumber, f_wrongPlace, f_size, f_why, hh, (nI (rq_n q)), (nI (rq_l q)), f_begun, (nI (rq_C q ob)), 2, (ar (mc_p g)), (ar (mc_e g)), (ar (mc_o g)), (mc_r g), (ar (mc_f g)), (ar (mc_t g)), (ar (mc_g g)), (ar (mc_k g)), a_places, a_heights, a_gone, a_worst, a_frames, a_maps, a_high, a_known, a_mapped, a_now, (ar st), it, (ar cl), (ar rd))) : ∃ n, wY_raise_24 post (nI (rq_l q)) (nI (4 + ob)) (nI (mc_cc g)) (nI (mc_hc g)) f_many f_there f_typed f_wrongNumber f_wrongPlace f_size f_why hh (nI (rq_n q)) (nI (rq_l q)) f_begun (-1) (-1) (ar (mc_p g)) (ar (mc_e g)) (ar (mc_o g)) (mc_r g) (ar (mc_f g)) (ar (mc_t g)) (ar (mc_g g)) (ar (mc_k g)) a_places a_heights a_gone a_worst a_frames a_maps a_high a_known a_mapped a_now (ar st) it (ar cl) (ar rd) n 0 := by
  have hcc := hG.1
  have hhc := hG.2.1
  have e4 : nI (4 + ob) - 4 = nI ob := by
    show nI (4 + ob) - nI 4 = _
    rw [pk_sub (by omega)]; exact congrArg nI (by omega)
  have L : ∀ e x, x + e = mc_hc g → mr_fd g (rq_l q) (rq_C q ob) (mc_hc g) 0 = mr_fd g (rq_l q) (rq_C q ob) (mc_hc g - x) x → wY_raise_24 post (nI (rq_l q)) (nI (4 + ob)) (nI (mc_cc g)) (nI (mc_hc g)) f_many f_there f_typed f_wrongNumber f_wrongPlace f_size f_why hh (nI (rq_n q)) (nI (rq_l q)) f_begun (-1) (-1) (ar (mc_p g)) (ar (mc_e g)) (ar (mc_o g)) (mc_r g) (ar (mc_f g)) (ar (mc_t g)) (ar (mc_g g)) (ar (mc_k g)) a_places a_heights a_gone a_worst a_frames a_maps a_high a_known a_mapped a_now (ar st) it (ar cl) (ar rd) (e + 1) (nI x) := by
    intro e
    induction e with
    | zero =>
      intro x hx ef
      refine pk_le (mc_hc g) x (fun _ => ?_) (fun c => by omega)
      rw [e4, ar_at _ (by omega), (R.2 _ hob).1]
      refine ⟨vp_in_nI (by omega) (by omega), nm_e (H0 ?_)⟩
      rw [show mc_hc g - x = 0 by omega] at ef
      unfold mr_rz; rw [ef]; rfl
    | succ e ih =>
      intro x hx ef
      have hb := hG.2.2.2.2.1 x
      have ef2 : mr_fd g (rq_l q) (rq_C q ob) (mc_hc g) 0 = if (mc_f g x ≤ rq_l q ∧ rq_l q < mc_t g x) ∧ mt_ab g (mc_k g x) (rq_C q ob) then some x else mr_fd g (rq_l q) (rq_C q ob) (mc_hc g - (x + 1)) (x + 1) := by
        rw [ef, show mc_hc g - x = (mc_hc g - (x + 1)) + 1 by omega]; rfl
      have nx : ¬ ((mc_f g x ≤ rq_l q ∧ rq_l q < mc_t g x) ∧ mt_ab g (mc_k g x) (rq_C q ob)) → wY_raise_24 post (nI (rq_l q)) (nI (4 + ob)) (nI (mc_cc g)) (nI (mc_hc g)) f_many f_there f_typed f_wrongNumber f_wrongPlace f_size f_why hh (nI (rq_n q)) (nI (rq_l q)) f_begun (-1) (-1) (ar (mc_p g)) (ar (mc_e g)) (ar (mc_o g)) (mc_r g) (ar (mc_f g)) (ar (mc_t g)) (ar (mc_g g)) (ar (mc_k g)) a_places a_heights a_gone a_worst a_frames a_maps a_high a_known a_mapped a_now (ar st) it (ar cl) (ar rd) (e + 1) (nI (x + 1)) := by
        intro z
        rw [if_neg z] at ef2
        exact ih (x + 1) (by omega) ef2
      refine pk_le (mc_hc g) x (fun c => by omega) (fun c => ⟨vp_in_nI (by omega) (by omega), ?_⟩)
      rw [ar_at (mc_f g) (by omega), ar_at (mc_t g) (by omega)]
      refine pk_lt (rq_l q) (mc_f g x) (fun d => nm_r (nI_1 x) (nx (fun z => by omega))) (fun d => ⟨vp_in_nI (by omega) (by omega), pk_le (mc_t g x) (rq_l q) (fun d2 => nm_r (nI_1 x) (nx (fun z => by omega))) (fun d2 => ⟨vp_in_nI (by omega) (by omega), ?_⟩)⟩)
      rw [e4, ar_at cl (by omega), ar_at (mc_k g) (by omega), (R.2 _ hob).1]
      refine ⟨vp_in_nI (by omega) (by omega), ya_abv hG (hC _ hob) hb.2.2.2 (fun z => xb_1 ?_) (fun z => xb_0 (nm_r (nI_1 x) (nx (fun w => z w.2))))⟩
      rw [if_pos ⟨⟨d, d2⟩, z⟩] at ef2
      have er : mr_rz g q ob = ((mf_up (rq_S q) 4 (4 + ob), rq_I q, rq_C q, rq_R q, 1, rq_n q, mc_g g x), 0, 0) := by
        unfold mr_rz; rw [ef2]
      refine yr_put (h := 0) (by omega) ⟨vp_in_nI (by omega) (by omega), nm_r (ar_at _ (by omega)) (H1 _ er _ _ ⟨fun j hj => ?_, R.2⟩)⟩
      have hj' : j < 5 := hj
      show mf_up st 4 (4 + ob) j = mf_up (rq_S q) 4 (4 + ob) j ∧ (mf_up (rq_S q) 4 (4 + ob) j = 1 ∨ mf_up (rq_S q) 4 (4 + ob) j = 3 → upd it 4 0 j = rq_I q j)
      by_cases w : j = 4
      · subst w; rw [up_s, up_s]; exact ⟨rfl, fun y => by omega⟩
      · rw [up_n w, up_n w, pk_un w]; exact R.1 j (by omega)
  exact ⟨mc_hc g + 1, L (mc_hc g) 0 (by omega) rfl⟩
theorem yr_step {post : SY → Prop} (hG : md_G g) (hM : md_M g) (R : mr_Y q st it cl rd) (ok : mr_ok g q) (hn : rq_n q ≤ 203) (hl : rq_l q < mc_cc g) (H0 : (mr_st g q).2.1 = 0 → ∀ (st cl rd : Nat → Nat) (it : Nat → Int32), mr_Y (mr_st g q).1 st it cl rd → post ((nI (mc_cc g)), (nI (mc_hc g)), f_many, f_there, f_typed, f_wrongNumber, f_wrongPlace, f_size, f_why, (nI (rq_h (mr_st g q).1)), (nI (rq_n (mr_st g q).1)), (nI (rq_l (mr_st g q).1)), f_begun, (-1), (-1), (ar (mc_p g)), (ar (mc_e g)), (ar (mc_o g)), (mc_r g), (ar (mc_f g)), (ar (mc_t g)), (ar (mc_g g)), (ar (mc_k g)), a_places, a_heights, a_gone, a_worst, a_frames, a_maps, a_high, a_known, a_mapped, a_now, (ar st), it, (ar cl), (ar rd))) (H1 : ∀ w, (mr_st g q).2.1 = w + 1 → ∀ (st cl rd : Nat → Nat) (it : Nat → Int32) (hh : Int32), mr_Yn 4 (mr_st g q).1 st it cl rd → post ((nI (mc_cc g)), (nI (mc_hc g)), f_many, f_there, f_typed, f_wrongNumber, f_wrongPlace, f_size, f_why, hh, (nI (rq_n (mr_st g q).1)), (nI (rq_l (mr_st g q).1)), f_begun, (mr_le (mr_st g q).2.2), (nI w), (ar (mc_p g)), (ar (mc_e g)), (ar (mc_o g)), (mc_r g), (ar (mc_f g)), (ar (mc_t g)), (ar (mc_g g)), (ar (mc_k g)), a_places, a_heights, a_gone, a_worst, a_frames, a_maps, a_high, a_known, a_mapped, a_now, (ar st), it, (ar cl), (ar rd))) : wpY_step post ((nI (mc_cc g)), (nI (mc_hc g)), f_many, f_there, f_typed, f_wrongNumber, f_wrongPlace, f_size, f_why, (nI (rq_h q)), (nI (rq_n q)), (nI (rq_l q)), f_begun, (-1), (-1), (ar (mc_p g)), (ar (mc_e g)), (ar (mc_o g)), (mc_r g), (ar (mc_f g)), (ar (mc_t g)), (ar (mc_g g)), (ar (mc_k g)), a_places, a_heights, a_gone, a_worst, a_frames, a_maps, a_high, a_known, a_mapped, a_now, (ar st), it, (ar cl), (ar rd)) (nI (mr_o g q)) (mc_r g (rq_l q)) := by
  have hcc := hG.1
  have h6 := ok.1
  have h20 : mr_o g q < 20 := hG.2.2.1 _
  have t2 := md_tk2 (mr_o g q)
  have p2 := md_pu2 (mr_o g q)
  have ha : mc_a g (rq_l q) = mr_a g q := rfl
  have Rl := mr_Yl R
  have stuck : ¬ mr_gd g q → post ((nI (mc_cc g)), (nI (mc_hc g)), f_many, f_there, f_typed, f_wrongNumber, f_wrongPlace, f_size, f_why, (nI (rq_h q)), (nI (rq_n q)), (nI (rq_l q)), f_begun, (-1), 4, (ar (mc_p g)), (ar (mc_e g)), (ar (mc_o g)), (mc_r g), (ar (mc_f g)), (ar (mc_t g)), (ar (mc_g g)), (ar (mc_k g)), a_places, a_heights, a_gone, a_worst, a_frames, a_maps, a_high, a_known, a_mapped, a_now, (ar st), it, (ar cl), (ar rd)) := by
    intro ng
    have e : mr_st g q = (q, 5, 0) := by unfold mr_st; rw [if_pos ng]
    rw [e] at H1
    exact H1 4 rfl st cl rd it _ Rl
  have tl : 0 < rq_h q → mr_t q < 2 ^ 31 := by
    intro hp
    have := (ok.2.2.1 (3 + rq_h q) (by omega)).1
    have e : rq_S q (3 + rq_h q) = mr_t q := rfl
    rw [e] at this
    by_cases c : 4 ≤ mr_t q
    · have := this c; omega
    · omega
  have t4 : 0 < rq_h q → 4 ≤ mr_t q → mr_t q - 4 < rq_n q := fun hp => (ok.2.2.1 (3 + rq_h q) (by omega)).1
  have S120 : ∀ (t u : Nat) (v w : Int32), (md_tk (mr_o g q) ≤ rq_h q ∧ rq_h q + md_pu (mr_o g q) ≤ 6 + md_tk (mr_o g q)) → (0 < md_tk (mr_o g q) → t = mr_t q ∧ v = it (3 + rq_h q)) → (¬ 0 < md_tk (mr_o g q) → t = 0) → (1 < md_tk (mr_o g q) → u = rq_S q (2 + rq_h q) ∧ w = it (2 + rq_h q)) → u < 2 ^ 31 → wY_step_120 post (nI (mr_o g q)) (mc_r g (rq_l q)) (nI (rq_h q - md_tk (mr_o g q))) (nI t) v (nI u) w (nI (mc_cc g)) (nI (mc_hc g)) f_many f_there f_typed f_wrongNumber f_wrongPlace f_size f_why (nI (rq_h q)) (nI (rq_n q)) (nI (rq_l q)) f_begun (-1) (-1) (ar (mc_p g)) (ar (mc_e g)) (ar (mc_o g)) (mc_r g) (ar (mc_f g)) (ar (mc_t g)) (ar (mc_g g)) (ar (mc_k g)) a_places a_heights a_gone a_worst a_frames a_maps a_high a_known a_mapped a_now (ar st) it (ar cl) (ar rd) := by
    intro t u v w tk ht ht0 hu ul
    unfold wY_step_120
    refine yr_good hG R ok (by omega) hl tk (fun z => (ht z).1) (fun z => (hu z).1) ul (fun gd => xb_1 ?_) (fun ng => xb_0 (stuck ng))
    refine nm_r (nI_1 _) ?_
    have tkn : ∀ n k p, mr_o g q = n → md_tk n = k → md_pu n = p → k ≤ rq_h q ∧ rq_h q + p ≤ 6 + k ∧ md_tk (mr_o g q) = k := by
      intro n k p e1 e2 e3; rw [e1, e2] at tk ⊢; rw [e3] at tk; exact ⟨tk.1, tk.2, rfl⟩
    have rsn : ¬ mr_o g q = 10 → ¬ mr_o g q = 11 → ¬ mr_o g q = 19 → mr_rs g q = none := by
      intro a b c
      unfold mr_rs
      rw [if_neg (fun z => a z.1), if_neg (fun z => by rcases z.1 with y | y <;> omega), if_neg c]
    have stn : mr_rs g q = none → ¬ mr_o g q = 17 → ¬ mr_o g q = 18 → mr_st g q = (mr_nx g q, 0, 0) := by
      intro a b c
      unfold mr_st; rw [if_neg (fun z => z gd), a]; dsimp only; rw [if_neg b, if_neg c]
    have sts : ∀ ob q', mr_rs g q = some (ob, q') → mr_st g q = mr_rz g q' ob := by
      intro ob q' a
      unfold mr_st; rw [if_neg (fun z => z gd), a]
    -- going on
    have go : ¬ mr_o g q = 17 → ¬ mr_o g q = 18 → mr_rs g q = none → ∀ q', mr_nx g q = q' → ∀ (st cl rd : Nat → Nat) (it : Nat → Int32), mr_Y q' st it cl rd → post ((nI (mc_cc g)), (nI (mc_hc g)), f_many, f_there, f_typed, f_wrongNumber, f_wrongPlace, f_size, f_why, (nI (rq_h q')), (nI (rq_n q')), (nI (rq_l q')), f_begun, (-1), (-1), (ar (mc_p g)), (ar (mc_e g)), (ar (mc_o g)), (mc_r g), (ar (mc_f g)), (ar (mc_t g)), (ar (mc_g g)), (ar (mc_k g)), a_places, a_heights, a_gone, a_worst, a_frames, a_maps, a_high, a_known, a_mapped, a_now, (ar st), it, (ar cl), (ar rd)) := by
      intro a b c q' eq st cl rd it R'
      have e := stn c a b
      rw [eq] at e
      rw [e] at H0
      exact H0 rfl st cl rd it R'
    -- an object of class c made and raised
    have rnew : ∀ c, c < 8 → mr_rs g q = some (rq_n q, mr_obj q c true) → ∀ (hh ln : Int32), wpY_raise (fun u => match u with | (f_length, f_handlers, f_many, f_there, f_typed, f_wrongNumber, f_wrongPlace, f_size, f_why, f_height, f_objects, f_line, f_begun, f_last, f_end, a_parent, a_begin, a_op, a_arg, a_from, a_to, a_target, a_caught, a_places, a_heights, a_gone, a_worst, a_frames, a_maps, a_high, a_known, a_mapped, a_now, a_sorts, a_ints, a_classes, a_ready) => post (f_length, f_handlers, f_many, f_there, f_typed, f_wrongNumber, f_wrongPlace, f_size, f_why, f_height, f_objects, f_line, f_begun, f_last, f_end, a_parent, a_begin, a_op, a_arg, a_from, a_to, a_target, a_caught, a_places, a_heights, a_gone, a_worst, a_frames, a_maps, a_high, a_known, a_mapped, a_now, a_sorts, a_ints, a_classes, a_ready)) ((nI (mc_cc g)), (nI (mc_hc g)), f_many, f_there, f_typed, f_wrongNumber, f_wrongPlace, f_size, f_why, hh, (nI (rq_n q)), ln, f_begun, (-1), (-1), (ar (mc_p g)), (ar (mc_e g)), (ar (mc_o g)), (mc_r g), (ar (mc_f g)), (ar (mc_t g)), (ar (mc_g g)), (ar (mc_k g)), a_places, a_heights, a_gone, a_worst, a_frames, a_maps, a_high, a_known, a_mapped, a_now, (ar st), it, (ar cl), (ar rd)) (nI (rq_l q)) (-1) (nI c) := by
      intro c hc hrs hh ln
      unfold wpY_raise
      dsimp only
      refine xb_m' ?_
      have e := sts _ _ hrs
      rw [e] at H0 H1
      refine yr_obj (b := true) (by omega) ?_
      have hC : ∀ j, j < rq_n (mr_obj q c true) → rq_C (mr_obj q c true) j < 8 := (mr_obj_ok ok hc).2.2.2
      refine yr_r24 (q := mr_obj q c true) (hh := hh) hG (mr_Y_obj Rl) hC (by show rq_n q + 1 ≤ 205; omega) hl (by show rq_n q < rq_n q + 1; omega) (fun q2 e2 st2 it2 R2 => ?_) (fun e2 => ?_)
      · rw [e2] at H0
        exact H0 rfl st2 _ _ it2 R2
      · rw [e2] at H1
        exact H1 2 rfl st _ _ it hh (mr_Y_obj Rl)
    have rold : mr_o g q = 19 → ¬ mr_t q = 2 → 0 < rq_h q → ∀ (hh ln : Int32), wpY_raise (fun u => match u with | (f_length, f_handlers, f_many, f_there, f_typed, f_wrongNumber, f_wrongPlace, f_size, f_why, f_height, f_objects, f_line, f_begun, f_last, f_end, a_parent, a_begin, a_op, a_arg, a_from, a_to, a_target, a_caught, a_places, a_heights, a_gone, a_worst, a_frames, a_maps, a_high, a_known, a_mapped, a_now, a_sorts, a_ints, a_classes, a_ready) => post (f_length, f_handlers, f_many, f_there, f_typed, f_wrongNumber, f_wrongPlace, f_size, f_why, f_height, f_objects, f_line, f_begun, f_last, f_end, a_parent, a_begin, a_op, a_arg, a_from, a_to, a_target, a_caught, a_places, a_heights, a_gone, a_worst, a_frames, a_maps, a_high, a_known, a_mapped, a_now, a_sorts, a_ints, a_classes, a_ready)) ((nI (mc_cc g)), (nI (mc_hc g)), f_many, f_there, f_typed, f_wrongNumber, f_wrongPlace, f_size, f_why, hh, (nI (rq_n q)), ln, f_begun, (-1), (-1), (ar (mc_p g)), (ar (mc_e g)), (ar (mc_o g)), (mc_r g), (ar (mc_f g)), (ar (mc_t g)), (ar (mc_g g)), (ar (mc_k g)), a_places, a_heights, a_gone, a_worst, a_frames, a_maps, a_high, a_known, a_mapped, a_now, (ar st), it, (ar cl), (ar rd)) (nI (rq_l q)) (nI (mr_t q)) 2 := by
      intro c t2' hp hh ln
      have tt : 4 ≤ mr_t q := by
        rcases gd.2.2.2.2.1 (Or.inr (Or.inr c)) with z | ⟨z, _⟩
        · exact absurd z t2'
        · exact z
      have hj := t4 hp tt
      have hrs : mr_rs g q = some (mr_t q - 4, q) := by
        unfold mr_rs
        rw [if_neg (fun z => by omega), if_neg (fun z => t2' z.2), if_pos c]
      have e := sts _ _ hrs
      rw [e] at H0 H1
      unfold wpY_raise
      dsimp only
      refine xb_n' (by omega) ?_
      have e5 : mr_t q = 4 + (mr_t q - 4) := by omega
      rw [e5]
      refine yr_r24 (q := q) (hh := hh) hG Rl ok.2.2.2 (by omega) hl hj (fun q2 e2 st2 it2 R2 => ?_) (fun e2 => ?_)
      · rw [e2] at H0
        exact H0 rfl st2 _ _ it2 R2
      · rw [e2] at H1
        exact H1 2 rfl st _ _ it hh Rl
    refine br_f (nI_pos (by omega)) (pk_lt 19 (mr_o g q) (fun c => by omega) (fun c19 => ?_))
    refine pk_eq (mr_o g q) 0 (fun o => ?_) (fun n0 => ?_)
    · obtain ⟨k1, k2, k3⟩ := tkn 0 0 1 o rfl rfl
      rw [k3]
      exact yr_put (s := 1) (by omega) (go (by omega) (by omega) (rsn (by omega) (by omega) (by omega)) _ (mr_nx0 o) _ _ _ _ (mr_Y_set R (Or.inr ⟨rfl, rfl⟩) (fun _ => rfl)))
    refine pk_eq (mr_o g q) 1 (fun o => ?_) (fun n1 => ?_)
    · obtain ⟨k1, k2, k3⟩ := tkn 1 0 1 o rfl rfl
      rw [k3]
      exact yr_put (s := 2) (by omega) (go (by omega) (by omega) (rsn (by omega) (by omega) (by omega)) _ (mr_nx1 o) _ _ _ _ (mr_Y_set R (Or.inr ⟨rfl, rfl⟩) (fun h => by omega)))
    refine pk_eq (mr_o g q) 2 (fun o => ?_) (fun n2 => ?_)
    · obtain ⟨k1, k2, k3⟩ := tkn 2 0 1 o rfl rfl
      have hla := mn_lim4 hG (i := rq_l q) (Or.inl o)
      have r := R.1 (mr_a g q) (by omega)
      rw [k3, hla.2, ha, ar_at _ (by omega), r.1, nI_clamp (by omega)]
      exact ⟨vp_in_nI (by omega) (by omega), vp_in_nI (by omega) (by omega), yr_put (by omega) (go (by omega) (by omega) (rsn (by omega) (by omega) (by omega)) _ (mr_nx2 o) _ _ _ _ (mr_Y_set R (Or.inr ⟨rfl, rfl⟩) r.2))⟩
    refine pk_eq (mr_o g q) 3 (fun o => ?_) (fun n3 => ?_)
    · obtain ⟨k1, k2, k3⟩ := tkn 3 1 0 o rfl rfl
      have hla := mn_lim4 hG (i := rq_l q) (Or.inr (Or.inl o))
      have r := R.1 (3 + rq_h q) (by omega)
      obtain ⟨et, ev⟩ := ht (by omega)
      rw [k3, hla.2, ha, et, ev]
      refine ⟨vp_in_nI (by omega) (by omega), nm_r (ar_ui _ _ (by omega)) ⟨vp_in_nI (by omega) (by omega), nm_r (e' := upd it (mr_a g q) (it (3 + rq_h q))) (by rw [nI_clamp (by omega)]) ?_⟩⟩
      exact go (by omega) (by omega) (rsn (by omega) (by omega) (by omega)) _ (mr_nx3 o) _ _ _ _ (mr_Y_set R (Or.inl (by omega)) r.2)
    refine pk_eq (mr_o g q) 4 (fun o => ?_) (fun n4 => ?_)
    · obtain ⟨k1, k2, k3⟩ := tkn 4 1 0 o rfl rfl
      rw [k3]
      exact go (by omega) (by omega) (rsn (by omega) (by omega) (by omega)) _ (mr_nxd (Or.inl o)) _ _ _ _ (mr_Y_hl R (by omega))
    refine pk_eq (mr_o g q) 5 (fun o => ?_) (fun n5 => ?_)
    · obtain ⟨k1, k2, k3⟩ := tkn 5 1 2 o rfl rfl
      have r := R.1 (3 + rq_h q) (by omega)
      obtain ⟨et, ev⟩ := ht (by omega)
      rw [k3, et, ev]
      refine yr_put (by omega) (yr_put (by omega) ?_)
      have := go (by omega) (by omega) (rsn (by omega) (by omega) (by omega)) _ (mr_nx5 o) (mf_up (mf_up st (4 + (rq_h q - 1)) (mr_t q)) (4 + (rq_h q - 1 + 1)) (mr_t q)) cl rd (upd (upd it (4 + (rq_h q - 1)) (it (3 + rq_h q))) (4 + (rq_h q - 1 + 1)) (it (3 + rq_h q))) ?_
      · have e : nI (rq_h q - 1 + 1 + 1) = nI (rq_h q + 1) := congrArg nI (by omega)
        rw [e]; exact this
      · refine ⟨fun j hj => ?_, R.2⟩
        have hj' : j < 4 + (rq_h q + 1) := hj
        show mf_up (mf_up st (4 + (rq_h q - 1)) (mr_t q)) (4 + (rq_h q - 1 + 1)) (mr_t q) j = mf_up (rq_S q) (4 + rq_h q) (mr_t q) j ∧ (mf_up (rq_S q) (4 + rq_h q) (mr_t q) j = 1 ∨ mf_up (rq_S q) (4 + rq_h q) (mr_t q) j = 3 → upd (upd it (4 + (rq_h q - 1)) (it (3 + rq_h q))) (4 + (rq_h q - 1 + 1)) (it (3 + rq_h q)) j = upd (rq_I q) (4 + rq_h q) (rq_I q (3 + rq_h q)) j)
        rw [show 4 + (rq_h q - 1 + 1) = 4 + rq_h q by omega, show 4 + (rq_h q - 1) = 3 + rq_h q by omega]
        by_cases w : j = 4 + rq_h q
        · subst w; rw [up_s, up_s, pk_us, pk_us]; exact ⟨rfl, r.2⟩
        · rw [up_n w, up_n w, pk_un w, pk_un w]
          by_cases w2 : j = 3 + rq_h q
          · subst w2; rw [up_s, pk_us]; exact ⟨rfl, r.2⟩
          · rw [up_n w2, pk_un w2]; exact R.1 j (by omega)
    refine pk_eq (mr_o g q) 6 (fun o => ?_) (fun n6 => ?_)
    · obtain ⟨k1, k2, k3⟩ := tkn 6 2 2 o rfl rfl
      have r := R.1 (3 + rq_h q) (by omega)
      have r2 := R.1 (2 + rq_h q) (by omega)
      obtain ⟨et, ev⟩ := ht (by omega)
      obtain ⟨eu, ew⟩ := hu (by omega)
      rw [k3, et, ev, eu, ew]
      refine yr_put (by omega) (yr_put (by omega) ?_)
      have e1 : 4 + (rq_h q - 2 + 1) = 3 + rq_h q := by omega
      have e2 : 4 + (rq_h q - 2) = 2 + rq_h q := by omega
      have e3 : rq_h q - 2 + 1 + 1 = rq_h q := by omega
      rw [e1, e2, e3]
      exact go (by omega) (by omega) (rsn (by omega) (by omega) (by omega)) _ (mr_nx6 o) _ _ _ _ (mr_Y_set (q := mr_set q (2 + rq_h q) (mr_t q) (rq_I q (3 + rq_h q)) (rq_h q) (rq_l q + 1)) (mr_Y_set R (Or.inl (Nat.le_refl _)) r.2) (Or.inl (Nat.le_refl _)) r2.2)
    refine pk_eq (mr_o g q) 7 (fun o => ?_) (fun n7 => ?_)
    · obtain ⟨k1, k2, k3⟩ := tkn 7 2 1 o rfl rfl
      have r := R.1 (3 + rq_h q) (by omega)
      have r2 := R.1 (2 + rq_h q) (by omega)
      obtain ⟨et, ev⟩ := ht (by omega)
      obtain ⟨eu, ew⟩ := hu (by omega)
      obtain ⟨g1, g2⟩ := gd.2.2.1 o
      rw [k3, ev, ew]
      refine yr_put (s := 1) (by omega) ?_
      have e2 : 4 + (rq_h q - 2) = 2 + rq_h q := by omega
      have e3 : rq_h q - 2 + 1 = rq_h q - 1 := by omega
      rw [e2, e3]
      exact go (by omega) (by omega) (rsn (by omega) (by omega) (by omega)) _ (mr_nx7 o) _ _ _ _ (mr_Y_set R (Or.inl (by omega)) (fun _ => by rw [r.2 (Or.inl g1), r2.2 (Or.inl g2)]; exact Int32.add_comm _ _))
    refine pk_eq (mr_o g q) 8 (fun o => ?_) (fun n8 => ?_)
    · obtain ⟨k1, k2, k3⟩ := tkn 8 0 1 o rfl rfl
      have hla := mn_lim8 hG (i := rq_l q) (Or.inl o)
      rw [k3, hla.2, ha]
      refine yr_obj (b := false) (by omega) ?_
      refine yr_put (h := rq_h q) (by omega) ?_
      exact go (by omega) (by omega) (rsn (by omega) (by omega) (by omega)) _ (mr_nx8 o) _ _ _ _ (mr_Y_set (q := mr_obj q (mr_a g q) false) (w := 0) (mr_Y_obj R) (Or.inr ⟨rfl, rfl⟩) (fun h => by omega))
    refine pk_eq (mr_o g q) 9 (fun o => ?_) (fun n9 => ?_)
    · obtain ⟨k1, k2, k3⟩ := tkn 9 1 0 o rfl rfl
      obtain ⟨g1, g2⟩ := gd.2.2.2.1 o
      obtain ⟨et, ev⟩ := ht (by omega)
      have hj := t4 (by omega) g1
      have e : nI (mr_t q) - 4 = nI (mr_t q - 4) := pk_sub (b := 4) g1
      rw [k3, et, e]
      refine ⟨vp_in_nI (by omega) (by omega), nm_r (e' := ar (mf_up rd (mr_t q - 4) 1)) (by rw [mi_n1]; exact ar_ui rd 1 (by omega)) ?_⟩
      refine go (by omega) (by omega) (rsn (by omega) (by omega) (by omega)) _ (mr_nx9 o) _ _ _ _ ⟨fun j hj => ?_, fun j hj => ?_⟩
      · have hj' : j < 4 + (rq_h q - 1) := hj
        exact R.1 j (by omega)
      · show cl j = rq_C q j ∧ mf_up rd (mr_t q - 4) 1 j = (mr_uB (rq_R q) (mr_t q - 4) true j).toNat
        unfold mr_uB
        by_cases w : j = mr_t q - 4
        · subst w; rw [up_s, if_pos rfl]; exact ⟨(R.2 _ hj).1, rfl⟩
        · rw [up_n w, if_neg w]; exact R.2 j hj
    refine pk_eq (mr_o g q) 10 (fun o => ?_) (fun n10 => ?_)
    · obtain ⟨k1, k2, k3⟩ := tkn 10 1 1 o rfl rfl
      have hla := mn_lim8 hG (i := rq_l q) (Or.inr (Or.inl o))
      obtain ⟨et, ev⟩ := ht (by omega)
      have r := R.1 (3 + rq_h q) (by omega)
      rw [k3, et, hla.2]
      refine yr_of hG (by omega) R.2 ok.2.2.2 (t4 (by omega)) hla.1 (tl (by omega)) (fun z => xb_1 ?_) (fun z => xb_0 (rnew 1 (by omega) ?_ _ _))
      · refine yr_put (by omega) ?_
        have e2 : 4 + (rq_h q - 1) = 3 + rq_h q := by omega
        have e3 : rq_h q - 1 + 1 = rq_h q := by omega
        rw [e2, e3]
        have nrs : mr_rs g q = none := by
          unfold mr_rs
          rw [if_neg (fun y => y.2 z), if_neg (fun y => by rcases y.1 with x | x <;> omega), if_neg (by omega)]
        refine go (by omega) (by omega) nrs _ (mr_nx10 o) _ _ _ _ ⟨fun j hj => ?_, R.2⟩
        have hj' : j < 4 + rq_h q := hj
        show mf_up st (3 + rq_h q) (mr_t q) j = rq_S q j ∧ (rq_S q j = 1 ∨ rq_S q j = 3 → upd it (3 + rq_h q) 0 j = rq_I q j)
        by_cases w : j = 3 + rq_h q
        · subst w
          rw [up_s]
          refine ⟨rfl, fun y => ?_⟩
          have et' : rq_S q (3 + rq_h q) = mr_t q := rfl
          rcases z with x | ⟨x, _⟩ <;> omega
        · rw [up_n w, pk_un w]; exact R.1 j hj'
      · unfold mr_rs; rw [if_pos ⟨o, z⟩]
    refine pk_eq (mr_o g q) 11 (fun o => ?_) (fun n11 => ?_)
    · obtain ⟨k1, k2, k3⟩ := tkn 11 1 0 o rfl rfl
      obtain ⟨et, ev⟩ := ht (by omega)
      have := tl (by omega)
      rw [k3, et]
      refine pk_eq (mr_t q) 2 (fun z => rnew 2 (by omega) ?_ _ _) (fun z => ?_)
      · unfold mr_rs; rw [if_neg (fun y => n10 y.1), if_pos ⟨Or.inl o, z⟩]
      · have nrs : mr_rs g q = none := by
          unfold mr_rs
          rw [if_neg (fun y => n10 y.1), if_neg (fun y => z y.2), if_neg (by omega)]
        exact go (by omega) (by omega) nrs _ (mr_nxd (Or.inr (Or.inl o))) _ _ _ _ (mr_Y_hl R (by omega))
    refine pk_eq (mr_o g q) 12 (fun o => ?_) (fun n12 => ?_)
    · obtain ⟨k1, k2, k3⟩ := tkn 12 0 0 o rfl rfl
      rw [k3, (mn_lim24 hG (i := rq_l q) (show 12 ≤ mr_o g q ∧ mr_o g q ≤ 15 by omega)).2]
      exact go (by omega) (by omega) (rsn (by omega) (by omega) (by omega)) _ (mr_nx12 o) _ _ _ _ (mr_Y_hl R (Nat.le_refl _))
    refine pk_eq (mr_o g q) 13 (fun o => ?_) (fun n13 => ?_)
    · obtain ⟨k1, k2, k3⟩ := tkn 13 1 0 o rfl rfl
      obtain ⟨et, ev⟩ := ht (by omega)
      have r := R.1 (3 + rq_h q) (by omega)
      have g1 := gd.2.2.2.2.2.2.1 o
      rw [k3, ev, r.2 (Or.inl g1), (mn_lim24 hG (i := rq_l q) (show 12 ≤ mr_o g q ∧ mr_o g q ≤ 15 by omega)).2]
      have := go (by omega) (by omega) (rsn (by omega) (by omega) (by omega)) _ (mr_nx13 o) st cl rd it (mr_Y_hl R (by omega))
      refine br_c (fun z => ?_) (fun z => ?_)
      · rw [if_pos z] at this; exact this
      · rw [if_neg z] at this; exact this
    refine pk_eq (mr_o g q) 14 (fun o => ?_) (fun n14 => ?_)
    · obtain ⟨k1, k2, k3⟩ := tkn 14 1 0 o rfl rfl
      obtain ⟨et, ev⟩ := ht (by omega)
      have := tl (by omega)
      rw [k3, et, (mn_lim24 hG (i := rq_l q) (show 12 ≤ mr_o g q ∧ mr_o g q ≤ 15 by omega)).2]
      have := go (by omega) (by omega) (rsn (by omega) (by omega) (by omega)) _ (mr_nx14 o) st cl rd it (mr_Y_hl R (by omega))
      refine pk_eq (mr_t q) 2 (fun z => ?_) (fun z => ?_)
      · rw [if_pos z] at this; exact this
      · rw [if_neg z] at this; exact this
    refine pk_eq (mr_o g q) 15 (fun o => ?_) (fun n15 => ?_)
    · obtain ⟨k1, k2, k3⟩ := tkn 15 0 1 o rfl rfl
      rw [k3, (mn_lim24 hG (i := rq_l q) (show 12 ≤ mr_o g q ∧ mr_o g q ≤ 15 by omega)).2]
      exact yr_put (s := 3) (by omega) (go (by omega) (by omega) (rsn (by omega) (by omega) (by omega)) _ (mr_nx15 o) _ _ _ _ (mr_Y_set R (Or.inr ⟨rfl, rfl⟩) (fun _ => rfl)))
    refine pk_eq (mr_o g q) 16 (fun o => ?_) (fun n16 => ?_)
    · obtain ⟨k1, k2, k3⟩ := tkn 16 0 0 o rfl rfl
      have hla := mn_lim4 hG (i := rq_l q) (Or.inr (Or.inr o))
      have s3 := gd.2.2.2.2.2.2.2 o
      obtain ⟨l, hl1, hl2⟩ := (ok.2.2.1 (mr_a g q) (by omega)).2 s3
      have r := R.1 (mr_a g q) (by omega)
      rw [k3, hla.2, ha, nI_clamp (by omega), r.2 (Or.inr s3), hl2, nI_1]
      have := go (by omega) (by omega) (rsn (by omega) (by omega) (by omega)) _ (mr_nx16 o) st cl rd it (mr_Y_hl R (Nat.le_refl _))
      rw [hl2, nI_clamp (by omega)] at this
      exact ⟨vp_in_nI (by omega) (by omega), nm_e this⟩
    have fin : mr_o g q = 17 ∨ mr_o g q = 18 → wY_step_499 post (nI (mr_o g q)) (nI t) (nI (rq_l q)) (nI (mc_cc g)) (nI (mc_hc g)) f_many f_there f_typed f_wrongNumber f_wrongPlace f_size f_why (nI (rq_h q - md_tk (mr_o g q))) (nI (rq_n q)) (nI (rq_l q + 1)) f_begun (-1) (-1) (ar (mc_p g)) (ar (mc_e g)) (ar (mc_o g)) (mc_r g) (ar (mc_f g)) (ar (mc_t g)) (ar (mc_g g)) (ar (mc_k g)) a_places a_heights a_gone a_worst a_frames a_maps a_high a_known a_mapped a_now (ar st) it (ar cl) (ar rd) := by
      intro o
      unfold wY_step_499
      have nrs := rsn (by omega) (by omega) (by omega)
      refine pk_eq (mr_o g q) 17 (fun c => ?_) (fun c => ?_)
      · obtain ⟨k1, k2, k3⟩ := tkn 17 0 0 c rfl rfl
        have e : mr_st g q = (q, 1, 0) := by
          unfold mr_st; rw [if_neg (fun z => z gd), nrs]; dsimp only; rw [if_pos c]
        rw [e] at H1
        rw [ht0 (by omega)]
        exact br_t (by decide) (H1 0 rfl st cl rd it _ Rl)
      · have c18 : mr_o g q = 18 := by omega
        obtain ⟨k1, k2, k3⟩ := tkn 18 1 0 c18 rfl rfl
        obtain ⟨et, ev⟩ := ht (by omega)
        have tl := tl (by omega)
        have e : mr_st g q = (q, 2, if 4 ≤ mr_t q then rq_C q (mr_t q - 4) + 1 else 0) := by
          unfold mr_st; rw [if_neg (fun z => z gd), nrs]; dsimp only; rw [if_neg c, if_pos c18]
        rw [e] at H1
        have := H1 1 rfl st cl rd it (nI (rq_h q - md_tk (mr_o g q))) Rl
        dsimp only at this
        unfold wY_step_517
        rw [et]
        refine pk_le (mr_t q) 3 (fun z => ?_) (fun z => ?_)
        · rw [if_neg (by omega)] at this; exact this
        · have e5 : nI (mr_t q) - 4 = nI (mr_t q - 4) := pk_sub (b := 4) (by omega)
          have hj := t4 (by omega) (by omega)
          rw [if_pos (by omega)] at this
          rw [e5, ar_at _ (by omega), (R.2 _ hj).1]
          exact ⟨vp_in_nI (by omega) (by omega), nm_e this⟩
    refine pk_eq (mr_o g q) 17 (fun o => fin (Or.inl o)) (fun n17 => pk_eq (mr_o g q) 18 (fun o => fin (Or.inr o)) (fun n18 => pk_eq (mr_o g q) 19 (fun o => ?_) (fun n19 => by omega)))
    obtain ⟨k1, k2, k3⟩ := tkn 19 1 0 o rfl rfl
    obtain ⟨et, ev⟩ := ht (by omega)
    have tl := tl (by omega)
    rw [k3, et]
    unfold wY_step_494
    refine pk_eq (mr_t q) 2 (fun z => rnew 2 (by omega) ?_ _ _) (fun z => rold o z (by omega) _ _)
    unfold mr_rs; rw [if_neg (fun y => n10 y.1), if_pos ⟨Or.inr o, z⟩]
  unfold wpY_step
  dsimp only
  have I1 := mi_lt0 (rq_h q) (by omega) _ (show md_tk (mr_o g q) < 3 by omega)
  have I2 := mi_le6 (rq_h q) (by omega) _ (show md_tk (mr_o g q) < 3 by omega) _ (show md_pu (mr_o g q) < 3 by omega)
  refine ya_tk h20 (nm_e (br_c (fun c => stuck (fun z => ?_)) (fun c => ya_pu h20 (br_c (fun d => ?_) (fun d => stuck (fun z => ?_))))))
  · rw [I1] at c
    have := z.1.1
    omega
  rotate_left
  · rw [I2] at d
    have := z.1.2
    omega
  rw [I1] at c
  rw [I2] at d
  have tk : md_tk (mr_o g q) ≤ rq_h q ∧ rq_h q + md_pu (mr_o g q) ≤ 6 + md_tk (mr_o g q) := ⟨by omega, d⟩
  have eh : nI (rq_h q) - nI (md_tk (mr_o g q)) = nI (rq_h q - md_tk (mr_o g q)) := pk_sub (by omega)
  have e3 : (3 : Int32) + nI (rq_h q) = nI (3 + rq_h q) := nI_add 3 _
  have e2 : (2 : Int32) + nI (rq_h q) = nI (2 + rq_h q) := nI_add 2 _
  rw [eh]
  have S98 : ∀ (t u : Nat) (v : Int32), (0 < md_tk (mr_o g q) → t = mr_t q ∧ v = it (3 + rq_h q)) → (¬ 0 < md_tk (mr_o g q) → t = 0) → (1 < md_tk (mr_o g q) → u = rq_S q (2 + rq_h q)) → u < 2 ^ 31 → wY_step_98 post (nI (mr_o g q)) (mc_r g (rq_l q)) (nI (md_tk (mr_o g q))) (nI (rq_h q - md_tk (mr_o g q))) (nI t) v (nI u) (nI (mc_cc g)) (nI (mc_hc g)) f_many f_there f_typed f_wrongNumber f_wrongPlace f_size f_why (nI (rq_h q)) (nI (rq_n q)) (nI (rq_l q)) f_begun (-1) (-1) (ar (mc_p g)) (ar (mc_e g)) (ar (mc_o g)) (mc_r g) (ar (mc_f g)) (ar (mc_t g)) (ar (mc_g g)) (ar (mc_k g)) a_places a_heights a_gone a_worst a_frames a_maps a_high a_known a_mapped a_now (ar st) it (ar cl) (ar rd) := by
    intro t u v h1 h1' h2 hul
    unfold wY_step_98
    rw [e2]
    refine pk_le (md_tk (mr_o g q)) 1 (fun z => S120 t u v 0 tk h1 h1' (fun y => by omega) hul) (fun z => ⟨vp_in_nI (by omega) (by omega), ?_⟩)
    rw [nI_clamp (by omega)]
    exact S120 t u v _ tk h1 h1' (fun y => ⟨h2 y, rfl⟩) hul
  have S76 : ∀ (t : Nat) (v : Int32), (0 < md_tk (mr_o g q) → t = mr_t q ∧ v = it (3 + rq_h q)) → (¬ 0 < md_tk (mr_o g q) → t = 0) → wY_step_76 post (nI (mr_o g q)) (mc_r g (rq_l q)) (nI (md_tk (mr_o g q))) (nI (rq_h q - md_tk (mr_o g q))) (nI t) v (nI (mc_cc g)) (nI (mc_hc g)) f_many f_there f_typed f_wrongNumber f_wrongPlace f_size f_why (nI (rq_h q)) (nI (rq_n q)) (nI (rq_l q)) f_begun (-1) (-1) (ar (mc_p g)) (ar (mc_e g)) (ar (mc_o g)) (mc_r g) (ar (mc_f g)) (ar (mc_t g)) (ar (mc_g g)) (ar (mc_k g)) a_places a_heights a_gone a_worst a_frames a_maps a_high a_known a_mapped a_now (ar st) it (ar cl) (ar rd) := by
    intro t v h1 h1'
    unfold wY_step_76
    rw [e2]
    refine pk_le (md_tk (mr_o g q)) 1 (fun z => S98 t 0 v h1 h1' (fun y => by omega) (by omega)) (fun z => ⟨vp_in_nI (by omega) (by omega), ?_⟩)
    have r := R.1 (2 + rq_h q) (by omega)
    have hs := ok.2.2.1 (2 + rq_h q) (by omega)
    rw [ar_at _ (by omega), r.1]
    refine S98 t _ v h1 h1' (fun _ => rfl) ?_
    by_cases w : 4 ≤ rq_S q (2 + rq_h q)
    · have := hs.1 w; omega
    · omega
  have S55 : ∀ t : Nat, (0 < md_tk (mr_o g q) → t = mr_t q) → (¬ 0 < md_tk (mr_o g q) → t = 0) → wY_step_55 post (nI (mr_o g q)) (mc_r g (rq_l q)) (nI (md_tk (mr_o g q))) (nI (rq_h q - md_tk (mr_o g q))) (nI t) (nI (mc_cc g)) (nI (mc_hc g)) f_many f_there f_typed f_wrongNumber f_wrongPlace f_size f_why (nI (rq_h q)) (nI (rq_n q)) (nI (rq_l q)) f_begun (-1) (-1) (ar (mc_p g)) (ar (mc_e g)) (ar (mc_o g)) (mc_r g) (ar (mc_f g)) (ar (mc_t g)) (ar (mc_g g)) (ar (mc_k g)) a_places a_heights a_gone a_worst a_frames a_maps a_high a_known a_mapped a_now (ar st) it (ar cl) (ar rd) := by
    intro t h1 h1'
    unfold wY_step_55
    rw [e3]
    refine pk_le (md_tk (mr_o g q)) 0 (fun z => S76 t 0 (fun y => by omega) h1') (fun z => ⟨vp_in_nI (by omega) (by omega), ?_⟩)
    rw [nI_clamp (by omega)]
    exact S76 t _ (fun y => ⟨h1 y, rfl⟩) h1'
  refine pk_le (md_tk (mr_o g q)) 0 (fun z => S55 0 (fun y => by omega) (fun _ => rfl)) (fun z => ?_)
  rw [e3]
  refine ⟨vp_in_nI (by omega) (by omega), ?_⟩
  rw [ar_at _ (by omega), (R.1 (3 + rq_h q) (by omega)).1]
  exact S55 _ (fun _ => rfl) (fun y => absurd (by omega) y)
end
