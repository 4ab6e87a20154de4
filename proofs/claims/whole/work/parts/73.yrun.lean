/-! ===== the reference: one instruction of a run ===== -/
section
variable {f_length f_handlers f_many f_there f_typed f_wrongNumber f_wrongPlace f_size f_why f_height f_objects f_line f_begun f_last f_end : Int32} {a_parent a_begin a_op a_arg a_from a_to a_target a_caught a_places a_heights a_gone a_worst a_frames a_maps a_high a_known a_mapped a_now a_sorts a_ints a_classes a_ready : Nat → Int32}
variable {g : md_C} {q : mr_Q} {st cl rd : Nat → Nat} {it : Nat → Int32}
def mr_Yn (n : Nat) (q : mr_Q) (st : Nat → Nat) (it : Nat → Int32) (cl rd : Nat → Nat) : Prop := (∀ s, s < n → st s = rq_S q s ∧ (rq_S q s = 1 ∨ rq_S q s = 3 → it s = rq_I q s)) ∧ (∀ j, j < rq_n q → cl j = rq_C q j ∧ rd j = (rq_R q j).toNat)
def mr_Y (q : mr_Q) (st : Nat → Nat) (it : Nat → Int32) (cl rd : Nat → Nat) : Prop := mr_Yn (4 + rq_h q) q st it cl rd
theorem mr_Yl (R : mr_Y q st it cl rd) : mr_Yn 4 q st it cl rd := ⟨fun s hs => R.1 s (by omega), R.2⟩
theorem mr_Y_set {i s h' l' : Nat} {v w : Int32} (R : mr_Y q st it cl rd) (hs : h' ≤ rq_h q ∨ (i = 4 + rq_h q ∧ h' = rq_h q + 1)) (hv : s = 1 ∨ s = 3 → w = v) : mr_Y (mr_set q i s v h' l') (mf_up st i s) (upd it i w) cl rd := by
  refine ⟨fun j hj => ?_, R.2⟩
  have hj' : j < 4 + h' := hj
  show mf_up st i s j = mf_up (rq_S q) i s j ∧ (mf_up (rq_S q) i s j = 1 ∨ mf_up (rq_S q) i s j = 3 → upd it i w j = upd (rq_I q) i v j)
  by_cases e : j = i
  · subst e
    rw [up_s, up_s, pk_us, pk_us]; exact ⟨rfl, hv⟩
  · rw [up_n e, up_n e, pk_un e, pk_un e]
    exact R.1 j (by omega)
theorem mr_Y_hl {h' l' : Nat} (R : mr_Y q st it cl rd) (hs : h' ≤ rq_h q) : mr_Y (mr_hl q h' l') st it cl rd := by
  refine ⟨fun j hj => ?_, R.2⟩
  have hj' : j < 4 + h' := hj
  exact R.1 j (by omega)
theorem mr_Y_obj {n c : Nat} {b : Bool} (R : mr_Yn n q st it cl rd) : mr_Yn n (mr_obj q c b) st it (mf_up cl (rq_n q) c) (mf_up rd (rq_n q) b.toNat) := by
  refine ⟨R.1, fun j hj => ?_⟩
  have hj' : j < rq_n q + 1 := hj
  show mf_up cl (rq_n q) c j = mf_up (rq_C q) (rq_n q) c j ∧ mf_up rd (rq_n q) b.toNat j = (mr_uB (rq_R q) (rq_n q) b j).toNat
  unfold mr_uB
  by_cases e : j = rq_n q
  · subst e; rw [up_s, up_s, up_s, if_pos rfl]; exact ⟨rfl, rfl⟩
  · rw [up_n e, up_n e, up_n e, if_neg e]; exact R.2 j (by omega)
theorem yr_put {post : SY → Prop} {h s : Nat} {v : Int32} (hh : h ≤ 5) (H : post (f_length, f_handlers, f_many, f_there, f_typed, f_wrongNumber, f_wrongPlace, f_size, f_why, (nI (h + 1)), f_objects, f_line, f_begun, f_last, f_end, a_parent, a_begin, a_op, a_arg, a_from, a_to, a_target, a_caught, a_places, a_heights, a_gone, a_worst, a_frames, a_maps, a_high, a_known, a_mapped, a_now, (ar (mf_up st (4 + h) s)), (upd it (4 + h) v), a_classes, a_ready)) : wpY_put post (f_length, f_handlers, f_many, f_there, f_typed, f_wrongNumber, f_wrongPlace, f_size, f_why, (nI h), f_objects, f_line, f_begun, f_last, f_end, a_parent, a_begin, a_op, a_arg, a_from, a_to, a_target, a_caught, a_places, a_heights, a_gone, a_worst, a_frames, a_maps, a_high, a_known, a_mapped, a_now, (ar st), it, a_classes, a_ready) (nI s) v := by
  unfold wpY_put
  dsimp only
  have e : (4 : Int32) + nI h = nI (4 + h) := nI_add 4 h
  rw [e]
  exact ⟨vp_in_nI (by omega) (by omega), nm_r (ar_ui _ _ (by omega)) ⟨vp_in_nI (by omega) (by omega), nm_r (e' := upd it (4 + h) v) (by rw [nI_clamp (by omega)]) (nm_r (nI_1 h) H)⟩⟩
theorem yr_obj {post : Int32 → SY → Prop} {n c : Nat} {b : Bool} (hn : n ≤ 239) (H : post (nI (4 + n)) (f_length, f_handlers, f_many, f_there, f_typed, f_wrongNumber, f_wrongPlace, f_size, f_why, f_height, (nI (n + 1)), f_line, f_begun, f_last, f_end, a_parent, a_begin, a_op, a_arg, a_from, a_to, a_target, a_caught, a_places, a_heights, a_gone, a_worst, a_frames, a_maps, a_high, a_known, a_mapped, a_now, a_sorts, a_ints, (ar (mf_up cl n c)), (ar (mf_up rd n b.toNat)))) : wpY_object post (f_length, f_handlers, f_many, f_there, f_typed, f_wrongNumber, f_wrongPlace, f_size, f_why, f_height, (nI n), f_line, f_begun, f_last, f_end, a_parent, a_begin, a_op, a_arg, a_from, a_to, a_target, a_caught, a_places, a_heights, a_gone, a_worst, a_frames, a_maps, a_high, a_known, a_mapped, a_now, a_sorts, a_ints, (ar cl), (ar rd)) (nI c) (mf_b b) := by
  unfold wpY_object
  dsimp only
  have e3 : (3 : Int32) + nI (n + 1) = nI (4 + n) := by
    show nI 3 + nI (n + 1) = _
    rw [nI_add]; exact congrArg nI (by omega)
  refine ⟨vp_in_nI (by omega) (by omega), nm_r (ar_ui _ _ (by omega)) ⟨vp_in_nI (by omega) (by omega), nm_r (e' := ar (mf_up rd n b.toNat)) ?_ (nm_r (nI_1 n) ?_)⟩⟩
  · have : vp_nar .boolean (mf_b b) = nI b.toNat := by cases b <;> decide
    rw [this]; exact ar_ui _ _ (by omega)
  · rw [e3]; exact H
theorem yr_rdy {post : Int32 → Prop} {t : Nat} (hn : rq_n q ≤ 205) (R2 : ∀ j, j < rq_n q → cl j = rq_C q j ∧ rd j = (rq_R q j).toNat) (ht : 4 ≤ t → t - 4 < rq_n q) (h1 : 4 ≤ t ∧ rq_R q (t - 4) = true → post 1) (h0 : ¬ (4 ≤ t ∧ rq_R q (t - 4) = true) → post 0) (tl : t < 2 ^ 31) : wpY_isReady post (f_length, f_handlers, f_many, f_there, f_typed, f_wrongNumber, f_wrongPlace, f_size, f_why, f_height, f_objects, f_line, f_begun, f_last, f_end, a_parent, a_begin, a_op, a_arg, a_from, a_to, a_target, a_caught, a_places, a_heights, a_gone, a_worst, a_frames, a_maps, a_high, a_known, a_mapped, a_now, a_sorts, a_ints, a_classes, (ar rd)) (nI t) := by
  unfold wpY_isReady
  dsimp only
  refine pk_le t 3 (fun c => h0 (fun z => by omega)) (fun c => ?_)
  have e : nI t - 4 = nI (t - 4) := pk_sub (b := 4) (by omega)
  have hj := ht (by omega)
  rw [e, ar_at _ (by omega), (R2 _ hj).2]
  refine ⟨vp_in_nI (by omega) (by omega), ?_⟩
  cases er : rq_R q (t - 4) with
  | false => exact xb_0 (h0 (fun z => by rw [er] at z; cases z.2))
  | true => exact xb_1 (h1 ⟨by omega, er⟩)
theorem yr_of {post : Int32 → Prop} {t a : Nat} (hG : md_G g) (hn : rq_n q ≤ 205) (R2 : ∀ j, j < rq_n q → cl j = rq_C q j ∧ rd j = (rq_R q j).toNat) (hC : ∀ j, j < rq_n q → rq_C q j < 8) (ht : 4 ≤ t → t - 4 < rq_n q) (ha : a < 8) (tl : t < 2 ^ 31) (h1 : mr_of g q t a → post 1) (h0 : ¬ mr_of g q t a → post 0) : wpY_isOf post ((nI (mc_cc g)), (nI (mc_hc g)), f_many, f_there, f_typed, f_wrongNumber, f_wrongPlace, f_size, f_why, f_height, f_objects, f_line, f_begun, f_last, f_end, (ar (mc_p g)), (ar (mc_e g)), (ar (mc_o g)), (mc_r g), (ar (mc_f g)), (ar (mc_t g)), (ar (mc_g g)), (ar (mc_k g)), a_places, a_heights, a_gone, a_worst, a_frames, a_maps, a_high, a_known, a_mapped, a_now, a_sorts, a_ints, (ar cl), (ar rd)) (nI t) (nI a) := by
  unfold wpY_isOf
  dsimp only
  refine pk_eq t 2 (fun c => h1 (Or.inl c)) (fun c => yr_rdy (q := q) hn R2 ht (fun z => xb_1 ?_) (fun z => xb_0 (h0 ?_)) tl)
  · have e : nI t - 4 = nI (t - 4) := pk_sub (b := 4) z.1
    have hj := ht z.1
    rw [e, ar_at _ (by omega), (R2 _ hj).1]
    refine ⟨vp_in_nI (by omega) (by omega), ya_abv hG (hC _ hj) ha (fun y => xb_1 (h1 (Or.inr ⟨z.1, z.2, y⟩))) (fun y => xb_0 (h0 ?_))⟩
    rintro (w | ⟨_, _, w⟩)
    · exact c w
    · exact y w
  · rintro (w | ⟨w1, w2, _⟩)
    · exact c w
    · exact z ⟨w1, w2⟩
theorem yr_good {post : Int32 → Prop} {t u : Nat} (hG : md_G g) (R : mr_Y q st it cl rd) (ok : mr_ok g q) (hn : rq_n q ≤ 205) (hl : rq_l q < mc_cc g) (tk : md_tk (mr_o g q) ≤ rq_h q ∧ rq_h q + md_pu (mr_o g q) ≤ 6 + md_tk (mr_o g q)) (ht : 0 < md_tk (mr_o g q) → t = mr_t q) (hu : 1 < md_tk (mr_o g q) → u = rq_S q (2 + rq_h q)) (ul : u < 2 ^ 31) (h1 : mr_gd g q → post 1) (h0 : ¬ mr_gd g q → post 0) : wpY_isGood post ((nI (mc_cc g)), (nI (mc_hc g)), f_many, f_there, f_typed, f_wrongNumber, f_wrongPlace, f_size, f_why, (nI (rq_h q)), (nI (rq_n q)), (nI (rq_l q)), f_begun, f_last, f_end, (ar (mc_p g)), (ar (mc_e g)), (ar (mc_o g)), (mc_r g), (ar (mc_f g)), (ar (mc_t g)), (ar (mc_g g)), (ar (mc_k g)), a_places, a_heights, a_gone, a_worst, a_frames, a_maps, a_high, a_known, a_mapped, a_now, (ar st), it, (ar cl), (ar rd)) (nI (mr_o g q)) (mc_r g (rq_l q)) (nI t) (nI u) := by
  have hcc := hG.1
  have h6 := ok.1
  have h20 : mr_o g q < 20 := hG.2.2.1 _
  have ha : mc_a g (rq_l q) = mr_a g q := rfl
  have tl : 0 < rq_h q → mr_t q < 2 ^ 31 := by
    intro hp
    have := (ok.2.2.1 (3 + rq_h q) (by omega)).1
    have e : rq_S q (3 + rq_h q) = mr_t q := rfl
    rw [e] at this
    by_cases c : 4 ≤ mr_t q
    · have := this c; omega
    · omega
  have t4 : 0 < rq_h q → 4 ≤ mr_t q → mr_t q - 4 < rq_n q := fun hp => (ok.2.2.1 (3 + rq_h q) (by omega)).1
  have tkn : ∀ n k, mr_o g q = n → md_tk n = k → k ≤ rq_h q ∧ md_tk (mr_o g q) = k := by
    intro n k e1 e2; rw [e1, e2] at tk ⊢; exact ⟨tk.1, rfl⟩
  unfold wpY_isGood
  dsimp only
  have T : (mr_o g q < 2 ∨ mr_o g q = 3 ∨ mr_o g q = 4 ∨ mr_o g q = 5 ∨ mr_o g q = 6 ∨ mr_o g q = 8 ∨ mr_o g q = 12 ∨ mr_o g q = 15 ∨ mr_o g q = 17) → post 1 := by
    intro z
    refine h1 ⟨tk, fun y => by omega, fun y => by omega, fun y => by omega, fun y => by omega, fun y => by omega, fun y => by omega, fun y => by omega⟩
  have nb1 : narrow .boolean (.int (1 : Int32)) = .int 1 := rfl
  have nb0 : narrow .boolean (.int (0 : Int32)) = .int 0 := rfl
  have S152 : (mr_o g q = 10 ∨ mr_o g q = 14 ∨ mr_o g q = 19) → 0 < rq_h q → t = mr_t q → wY_isGood_152 post (nI t) (nI (mc_cc g)) (nI (mc_hc g)) f_many f_there f_typed f_wrongNumber f_wrongPlace f_size f_why (nI (rq_h q)) (nI (rq_n q)) (nI (rq_l q)) f_begun f_last f_end (ar (mc_p g)) (ar (mc_e g)) (ar (mc_o g)) (mc_r g) (ar (mc_f g)) (ar (mc_t g)) (ar (mc_g g)) (ar (mc_k g)) a_places a_heights a_gone a_worst a_frames a_maps a_high a_known a_mapped a_now (ar st) it (ar cl) (ar rd) := by
    intro z hp et
    have tl := tl hp
    unfold wY_isGood_152
    rw [et]
    have mk : mr_ref q (mr_t q) → mr_gd g q := fun y => ⟨tk, fun y => by omega, fun y => by omega, fun y => by omega, fun _ => y, fun y => by omega, fun y => by omega, fun y => by omega⟩
    refine pk_eq (mr_t q) 2 (fun c => h1 (mk (Or.inl c))) (fun c => yr_rdy (q := q) hn R.2 (t4 hp) (fun y => xb_1 (h1 (mk (Or.inr y)))) (fun y => xb_0 (h0 (fun w => ?_))) tl)
    rcases w.2.2.2.2.1 z with v | v
    · exact c v
    · exact y v
  have S171 : (mr_o g q = 11 ∨ mr_o g q = 18) → 0 < rq_h q → t = mr_t q → wY_isGood_171 post (mc_r g (rq_l q)) (nI t) (nI (mc_cc g)) (nI (mc_hc g)) f_many f_there f_typed f_wrongNumber f_wrongPlace f_size f_why (nI (rq_h q)) (nI (rq_n q)) (nI (rq_l q)) f_begun f_last f_end (ar (mc_p g)) (ar (mc_e g)) (ar (mc_o g)) (mc_r g) (ar (mc_f g)) (ar (mc_t g)) (ar (mc_g g)) (ar (mc_k g)) a_places a_heights a_gone a_worst a_frames a_maps a_high a_known a_mapped a_now (ar st) it (ar cl) (ar rd) := by
    intro z hp et
    have hla := mn_lim8 hG (i := rq_l q) (show mr_o g q = 8 ∨ mr_o g q = 10 ∨ mr_o g q = 11 ∨ mr_o g q = 18 by omega)
    unfold wY_isGood_171
    rw [et, hla.2]
    refine yr_of hG hn R.2 ok.2.2.2 (t4 hp) hla.1 (tl hp) (fun y => ⟨nb1, h1 ?_⟩) (fun y => ⟨nb0, h0 (fun w => y (w.2.2.2.2.2.1 z))⟩)
    exact ⟨tk, fun y => by omega, fun y => by omega, fun y => by omega, fun y => by omega, fun _ => y, fun y => by omega, fun y => by omega⟩
  refine pk_lt (mr_o g q) 2 (fun c => T (by omega)) (fun c2 => pk_lt 19 (mr_o g q) (fun c => by omega) (fun c19 => ?_))
  refine pk_eq (mr_o g q) 2 (fun c => ?_) (fun n2 => ?_)
  · have hla := mn_lim4 hG (i := rq_l q) (Or.inl c)
    have hs := ok.2.2.1 (mr_a g q) (by omega)
    have sl : rq_S q (mr_a g q) < 2 ^ 31 := by
      by_cases w : 4 ≤ rq_S q (mr_a g q)
      · have := hs.1 w; omega
      · omega
    rw [hla.2, ha, ar_at _ (by omega), (R.1 (mr_a g q) (by omega)).1]
    refine ⟨vp_in_nI (by omega) (by omega), pk_eq (rq_S q (mr_a g q)) 0 (fun z => h0 (fun w => (w.2.1 c).1 z)) (fun z => ⟨vp_in_nI (by omega) (by omega), pk_eq (rq_S q (mr_a g q)) 3 (fun y => h0 (fun w => (w.2.1 c).2 y)) (fun y => h1 ?_)⟩)⟩
    exact ⟨tk, fun _ => ⟨z, y⟩, fun y => by omega, fun y => by omega, fun y => by omega, fun y => by omega, fun y => by omega, fun y => by omega⟩
  refine pk_eq (mr_o g q) 3 (fun c => T (by omega)) (fun n3 => pk_eq (mr_o g q) 4 (fun c => T (by omega)) (fun n4 => pk_eq (mr_o g q) 5 (fun c => T (by omega)) (fun n5 => pk_eq (mr_o g q) 6 (fun c => T (by omega)) (fun n6 => ?_))))
  refine pk_eq (mr_o g q) 7 (fun c => ?_) (fun n7 => ?_)
  · obtain ⟨hp, e2⟩ := tkn 7 2 c rfl
    have et := ht (by omega)
    have eu := hu (by omega)
    have tl := tl (by omega)
    refine pk_eq t 1 (fun z => pk_eq u 1 (fun y => h1 ?_) (fun y => h0 (fun w => y (eu.trans (w.2.2.1 c).2)))) (fun z => h0 (fun w => z (et.trans (w.2.2.1 c).1)))
    exact ⟨tk, fun y => by omega, fun _ => ⟨et.symm.trans z, eu.symm.trans y⟩, fun y => by omega, fun y => by omega, fun y => by omega, fun y => by omega, fun y => by omega⟩
  refine pk_eq (mr_o g q) 8 (fun c => T (by omega)) (fun n8 => ?_)
  refine pk_eq (mr_o g q) 9 (fun c => ?_) (fun n9 => ?_)
  · obtain ⟨hp, e2⟩ := tkn 9 1 c rfl
    have et := ht (by omega)
    have tl := tl (by omega)
    rw [et]
    refine pk_le (mr_t q) 3 (fun z => h0 (fun w => by have := (w.2.2.2.1 c).1; omega)) (fun z => ?_)
    have e : nI (mr_t q) - 4 = nI (mr_t q - 4) := pk_sub (b := 4) (by omega)
    have hj := t4 (by omega) (by omega)
    rw [e, ar_at _ (by omega), (R.2 _ hj).2]
    refine ⟨vp_in_nI (by omega) (by omega), ?_⟩
    cases er : rq_R q (mr_t q - 4) with
    | false => exact xb_0 (h1 ⟨tk, fun y => by omega, fun y => by omega, fun _ => ⟨by omega, er⟩, fun y => by omega, fun y => by omega, fun y => by omega, fun y => by omega⟩)
    | true =>
      refine xb_1 (h0 (fun w => ?_))
      have := (w.2.2.2.1 c).2
      rw [er] at this; cases this
  refine pk_eq (mr_o g q) 10 (fun c => S152 (by omega) (tkn 10 1 c rfl).1 (ht (by have := tkn 10 1 c rfl; omega))) (fun n10 => pk_eq (mr_o g q) 11 (fun c => S171 (by omega) (tkn 11 1 c rfl).1 (ht (by have := tkn 11 1 c rfl; omega))) (fun n11 => pk_eq (mr_o g q) 12 (fun c => T (by omega)) (fun n12 => ?_)))
  refine pk_eq (mr_o g q) 13 (fun c => ?_) (fun n13 => ?_)
  · obtain ⟨hp, e2⟩ := tkn 13 1 c rfl
    have et := ht (by omega)
    have tl := tl (by omega)
    refine pk_eq t 1 (fun z => h1 ?_) (fun z => h0 (fun w => z (et.trans (w.2.2.2.2.2.2.1 c))))
    exact ⟨tk, fun y => by omega, fun y => by omega, fun y => by omega, fun y => by omega, fun y => by omega, fun _ => et.symm.trans z, fun y => by omega⟩
  refine pk_eq (mr_o g q) 14 (fun c => S152 (by omega) (tkn 14 1 c rfl).1 (ht (by have := tkn 14 1 c rfl; omega))) (fun n14 => pk_eq (mr_o g q) 15 (fun c => T (by omega)) (fun n15 => ?_))
  refine pk_eq (mr_o g q) 16 (fun c => ?_) (fun n16 => ?_)
  · have hla := mn_lim4 hG (i := rq_l q) (Or.inr (Or.inr c))
    have hs := ok.2.2.1 (mr_a g q) (by omega)
    have sl : rq_S q (mr_a g q) < 2 ^ 31 := by
      by_cases w : 4 ≤ rq_S q (mr_a g q)
      · have := hs.1 w; omega
      · omega
    rw [hla.2, ha, ar_at _ (by omega), (R.1 (mr_a g q) (by omega)).1]
    refine ⟨vp_in_nI (by omega) (by omega), pk_eq (rq_S q (mr_a g q)) 3 (fun z => h1 ?_) (fun z => h0 (fun w => z (w.2.2.2.2.2.2.2 c)))⟩
    exact ⟨tk, fun y => by omega, fun y => by omega, fun y => by omega, fun y => by omega, fun y => by omega, fun y => by omega, fun _ => z⟩
  refine pk_eq (mr_o g q) 17 (fun c => T (by omega)) (fun n17 => pk_eq (mr_o g q) 18 (fun c => S171 (by omega) (tkn 18 1 c rfl).1 (ht (by have := tkn 18 1 c rfl; omega))) (fun n18 => pk_eq (mr_o g q) 19 (fun c => S152 (by omega) (tkn 19 1 c rfl).1 (ht (by have := tkn 19 1 c rfl; omega))) (fun n19 => by omega)))
end
