/-! ===== the reference: the whole run ===== -/
section
variable {f_length f_handlers f_many f_there f_typed f_wrongNumber f_wrongPlace f_size f_why f_height f_objects f_line f_begun f_last f_end : Int32} {a_parent a_begin a_op a_arg a_from a_to a_target a_caught a_places a_heights a_gone a_worst a_frames a_maps a_high a_known a_mapped a_now a_sorts a_ints a_classes a_ready : Nat → Int32}
variable {g : md_C}
theorem yr_loop {post : Int32 → SY → Prop} {most : Nat} (hG : md_G g) (hM : md_M g) (hm : most ≤ 200) (res : mr_Q × Nat × Nat × Nat) (HP : ∀ w, res.2.1 = w + 1 → ∀ (st cl rd : Nat → Nat) (it : Nat → Int32) (hh : Int32), mr_Yn 4 res.1 st it cl rd → post (nI w) ((nI (mc_cc g)), (nI (mc_hc g)), f_many, f_there, f_typed, f_wrongNumber, f_wrongPlace, f_size, f_why, hh, (nI (rq_n res.1)), (nI (rq_l res.1)), (nI res.2.2.2), (mr_le res.2.2.1), (nI w), (ar (mc_p g)), (ar (mc_e g)), (ar (mc_o g)), (mc_r g), (ar (mc_f g)), (ar (mc_t g)), (ar (mc_g g)), (ar (mc_k g)), a_places, a_heights, a_gone, a_worst, a_frames, a_maps, a_high, a_known, a_mapped, a_now, (ar st), it, (ar cl), (ar rd))) : ∀ r b (q : mr_Q) (st cl rd : Nat → Nat) (it : Nat → Int32), b + r = most → mr_Y q st it cl rd → mr_ok g q → rq_n q ≤ 4 + b → mr_run g most (r + 1) b q = res → wY_run_109 post (nI most) (r + 3) (nI (mc_cc g)) (nI (mc_hc g)) f_many f_there f_typed f_wrongNumber f_wrongPlace f_size f_why (nI (rq_h q)) (nI (rq_n q)) (nI (rq_l q)) (nI b) (-1) (-1) (ar (mc_p g)) (ar (mc_e g)) (ar (mc_o g)) (mc_r g) (ar (mc_f g)) (ar (mc_t g)) (ar (mc_g g)) (ar (mc_k g)) a_places a_heights a_gone a_worst a_frames a_maps a_high a_known a_mapped a_now (ar st) it (ar cl) (ar rd) := by
  have out : ∀ n (x : Nat), x ≤ 10 → ∀ (q : mr_Q) (st cl rd : Nat → Nat) (it : Nat → Int32) (bb : Nat) (la hh : Int32), post (nI x) ((nI (mc_cc g)), (nI (mc_hc g)), f_many, f_there, f_typed, f_wrongNumber, f_wrongPlace, f_size, f_why, hh, (nI (rq_n q)), (nI (rq_l q)), (nI bb), la, (nI x), (ar (mc_p g)), (ar (mc_e g)), (ar (mc_o g)), (mc_r g), (ar (mc_f g)), (ar (mc_t g)), (ar (mc_g g)), (ar (mc_k g)), a_places, a_heights, a_gone, a_worst, a_frames, a_maps, a_high, a_known, a_mapped, a_now, (ar st), it, (ar cl), (ar rd)) → wY_run_109 post (nI most) (n + 1) (nI (mc_cc g)) (nI (mc_hc g)) f_many f_there f_typed f_wrongNumber f_wrongPlace f_size f_why hh (nI (rq_n q)) (nI (rq_l q)) (nI bb) la (nI x) (ar (mc_p g)) (ar (mc_e g)) (ar (mc_o g)) (mc_r g) (ar (mc_f g)) (ar (mc_t g)) (ar (mc_g g)) (ar (mc_k g)) a_places a_heights a_gone a_worst a_frames a_maps a_high a_known a_mapped a_now (ar st) it (ar cl) (ar rd) := by
    intro n x hx q st cl rd it bb la hh h
    exact xb_n' (by omega) h
  intro r
  induction r with
  | zero =>
    intro b q st cl rd it hb R ok hn er
    refine xb_m' ?_
    have hl := ok.2.1
    have hcc := hG.1
    simp only [mr_run] at er
    refine pk_eq (rq_l q) (mc_cc g) (fun c => ?_) (fun c => pk_eq b most (fun d => ?_) (fun d => by omega))
    · rw [if_pos c] at er
      subst er
      exact out 1 4 (by omega) q st cl rd it b _ _ (HP 4 rfl st cl rd it _ (mr_Yl R))
    · rw [if_neg c, if_pos d] at er
      subst er
      exact out 1 3 (by omega) q st cl rd it b _ _ (HP 3 rfl st cl rd it _ (mr_Yl R))
  | succ r ih =>
    intro b q st cl rd it hb R ok hn er
    refine xb_m' ?_
    have hl := ok.2.1
    have hcc := hG.1
    rw [mr_run] at er
    refine pk_eq (rq_l q) (mc_cc g) (fun c => ?_) (fun c => pk_eq b most (fun d => by omega) (fun d => nm_r (nI_1 b) ⟨vp_in_nI (by omega) (by omega), vp_in_nI (by omega) (by omega), ?_⟩))
    · rw [if_pos c] at er
      subst er
      exact out (r + 2) 4 (by omega) q st cl rd it b _ _ (HP 4 rfl st cl rd it _ (mr_Yl R))
    · rw [if_neg c, if_neg d] at er
      have eo : ar (mc_o g) (nI (rq_l q)).toNatClampNeg = nI (mr_o g q) := ar_at _ (by omega)
      have ea : mc_r g (nI (rq_l q)).toNatClampNeg = mc_r g (rq_l q) := by rw [nI_clamp (by omega)]
      rw [eo, ea]
      obtain ⟨ok1, hn1⟩ := mr_st_ok hG hM ok (by omega)
      refine yr_step hG hM R ok (by omega) (by omega) (fun e0 st1 cl1 rd1 it1 R1 => ?_) (fun w e0 st1 cl1 rd1 it1 hh R1 => ?_)
      · rw [if_pos e0] at er
        exact ih (b + 1) (mr_st g q).1 st1 cl1 rd1 it1 (by omega) R1 ok1 (by omega) er
      · rw [if_neg (by omega)] at er
        subst er
        have w4 : w ≤ 4 := by
          have : (mr_st g q).2.1 ≤ 5 := by
            unfold mr_st mr_rz
            repeat' split
            all_goals (first | omega | (dsimp only; omega))
          omega
        exact out (r + 2) w (by omega) (mr_st g q).1 st1 cl1 rd1 it1 (b + 1) _ _ (HP w e0 st1 cl1 rd1 it1 hh R1)
theorem yr_bv {post : Int32 → SY → Prop} {st cl rd : Nat → Nat} {it : Nat → Int32} {most : Int32} (hG : md_G g) (H : ∀ (st cl rd : Nat → Nat) (it : Nat → Int32), mr_Y (mr_b0 g 4) st it cl rd → ∃ n, wY_run_109 post most n (nI (mc_cc g)) (nI (mc_hc g)) f_many f_there f_typed f_wrongNumber f_wrongPlace f_size f_why (nI (rq_h (mr_b0 g 4))) (nI (rq_n (mr_b0 g 4))) (nI (rq_l (mr_b0 g 4))) 0 (-1) (-1) (ar (mc_p g)) (ar (mc_e g)) (ar (mc_o g)) (mc_r g) (ar (mc_f g)) (ar (mc_t g)) (ar (mc_g g)) (ar (mc_k g)) a_places a_heights a_gone a_worst a_frames a_maps a_high a_known a_mapped a_now (ar st) it (ar cl) (ar rd)) : ∃ n, wY_run_43 post most n 0 (nI (mc_cc g)) (nI (mc_hc g)) f_many f_there f_typed f_wrongNumber f_wrongPlace f_size f_why 0 0 f_line 0 (-1) f_end (ar (mc_p g)) (ar (mc_e g)) (ar (mc_o g)) (mc_r g) (ar (mc_f g)) (ar (mc_t g)) (ar (mc_g g)) (ar (mc_k g)) a_places a_heights a_gone a_worst a_frames a_maps a_high a_known a_mapped a_now (ar st) it (ar cl) (ar rd) := by
  have L : ∀ e s, s + e = 4 → ∀ (st cl rd : Nat → Nat) (it : Nat → Int32), (∀ t, t < s → st t = rq_S (mr_b0 g s) t ∧ (rq_S (mr_b0 g s) t = 1 ∨ rq_S (mr_b0 g s) t = 3 → it t = rq_I (mr_b0 g s) t)) → (∀ j, j < rq_n (mr_b0 g s) → cl j = rq_C (mr_b0 g s) j ∧ rd j = (rq_R (mr_b0 g s) j).toNat) → wY_run_43 post most (e + 1) (nI s) (nI (mc_cc g)) (nI (mc_hc g)) f_many f_there f_typed f_wrongNumber f_wrongPlace f_size f_why 0 (nI (rq_n (mr_b0 g s))) f_line 0 (-1) f_end (ar (mc_p g)) (ar (mc_e g)) (ar (mc_o g)) (mc_r g) (ar (mc_f g)) (ar (mc_t g)) (ar (mc_g g)) (ar (mc_k g)) a_places a_heights a_gone a_worst a_frames a_maps a_high a_known a_mapped a_now (ar st) it (ar cl) (ar rd) := by
    intro e
    induction e with
    | zero =>
      intro s hs st cl rd it h1 h2
      have es : s = 4 := by omega
      subst es
      obtain ⟨hh, hl⟩ := mr_b0h g 4
      refine pk_le 4 4 (fun _ => ?_) (fun c => by omega)
      have := H st cl rd it ⟨fun t ht => h1 t (by omega), h2⟩
      rw [hh, hl] at this; exact this
    | succ e ih =>
      intro s hs st cl rd it h1 h2
      have he := hG.2.2.2.2.2.2 s
      obtain ⟨kn, _, _⟩ := mr_b0k hG s
      refine pk_le 4 s (fun c => by omega) (fun _ => ⟨vp_in_nI (by omega) (by omega), nm_r (e' := upd it s 0) (by rw [nI_clamp (by omega)]) ⟨vp_in_nI (by omega) (by omega), ?_⟩⟩)
      have eb : ar (mc_e g) (nI s).toNatClampNeg = nI (mc_e g s) := ar_at _ (by omega)
      rw [eb]
      refine pk_le 3 (mc_e g s) (fun c => ⟨vp_in_nI (by omega) (by omega), ?_⟩) (fun c => ⟨vp_in_nI (by omega) (by omega), vp_in_nI (by omega) (by omega), nm_r (ar_ui _ _ (by omega)) (nm_r (nI_1 s) ?_)⟩)
      · have e3 : nI (mc_e g s) - 3 = nI (mc_e g s - 3) := pk_sub (b := 3) c
        rw [e3]
        refine yr_obj (b := true) (by omega) ⟨vp_in_nI (by omega) (by omega), nm_r (ar_ui _ _ (by omega)) (nm_r (nI_1 s) ?_)⟩
        have := ih (s + 1) (by omega) (mf_up st s (4 + rq_n (mr_b0 g s))) (mf_up cl (rq_n (mr_b0 g s)) (mc_e g s - 3)) (mf_up rd (rq_n (mr_b0 g s)) 1) (upd it s 0)
        rw [mr_b0o c] at this
        refine this (fun t ht => ?_) (fun j hj => ?_)
        · show mf_up st s (4 + rq_n (mr_b0 g s)) t = mf_up (rq_S (mr_b0 g s)) s (4 + rq_n (mr_b0 g s)) t ∧ (mf_up (rq_S (mr_b0 g s)) s (4 + rq_n (mr_b0 g s)) t = 1 ∨ mf_up (rq_S (mr_b0 g s)) s (4 + rq_n (mr_b0 g s)) t = 3 → upd it s 0 t = upd (rq_I (mr_b0 g s)) s 0 t)
          by_cases w : t = s
          · subst w; rw [up_s, up_s, pk_us, pk_us]; exact ⟨rfl, fun _ => rfl⟩
          · rw [up_n w, up_n w, pk_un w, pk_un w]; exact h1 t (by omega)
        · have hj' : j < rq_n (mr_b0 g s) + 1 := hj
          show mf_up cl (rq_n (mr_b0 g s)) (mc_e g s - 3) j = mf_up (rq_C (mr_b0 g s)) (rq_n (mr_b0 g s)) (mc_e g s - 3) j ∧ mf_up rd (rq_n (mr_b0 g s)) 1 j = (mr_uB (rq_R (mr_b0 g s)) (rq_n (mr_b0 g s)) true j).toNat
          unfold mr_uB
          by_cases w : j = rq_n (mr_b0 g s)
          · subst w; rw [up_s, up_s, up_s, if_pos rfl]; exact ⟨rfl, rfl⟩
          · rw [up_n w, up_n w, up_n w, if_neg w]; exact h2 j (by omega)
      · have := ih (s + 1) (by omega) (mf_up st s (mc_e g s)) cl rd (upd it s 0)
        rw [mr_b0n (by omega)] at this
        refine this (fun t ht => ?_) h2
        show mf_up st s (mc_e g s) t = mf_up (rq_S (mr_b0 g s)) s (mc_e g s) t ∧ (mf_up (rq_S (mr_b0 g s)) s (mc_e g s) t = 1 ∨ mf_up (rq_S (mr_b0 g s)) s (mc_e g s) t = 3 → upd it s 0 t = upd (rq_I (mr_b0 g s)) s 0 t)
        by_cases w : t = s
        · subst w; rw [up_s, up_s, pk_us, pk_us]; exact ⟨rfl, fun _ => rfl⟩
        · rw [up_n w, up_n w, pk_un w, pk_un w]; exact h1 t (by omega)
  exact ⟨5, L 4 0 rfl st cl rd it (fun t ht => by omega) (fun j hj => by have : j < 0 := hj; omega)⟩
/-- a run ends -/
theorem mr_run_end {most : Nat} : ∀ r b (q : mr_Q), b + r = most → ∃ w, (mr_run g most (r + 1) b q).2.1 = w + 1 ∧ w ≤ 4 := by
  have w5 : ∀ q, (mr_st g q).2.1 ≤ 5 := by
    intro q
    unfold mr_st mr_rz
    repeat' split
    all_goals (first | omega | (dsimp only; omega))
  intro r
  induction r with
  | zero =>
    intro b q hb
    simp only [mr_run]
    split
    · exact ⟨4, rfl, by omega⟩
    · split
      · exact ⟨3, rfl, by omega⟩
      · omega
  | succ r ih =>
    intro b q hb
    rw [mr_run]
    split
    · exact ⟨4, rfl, by omega⟩
    · split
      · exact ⟨3, rfl, by omega⟩
      · split
        · exact ih (b + 1) _ (by omega)
        · have := w5 q
          exact ⟨(mr_st g q).2.1 - 1, by dsimp only; omega, by omega⟩
end
