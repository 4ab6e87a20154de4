/-! ===== the class: raising, going on, the whole instruction ===== -/
section
variable {f_codeCount f_coverCount f_placeCount f_tooMany f_layAnswer f_wrongKind f_wrongKey f_grown f_frameDepth f_frameThere f_lastReason f_valueDepth f_objectCount f_hasRun f_begun f_nowAt f_endClass : Int32} {a_parent a_entry a_code a_operand a_coverFrom a_coverTo a_coverTarget a_coverClass a_placeKey a_placeDepth a_cameWith a_ledWith a_faults a_found a_hasFound a_kept a_hasMap a_frame a_kind a_value a_objectClass a_objectReady : Nat → Int32}
variable {g : md_C} {q : mr_Q} {kd oc od : Nat → Nat} {vl : Nat → Int32}
theorem xr_top (q : mr_Q) : (4 : Int32) + nI (rq_h q) - 1 = nI (3 + rq_h q) := by
  show nI 4 + nI (rq_h q) - nI 1 = _
  rw [nI_add, pk_sub (by omega)]; exact congrArg nI (by omega)
theorem xr_rat {post : Int32 → SX → Prop} (hG : md_G g) (R : mr_X q kd vl oc od) (ok : mr_ok g q) (hn : rq_n q ≤ 203) (hl : rq_l q < mc_cc g) (gd : mr_gd g q) (H0 : mr_rs g q = none → post (-1) ((nI (mc_cc g)), (nI (mc_hc g)), f_placeCount, f_tooMany, f_layAnswer, f_wrongKind, f_wrongKey, f_grown, f_frameDepth, f_frameThere, f_lastReason, (nI (rq_h q)), (nI (rq_n q)), f_hasRun, f_begun, (nI (rq_l q)), f_endClass, (ar (mc_p g)), (ar (mc_e g)), (ar (mc_o g)), (mc_r g), (ar (mc_f g)), (ar (mc_t g)), (ar (mc_g g)), (ar (mc_k g)), a_placeKey, a_placeDepth, a_cameWith, a_ledWith, a_faults, a_found, a_hasFound, a_kept, a_hasMap, a_frame, (ar kd), vl, (ar oc), (ar od))) (H1 : ∀ ob q', mr_rs g q = some (ob, q') → ∀ oc od : Nat → Nat, mr_X q' kd vl oc od → post (nI ob) ((nI (mc_cc g)), (nI (mc_hc g)), f_placeCount, f_tooMany, f_layAnswer, f_wrongKind, f_wrongKey, f_grown, f_frameDepth, f_frameThere, f_lastReason, (nI (rq_h q')), (nI (rq_n q')), f_hasRun, f_begun, (nI (rq_l q')), f_endClass, (ar (mc_p g)), (ar (mc_e g)), (ar (mc_o g)), (mc_r g), (ar (mc_f g)), (ar (mc_t g)), (ar (mc_g g)), (ar (mc_k g)), a_placeKey, a_placeDepth, a_cameWith, a_ledWith, a_faults, a_found, a_hasFound, a_kept, a_hasMap, a_frame, (ar kd), vl, (ar oc), (ar od))) : wpX_raisedAt post ((nI (mc_cc g)), (nI (mc_hc g)), f_placeCount, f_tooMany, f_layAnswer, f_wrongKind, f_wrongKey, f_grown, f_frameDepth, f_frameThere, f_lastReason, (nI (rq_h q)), (nI (rq_n q)), f_hasRun, f_begun, (nI (rq_l q)), f_endClass, (ar (mc_p g)), (ar (mc_e g)), (ar (mc_o g)), (mc_r g), (ar (mc_f g)), (ar (mc_t g)), (ar (mc_g g)), (ar (mc_k g)), a_placeKey, a_placeDepth, a_cameWith, a_ledWith, a_faults, a_found, a_hasFound, a_kept, a_hasMap, a_frame, (ar kd), vl, (ar oc), (ar od)) (nI (rq_l q)) := by
  have hcc := hG.1
  have h6 := ok.1
  have h20 : mr_o g q < 20 := hG.2.2.1 _
  have tk := gd.1.1
  have ha : mc_a g (rq_l q) = mr_a g q := rfl
  have tkn : ∀ n, mr_o g q = n → md_tk n ≤ rq_h q := by
    intro n e; rw [← e]; exact tk
  unfold wpX_raisedAt
  dsimp only
  refine ⟨vp_in_nI (by omega) (by omega), nm_r (e' := nI (mr_o g q)) (ar_at _ (by omega)) (nm_r (xr_top q) ?_)⟩
  have S72 : ¬ (mr_o g q = 10 ∧ ¬ mr_of g q (mr_t q) (mr_a g q)) → ¬ ((mr_o g q = 11 ∨ mr_o g q = 19) ∧ mr_t q = 2) → wX_raisedAt_72 post (nI (mr_o g q)) (nI (3 + rq_h q)) (nI (mc_cc g)) (nI (mc_hc g)) f_placeCount f_tooMany f_layAnswer f_wrongKind f_wrongKey f_grown f_frameDepth f_frameThere f_lastReason (nI (rq_h q)) (nI (rq_n q)) f_hasRun f_begun (nI (rq_l q)) f_endClass (ar (mc_p g)) (ar (mc_e g)) (ar (mc_o g)) (mc_r g) (ar (mc_f g)) (ar (mc_t g)) (ar (mc_g g)) (ar (mc_k g)) a_placeKey a_placeDepth a_cameWith a_ledWith a_faults a_found a_hasFound a_kept a_hasMap a_frame (ar kd) vl (ar oc) (ar od) := by
    intro n1 n2
    unfold wX_raisedAt_72
    refine pk_eq (mr_o g q) 19 (fun c => ?_) (fun c => H0 ?_)
    · have hp : 1 ≤ rq_h q := tkn 19 c
      have t2 : ¬ mr_t q = 2 := fun z => n2 ⟨Or.inr c, z⟩
      have t4 : 4 ≤ mr_t q := by
        rcases gd.2.2.2.2.1 (Or.inr (Or.inr c)) with z | ⟨z, _⟩
        · exact absurd z t2
        · exact z
      have e2 : vl (nI (3 + rq_h q)).toNatClampNeg = nI (mr_t q - 4) := by
        rw [nI_clamp (by omega)]; exact (R.1 (3 + rq_h q) (by omega)).2.2 t4
      rw [e2]
      refine ⟨vp_in_nI (by omega) (by omega), H1 (mr_t q - 4) q ?_ oc od R⟩
      unfold mr_rs; rw [if_neg n1, if_neg n2, if_pos c]
    · unfold mr_rs; rw [if_neg n1, if_neg n2, if_neg c]
  have S43 : ¬ (mr_o g q = 10 ∧ ¬ mr_of g q (mr_t q) (mr_a g q)) → wX_raisedAt_43 post (nI (mr_o g q)) (nI (3 + rq_h q)) (nI (mc_cc g)) (nI (mc_hc g)) f_placeCount f_tooMany f_layAnswer f_wrongKind f_wrongKey f_grown f_frameDepth f_frameThere f_lastReason (nI (rq_h q)) (nI (rq_n q)) f_hasRun f_begun (nI (rq_l q)) f_endClass (ar (mc_p g)) (ar (mc_e g)) (ar (mc_o g)) (mc_r g) (ar (mc_f g)) (ar (mc_t g)) (ar (mc_g g)) (ar (mc_k g)) a_placeKey a_placeDepth a_cameWith a_ledWith a_faults a_found a_hasFound a_kept a_hasMap a_frame (ar kd) vl (ar oc) (ar od) := by
    intro n1
    have S55 : (mr_o g q = 11 ∨ mr_o g q = 19) → 0 < rq_h q → wX_raisedAt_55 post (nI (mr_o g q)) (nI (3 + rq_h q)) (nI (mc_cc g)) (nI (mc_hc g)) f_placeCount f_tooMany f_layAnswer f_wrongKind f_wrongKey f_grown f_frameDepth f_frameThere f_lastReason (nI (rq_h q)) (nI (rq_n q)) f_hasRun f_begun (nI (rq_l q)) f_endClass (ar (mc_p g)) (ar (mc_e g)) (ar (mc_o g)) (mc_r g) (ar (mc_f g)) (ar (mc_t g)) (ar (mc_g g)) (ar (mc_k g)) a_placeKey a_placeDepth a_cameWith a_ledWith a_faults a_found a_hasFound a_kept a_hasMap a_frame (ar kd) vl (ar oc) (ar od) := by
      intro c hp
      have kl := mr_kdl (mr_t q)
      have e1 : ar kd (nI (3 + rq_h q)).toNatClampNeg = nI (mr_kd (mr_t q)) := by rw [ar_at _ (by omega), (R.1 (3 + rq_h q) (by omega)).1]; rfl
      unfold wX_raisedAt_55
      rw [e1]
      refine ⟨vp_in_nI (by omega) (by omega), pk_eq (mr_kd (mr_t q)) 2 (fun z => ?_) (fun z => S72 n1 (fun w => z (mr_kd2.mpr w.2)))⟩
      refine xr_mo (c := 2) (b := true) (by omega) (H1 (rq_n q) (mr_obj q 2 true) ?_ _ _ (mr_X_obj R))
      unfold mr_rs; rw [if_neg n1, if_pos ⟨c, mr_kd2.mp z⟩]
    unfold wX_raisedAt_43
    refine pk_eq (mr_o g q) 11 (fun c => S55 (Or.inl c) (tkn 11 c)) (fun c => pk_eq (mr_o g q) 19 (fun d => S55 (Or.inr d) (tkn 19 d)) (fun d => S72 n1 (fun w => by rcases w.1 with z | z <;> omega)))
  refine pk_eq (mr_o g q) 10 (fun c => ?_) (fun c => S43 (fun z => c z.1))
  have hp : 1 ≤ rq_h q := tkn 10 c
  have hla := mn_lim8 hG (i := rq_l q) (Or.inr (Or.inl c))
  have rf := gd.2.2.2.2.1 (Or.inl c)
  rw [nI_clamp (by omega), hla.2]
  refine ⟨vp_in_nI (by omega) (by omega), xr_of hG R ok (by omega) (by omega) hla.1 (fun z => xb_1 (S43 (fun w => w.2 ?_))) (fun z => xb_0 (xr_mo (c := 1) (b := true) (by omega) (H1 (rq_n q) (mr_obj q 1 true) ?_ _ _ (mr_X_obj R))))⟩
  · rcases rf with y | ⟨y1, y2⟩
    · exact Or.inl y
    · exact Or.inr ⟨y1, y2, z y1⟩
  · have nof : ¬ mr_of g q (mr_t q) (mr_a g q) := by
      intro w
      refine z (fun y => ?_)
      rcases w with w | ⟨_, _, w⟩
      · have w' : rq_S q (3 + rq_h q) = 2 := w
        omega
      · exact w
    unfold mr_rs
    rw [if_pos ⟨c, nof⟩]
theorem xr_raise {post : Int32 → SX → Prop} {ob : Nat} (hG : md_G g) (R : mr_X q kd vl oc od) (ok : mr_ok g q) (hn : rq_n q ≤ 204) (hl : rq_l q < mc_cc g) (hob : ob < rq_n q) (H1 : ∀ q', mr_rz g q ob = (q', 0, 0) → ∀ (kd : Nat → Nat) (vl : Nat → Int32), mr_X q' kd vl oc od → post (-1) ((nI (mc_cc g)), (nI (mc_hc g)), f_placeCount, f_tooMany, f_layAnswer, f_wrongKind, f_wrongKey, f_grown, f_frameDepth, f_frameThere, f_lastReason, (nI (rq_h q')), (nI (rq_n q')), f_hasRun, f_begun, (nI (rq_l q')), f_endClass, (ar (mc_p g)), (ar (mc_e g)), (ar (mc_o g)), (mc_r g), (ar (mc_f g)), (ar (mc_t g)), (ar (mc_g g)), (ar (mc_k g)), a_placeKey, a_placeDepth, a_cameWith, a_ledWith, a_faults, a_found, a_hasFound, a_kept, a_hasMap, a_frame, (ar kd), vl, (ar oc), (ar od))) (H0 : mr_rz g q ob = (q, 3, rq_C q ob + 1) → post 2 ((nI (mc_cc g)), (nI (mc_hc g)), f_placeCount, f_tooMany, f_layAnswer, f_wrongKind, f_wrongKey, f_grown, f_frameDepth, f_frameThere, f_lastReason, (nI (rq_h q)), (nI (rq_n q)), f_hasRun, f_begun, (nI (rq_l q)), (nI (rq_C q ob)), (ar (mc_p g)), (ar (mc_e g)), (ar (mc_o g)), (mc_r g), (ar (mc_f g)), (ar (mc_t g)), (ar (mc_g g)), (ar (mc_k g)), a_placeKey, a_placeDepth, a_cameWith, a_ledWith, a_faults, a_found, a_hasFound, a_kept, a_hasMap, a_frame, (ar kd), vl, (ar oc), (ar od))) : wpX_raise post ((nI (mc_cc g)), (nI (mc_hc g)), f_placeCount, f_tooMany, f_layAnswer, f_wrongKind, f_wrongKey, f_grown, f_frameDepth, f_frameThere, f_lastReason, (nI (rq_h q)), (nI (rq_n q)), f_hasRun, f_begun, (nI (rq_l q)), f_endClass, (ar (mc_p g)), (ar (mc_e g)), (ar (mc_o g)), (mc_r g), (ar (mc_f g)), (ar (mc_t g)), (ar (mc_g g)), (ar (mc_k g)), a_placeKey, a_placeDepth, a_cameWith, a_ledWith, a_faults, a_found, a_hasFound, a_kept, a_hasMap, a_frame, (ar kd), vl, (ar oc), (ar od)) (nI (rq_l q)) (nI ob) := by
  have hcc := hG.1
  have hhc := hG.2.1
  have hc := ok.2.2.2 _ hob
  unfold wpX_raise
  dsimp only
  refine ⟨vp_in_nI (by omega) (by omega), nm_r (e' := nI (rq_C q ob)) (by rw [ar_at _ (by omega), (R.2 _ hob).1]) ⟨5, ?_⟩⟩
  have L : ∀ e x, x + e = 4 → x ≤ mc_hc g → mr_fd g (rq_l q) (rq_C q ob) (mc_hc g) 0 = mr_fd g (rq_l q) (rq_C q ob) (mc_hc g - x) x → wX_raise_10 post (nI (rq_l q)) (nI ob) (nI (rq_C q ob)) (nI (mc_cc g)) (nI (mc_hc g)) f_placeCount f_tooMany f_layAnswer f_wrongKind f_wrongKey f_grown f_frameDepth f_frameThere f_lastReason (nI (rq_h q)) (nI (rq_n q)) f_hasRun f_begun (nI (rq_l q)) f_endClass (ar (mc_p g)) (ar (mc_e g)) (ar (mc_o g)) (mc_r g) (ar (mc_f g)) (ar (mc_t g)) (ar (mc_g g)) (ar (mc_k g)) a_placeKey a_placeDepth a_cameWith a_ledWith a_faults a_found a_hasFound a_kept a_hasMap a_frame (ar kd) vl (ar oc) (ar od) (e + 1) (nI x) := by
    have none : ∀ x, mc_hc g ≤ x → mr_fd g (rq_l q) (rq_C q ob) (mc_hc g) 0 = mr_fd g (rq_l q) (rq_C q ob) (mc_hc g - x) x → post 2 ((nI (mc_cc g)), (nI (mc_hc g)), f_placeCount, f_tooMany, f_layAnswer, f_wrongKind, f_wrongKey, f_grown, f_frameDepth, f_frameThere, f_lastReason, (nI (rq_h q)), (nI (rq_n q)), f_hasRun, f_begun, (nI (rq_l q)), (nI (rq_C q ob)), (ar (mc_p g)), (ar (mc_e g)), (ar (mc_o g)), (mc_r g), (ar (mc_f g)), (ar (mc_t g)), (ar (mc_g g)), (ar (mc_k g)), a_placeKey, a_placeDepth, a_cameWith, a_ledWith, a_faults, a_found, a_hasFound, a_kept, a_hasMap, a_frame, (ar kd), vl, (ar oc), (ar od)) := by
      intro x hx ef
      refine H0 ?_
      rw [show mc_hc g - x = 0 by omega] at ef
      unfold mr_rz; rw [ef]; rfl
    intro e
    induction e with
    | zero =>
      intro x hx hxc ef
      exact pk_le 4 x (fun _ => none x (by omega) ef) (fun c => by omega)
    | succ e ih =>
      intro x hx hxc ef
      have hb := hG.2.2.2.2.1 x
      refine pk_le 4 x (fun c => by omega) (fun _ => pk_le (mc_hc g) x (fun c => none x c ef) (fun c => ?_))
      have ef2 : mr_fd g (rq_l q) (rq_C q ob) (mc_hc g) 0 = if (mc_f g x ≤ rq_l q ∧ rq_l q < mc_t g x) ∧ mt_ab g (mc_k g x) (rq_C q ob) then some x else mr_fd g (rq_l q) (rq_C q ob) (mc_hc g - (x + 1)) (x + 1) := by
        rw [ef, show mc_hc g - x = (mc_hc g - (x + 1)) + 1 by omega]; rfl
      have nx : ¬ ((mc_f g x ≤ rq_l q ∧ rq_l q < mc_t g x) ∧ mt_ab g (mc_k g x) (rq_C q ob)) → wX_raise_10 post (nI (rq_l q)) (nI ob) (nI (rq_C q ob)) (nI (mc_cc g)) (nI (mc_hc g)) f_placeCount f_tooMany f_layAnswer f_wrongKind f_wrongKey f_grown f_frameDepth f_frameThere f_lastReason (nI (rq_h q)) (nI (rq_n q)) f_hasRun f_begun (nI (rq_l q)) f_endClass (ar (mc_p g)) (ar (mc_e g)) (ar (mc_o g)) (mc_r g) (ar (mc_f g)) (ar (mc_t g)) (ar (mc_g g)) (ar (mc_k g)) a_placeKey a_placeDepth a_cameWith a_ledWith a_faults a_found a_hasFound a_kept a_hasMap a_frame (ar kd) vl (ar oc) (ar od) (e + 1) (nI (x + 1)) := by
        intro z
        rw [if_neg z] at ef2
        exact ih (x + 1) (by omega) (by omega) ef2
      refine xa_cov hG (by omega) (by omega) (fun cv => xb_1 ⟨vp_in_nI (by omega) (by omega), ?_⟩) (fun cv => xb_0 (nm_r (nI_1 x) (nx (fun z => cv z.1))))
      rw [ar_at (mc_k g) (by omega)]
      refine xa_und hG hc hb.2.2.2 (fun z => xb_1 ?_) (fun z => xb_0 (nm_r (nI_1 x) (nx (fun w => z w.2))))
      rw [if_pos ⟨cv, z⟩] at ef2
      refine nm_r (e' := ar (mf_up kd 4 3)) (ar_up kd 4 3) (nm_e ⟨vp_in_nI (by omega) (by omega), nm_r (ar_at _ (by omega)) ?_⟩)
      have er : mr_rz g q ob = ((mf_up (rq_S q) 4 (4 + ob), rq_I q, rq_C q, rq_R q, 1, rq_n q, mc_g g x), 0, 0) := by
        unfold mr_rz; rw [ef2]
      refine H1 _ er (mf_up kd 4 3) (upd vl 4 (nI ob)) ⟨fun j hj => ?_, R.2⟩
      have hj' : j < 5 := hj
      show mf_up kd 4 3 j = mr_kd (mf_up (rq_S q) 4 (4 + ob) j) ∧ (mf_up (rq_S q) 4 (4 + ob) j = 1 ∨ mf_up (rq_S q) 4 (4 + ob) j = 3 → upd vl 4 (nI ob) j = rq_I q j) ∧ (4 ≤ mf_up (rq_S q) 4 (4 + ob) j → upd vl 4 (nI ob) j = nI (mf_up (rq_S q) 4 (4 + ob) j - 4))
      by_cases e4 : j = 4
      · subst e4
        rw [up_s, up_s, pk_us]
        refine ⟨(mr_kd3.mpr (by omega)).symm, fun w => by omega, fun _ => ?_⟩
        rw [show 4 + ob - 4 = ob by omega]
      · rw [up_n e4, up_n e4, pk_un e4]
        exact R.1 j (by omega)
  exact L 4 0 rfl (by omega) rfl
theorem xr_next {post : Int32 → Prop} (hG : md_G g) (R : mr_X q kd vl oc od) (ok : mr_ok g q) (hl : rq_l q < mc_cc g) (gd : mr_gd g q) (h17 : ¬ mr_o g q = 17) (h18 : ¬ mr_o g q = 18) (H : post (nI (rq_l (mr_nx g q)))) : wpX_nextOf post ((nI (mc_cc g)), (nI (mc_hc g)), f_placeCount, f_tooMany, f_layAnswer, f_wrongKind, f_wrongKey, f_grown, f_frameDepth, f_frameThere, f_lastReason, (nI (rq_h q)), (nI (rq_n q)), f_hasRun, f_begun, (nI (rq_l q)), f_endClass, (ar (mc_p g)), (ar (mc_e g)), (ar (mc_o g)), (mc_r g), (ar (mc_f g)), (ar (mc_t g)), (ar (mc_g g)), (ar (mc_k g)), a_placeKey, a_placeDepth, a_cameWith, a_ledWith, a_faults, a_found, a_hasFound, a_kept, a_hasMap, a_frame, (ar kd), vl, (ar oc), (ar od)) (nI (rq_l q)) := by
  have hcc := hG.1
  have h6 := ok.1
  have h20 : mr_o g q < 20 := hG.2.2.1 _
  have tk := gd.1.1
  have ha : mc_a g (rq_l q) = mr_a g q := rfl
  have tkn : ∀ n, mr_o g q = n → md_tk n ≤ rq_h q := by
    intro n e; rw [← e]; exact tk
  unfold wpX_nextOf
  dsimp only
  refine ⟨vp_in_nI (by omega) (by omega), nm_r (e' := mc_r g (rq_l q)) (by rw [nI_clamp (by omega)]) (nm_r (xr_top q) ⟨vp_in_nI (by omega) (by omega), nm_r (e' := nI (mr_o g q)) (ar_at _ (by omega)) ?_⟩)⟩
  rw [nI_1]
  have dflt : mr_o g q < 12 ∨ 16 < mr_o g q → post (nI (rq_l q + 1)) := by
    intro z
    have cs : mr_o g q = 0 ∨ mr_o g q = 1 ∨ mr_o g q = 2 ∨ mr_o g q = 3 ∨ mr_o g q = 5 ∨ mr_o g q = 6 ∨ mr_o g q = 7 ∨ mr_o g q = 8 ∨ mr_o g q = 9 ∨ mr_o g q = 10 ∨ (mr_o g q = 4 ∨ mr_o g q = 11 ∨ 17 ≤ mr_o g q) := by omega
    rcases cs with o | o | o | o | o | o | o | o | o | o | o
    · rw [mr_nx0 o] at H; exact H
    · rw [mr_nx1 o] at H; exact H
    · rw [mr_nx2 o] at H; exact H
    · rw [mr_nx3 o] at H; exact H
    · rw [mr_nx5 o] at H; exact H
    · rw [mr_nx6 o] at H; exact H
    · rw [mr_nx7 o] at H; exact H
    · rw [mr_nx8 o] at H; exact H
    · rw [mr_nx9 o] at H; exact H
    · rw [mr_nx10 o] at H; exact H
    · rw [mr_nxd o] at H; exact H
  refine pk_lt (mr_o g q) 12 (fun c => dflt (Or.inl c)) (fun c12 => pk_lt 16 (mr_o g q) (fun c => dflt (Or.inr c)) (fun c16 => ?_))
  refine pk_eq (mr_o g q) 12 (fun c => ?_) (fun n12 => ?_)
  · rw [(mn_lim24 hG (i := rq_l q) (by show 12 ≤ mr_o g q ∧ _; exact ⟨by omega, by show mr_o g q ≤ 15; omega⟩)).2]
    rw [mr_nx12 c] at H; exact H
  refine pk_eq (mr_o g q) 13 (fun c => ?_) (fun n13 => ?_)
  · have hp : 1 ≤ rq_h q := tkn 13 c
    have t1 : mr_t q = 1 := gd.2.2.2.2.2.2.1 c
    have e2 : vl (nI (3 + rq_h q)).toNatClampNeg = rq_I q (3 + rq_h q) := by
      rw [nI_clamp (by omega)]; exact (R.1 (3 + rq_h q) (by omega)).2.1 (Or.inl t1)
    rw [(mn_lim24 hG (i := rq_l q) (by show 12 ≤ mr_o g q ∧ _; exact ⟨by omega, by show mr_o g q ≤ 15; omega⟩)).2, e2]
    rw [mr_nx13 c] at H
    have H' : post (nI (if rq_I q (3 + rq_h q) = 0 then rq_l q + 1 else mr_a g q)) := H
    refine ⟨vp_in_nI (by omega) (by omega), br_c (fun z => ?_) (fun z => ?_)⟩
    · rw [if_pos z] at H'; exact H'
    · rw [if_neg z] at H'; exact H'
  refine pk_eq (mr_o g q) 14 (fun c => ?_) (fun n14 => ?_)
  · have hp : 1 ≤ rq_h q := tkn 14 c
    have kl := mr_kdl (mr_t q)
    have e1 : ar kd (nI (3 + rq_h q)).toNatClampNeg = nI (mr_kd (mr_t q)) := by rw [ar_at _ (by omega), (R.1 (3 + rq_h q) (by omega)).1]; rfl
    rw [(mn_lim24 hG (i := rq_l q) (by show 12 ≤ mr_o g q ∧ _; exact ⟨by omega, by show mr_o g q ≤ 15; omega⟩)).2, e1]
    rw [mr_nx14 c] at H
    have H' : post (nI (if mr_t q = 2 then mr_a g q else rq_l q + 1)) := H
    refine ⟨vp_in_nI (by omega) (by omega), pk_eq (mr_kd (mr_t q)) 2 (fun z => ?_) (fun z => ?_)⟩
    · rw [if_pos (mr_kd2.mp z)] at H'; exact H'
    · rw [if_neg (fun w => z (mr_kd2.mpr w))] at H'; exact H'
  refine pk_eq (mr_o g q) 15 (fun c => ?_) (fun n15 => ?_)
  · rw [(mn_lim24 hG (i := rq_l q) (by show 12 ≤ mr_o g q ∧ _; exact ⟨by omega, by show mr_o g q ≤ 15; omega⟩)).2]
    rw [mr_nx15 c] at H; exact H
  refine pk_eq (mr_o g q) 16 (fun c => ?_) (fun n16 => by omega)
  have hla := mn_lim4 hG (i := rq_l q) (Or.inr (Or.inr c))
  have s3 := gd.2.2.2.2.2.2.2 c
  obtain ⟨l, hl1, hl2⟩ := (ok.2.2.1 (mr_a g q) (by omega)).2 s3
  have e2 : vl (mr_a g q) = nI l := by rw [(R.1 (mr_a g q) (by omega)).2.1 (Or.inr s3), hl2]
  rw [hla.2, ha, nI_clamp (by omega), e2, nI_1]
  rw [mr_nx16 c] at H
  have H' : post (nI ((rq_I q (mr_a g q)).toNatClampNeg + 1)) := H
  rw [hl2, nI_clamp (by omega)] at H'
  exact ⟨vp_in_nI (by omega) (by omega), H'⟩
theorem xr_set {post : SX → Prop} {i s : Nat} {w : Int32} (hi : i < 10) (H : post (f_codeCount, f_coverCount, f_placeCount, f_tooMany, f_layAnswer, f_wrongKind, f_wrongKey, f_grown, f_frameDepth, f_frameThere, f_lastReason, f_valueDepth, f_objectCount, f_hasRun, f_begun, f_nowAt, f_endClass, a_parent, a_entry, a_code, a_operand, a_coverFrom, a_coverTo, a_coverTarget, a_coverClass, a_placeKey, a_placeDepth, a_cameWith, a_ledWith, a_faults, a_found, a_hasFound, a_kept, a_hasMap, a_frame, (ar (mf_up kd i s)), (upd vl i w), a_objectClass, a_objectReady)) : wpX_setValue post (f_codeCount, f_coverCount, f_placeCount, f_tooMany, f_layAnswer, f_wrongKind, f_wrongKey, f_grown, f_frameDepth, f_frameThere, f_lastReason, f_valueDepth, f_objectCount, f_hasRun, f_begun, f_nowAt, f_endClass, a_parent, a_entry, a_code, a_operand, a_coverFrom, a_coverTo, a_coverTarget, a_coverClass, a_placeKey, a_placeDepth, a_cameWith, a_ledWith, a_faults, a_found, a_hasFound, a_kept, a_hasMap, a_frame, (ar kd), vl, a_objectClass, a_objectReady) (nI i) (nI s) w := by
  unfold wpX_setValue
  dsimp only
  refine ⟨vp_in_nI (by omega) (by omega), nm_r (ar_ui _ _ (by omega)) ⟨vp_in_nI (by omega) (by omega), nm_r (e' := upd vl i w) (by rw [nI_clamp (by omega)]) H⟩⟩
theorem xr_chg {post : SX → Prop} (hG : md_G g) (R : mr_X q kd vl oc od) (ok : mr_ok g q) (hn : rq_n q ≤ 203) (hl : rq_l q < mc_cc g) (gd : mr_gd g q) (nrs : mr_rs g q = none) (h17 : ¬ mr_o g q = 17) (h18 : ¬ mr_o g q = 18) (H : ∀ (kd oc od : Nat → Nat) (vl : Nat → Int32), mr_X (mr_nx g q) kd vl oc od → post ((nI (mc_cc g)), (nI (mc_hc g)), f_placeCount, f_tooMany, f_layAnswer, f_wrongKind, f_wrongKey, f_grown, f_frameDepth, f_frameThere, f_lastReason, (nI (rq_h (mr_nx g q))), (nI (rq_n (mr_nx g q))), f_hasRun, f_begun, f_nowAt, f_endClass, (ar (mc_p g)), (ar (mc_e g)), (ar (mc_o g)), (mc_r g), (ar (mc_f g)), (ar (mc_t g)), (ar (mc_g g)), (ar (mc_k g)), a_placeKey, a_placeDepth, a_cameWith, a_ledWith, a_faults, a_found, a_hasFound, a_kept, a_hasMap, a_frame, (ar kd), vl, (ar oc), (ar od))) : wpX_changeValues post ((nI (mc_cc g)), (nI (mc_hc g)), f_placeCount, f_tooMany, f_layAnswer, f_wrongKind, f_wrongKey, f_grown, f_frameDepth, f_frameThere, f_lastReason, (nI (rq_h q)), (nI (rq_n q)), f_hasRun, f_begun, f_nowAt, f_endClass, (ar (mc_p g)), (ar (mc_e g)), (ar (mc_o g)), (mc_r g), (ar (mc_f g)), (ar (mc_t g)), (ar (mc_g g)), (ar (mc_k g)), a_placeKey, a_placeDepth, a_cameWith, a_ledWith, a_faults, a_found, a_hasFound, a_kept, a_hasMap, a_frame, (ar kd), vl, (ar oc), (ar od)) (nI (rq_l q)) := by
  have hcc := hG.1
  have h6 := ok.1
  have h20 : mr_o g q < 20 := hG.2.2.1 _
  have tk := gd.1.1
  have tp := gd.1.2
  have t2 := md_tk2 (mr_o g q)
  have p2 := md_pu2 (mr_o g q)
  have ha : mc_a g (rq_l q) = mr_a g q := rfl
  have tkn : ∀ n t p, mr_o g q = n → md_tk n = t → md_pu n = p → t ≤ rq_h q ∧ rq_h q + p ≤ 6 + t ∧ rq_h q - md_tk (mr_o g q) + md_pu (mr_o g q) = rq_h q - t + p := by
    intro n t p e e1 e2; rw [← e1, ← e2, ← e]; exact ⟨tk, tp, rfl⟩
  unfold wpX_changeValues
  dsimp only
  refine ⟨vp_in_nI (by omega) (by omega), nm_r (e' := nI (mr_o g q)) (ar_at _ (by omega)) ⟨vp_in_nI (by omega) (by omega), nm_r (e' := mc_r g (rq_l q)) (by rw [nI_clamp (by omega)]) (nm_r (xr_top q) (xa_pu h20 (xa_tk h20 ?_)))⟩⟩
  have ed : nI (rq_h q) + (nI (md_pu (mr_o g q)) - nI (md_tk (mr_o g q))) = nI (rq_h q - md_tk (mr_o g q) + md_pu (mr_o g q)) := by
    have e1 : nI (rq_h q) = nI (rq_h q - md_tk (mr_o g q)) + nI (md_tk (mr_o g q)) := by
      rw [nI_add]; exact congrArg nI (by omega)
    rw [e1, ← nI_add (rq_h q - md_tk (mr_o g q))]
    generalize nI (rq_h q - md_tk (mr_o g q)) = x
    generalize nI (md_tk (mr_o g q)) = y
    generalize nI (md_pu (mr_o g q)) = z
    grind
  refine nm_r ed ?_
  have e4 : nI (3 + rq_h q) + 1 = nI (4 + rq_h q) := by rw [nI_1]; exact congrArg nI (by omega)
  have K : ∀ s, s < 4 + rq_h q → ar kd (nI s).toNatClampNeg = nI (mr_kd (rq_S q s)) := by
    intro s hs; rw [ar_at _ (by omega), (R.1 s hs).1]
  have V : ∀ s, s < 10 → vl (nI s).toNatClampNeg = vl s := by
    intro s hs; rw [nI_clamp (by omega)]
  refine br_f (nI_pos (by omega)) (pk_lt 15 (mr_o g q) (fun c => ?_) (fun c15 => ?_))
  · have cs : mr_o g q = 16 ∨ mr_o g q = 19 := by omega
    rcases cs with o | o
    · have k := tkn _ 0 0 o rfl rfl
      rw [show rq_h q - md_tk (mr_o g q) + md_pu (mr_o g q) = rq_h q by omega]
      have := H kd oc od vl
      rw [mr_nx16 o] at this
      exact this (mr_X_hl R (Nat.le_refl _))
    · exfalso
      unfold mr_rs at nrs
      rw [if_neg (by omega)] at nrs
      split at nrs
      · cases nrs
      · first | cases nrs | (rw [if_pos o] at nrs; cases nrs)
  refine pk_eq (mr_o g q) 0 (fun o => ?_) (fun n0 => ?_)
  · have k := tkn _ 0 1 o rfl rfl
    rw [show rq_h q - md_tk (mr_o g q) + md_pu (mr_o g q) = rq_h q + 1 by omega, e4]
    have := H
    rw [mr_nx0 o] at this
    exact xr_set (s := 1) (by omega) (this _ _ _ _ (mr_X_set R (Or.inr ⟨rfl, rfl⟩) (fun _ => rfl) (fun h => by omega)))
  refine pk_eq (mr_o g q) 1 (fun o => ?_) (fun n1 => ?_)
  · have k := tkn _ 0 1 o rfl rfl
    rw [show rq_h q - md_tk (mr_o g q) + md_pu (mr_o g q) = rq_h q + 1 by omega, e4]
    have := H
    rw [mr_nx1 o] at this
    exact xr_set (s := 2) (by omega) (this _ _ _ _ (mr_X_set R (Or.inr ⟨rfl, rfl⟩) (fun h => by omega) (fun h => by omega)))
  refine pk_eq (mr_o g q) 2 (fun o => ?_) (fun n2 => ?_)
  · have k := tkn _ 0 1 o rfl rfl
    have hla := mn_lim4 hG (i := rq_l q) (Or.inl o)
    rw [show rq_h q - md_tk (mr_o g q) + md_pu (mr_o g q) = rq_h q + 1 by omega, e4, hla.2, ha, K _ (by omega), V _ (by omega)]
    have := H
    rw [mr_nx2 o] at this
    have r := R.1 (mr_a g q) (by omega)
    exact ⟨vp_in_nI (by omega) (by omega), vp_in_nI (by omega) (by omega), xr_set (by omega) (this _ _ _ _ (mr_X_set R (Or.inr ⟨rfl, rfl⟩) r.2.1 r.2.2))⟩
  refine pk_eq (mr_o g q) 3 (fun o => ?_) (fun n3 => ?_)
  · have k := tkn _ 1 0 o rfl rfl
    have hla := mn_lim4 hG (i := rq_l q) (Or.inr (Or.inl o))
    rw [show rq_h q - md_tk (mr_o g q) + md_pu (mr_o g q) = rq_h q - 1 by omega, hla.2, ha, K _ (by omega), V _ (by omega)]
    have := H
    rw [mr_nx3 o] at this
    have r := R.1 (3 + rq_h q) (by omega)
    exact ⟨vp_in_nI (by omega) (by omega), vp_in_nI (by omega) (by omega), xr_set (by omega) (this _ _ _ _ (mr_X_set R (Or.inl (by omega)) r.2.1 r.2.2))⟩
  refine pk_eq (mr_o g q) 4 (fun o => ?_) (fun n4 => ?_)
  · have k := tkn _ 1 0 o rfl rfl
    rw [show rq_h q - md_tk (mr_o g q) + md_pu (mr_o g q) = rq_h q - 1 by omega]
    have := H kd oc od vl
    rw [mr_nxd (Or.inl o)] at this
    exact this (mr_X_hl R (by omega))
  refine pk_eq (mr_o g q) 5 (fun o => ?_) (fun n5 => ?_)
  · have k := tkn _ 1 2 o rfl rfl
    rw [show rq_h q - md_tk (mr_o g q) + md_pu (mr_o g q) = rq_h q + 1 by omega, e4, K _ (by omega), V _ (by omega)]
    have := H
    rw [mr_nx5 o] at this
    have r := R.1 (3 + rq_h q) (by omega)
    exact ⟨vp_in_nI (by omega) (by omega), vp_in_nI (by omega) (by omega), xr_set (by omega) (this _ _ _ _ (mr_X_set R (Or.inr ⟨rfl, rfl⟩) r.2.1 r.2.2))⟩
  refine pk_eq (mr_o g q) 6 (fun o => ?_) (fun n6 => ?_)
  · have k := tkn _ 2 2 o rfl rfl
    have e2 : nI (3 + rq_h q) - 1 = nI (2 + rq_h q) := by
      show nI (3 + rq_h q) - nI 1 = _
      rw [pk_sub (by omega)]; exact congrArg nI (by omega)
    rw [show rq_h q - md_tk (mr_o g q) + md_pu (mr_o g q) = rq_h q by omega, e2, K _ (by omega), K _ (by omega), V _ (by omega), V _ (by omega)]
    have := H
    rw [mr_nx6 o] at this
    have r := R.1 (3 + rq_h q) (by omega)
    have r2 := R.1 (2 + rq_h q) (by omega)
    refine ⟨vp_in_nI (by omega) (by omega), nm_e ⟨vp_in_nI (by omega) (by omega), nm_e ⟨vp_in_nI (by omega) (by omega), vp_in_nI (by omega) (by omega), ?_⟩⟩⟩
    refine xr_set (by omega) (xr_set (by omega) (this _ _ _ _ (mr_X_set (q := mr_set q (2 + rq_h q) (mr_t q) (rq_I q (3 + rq_h q)) (rq_h q) (rq_l q + 1)) (mr_X_set R (Or.inl (Nat.le_refl _)) r.2.1 r.2.2) (Or.inl (Nat.le_refl _)) r2.2.1 r2.2.2)))
  refine pk_eq (mr_o g q) 7 (fun o => ?_) (fun n7 => ?_)
  · have k := tkn _ 2 1 o rfl rfl
    have e2 : nI (3 + rq_h q) - 1 = nI (2 + rq_h q) := by
      show nI (3 + rq_h q) - nI 1 = _
      rw [pk_sub (by omega)]; exact congrArg nI (by omega)
    obtain ⟨g1, g2⟩ := gd.2.2.1 o
    have r := R.1 (3 + rq_h q) (by omega)
    have r2 := R.1 (2 + rq_h q) (by omega)
    rw [show rq_h q - md_tk (mr_o g q) + md_pu (mr_o g q) = rq_h q - 1 by omega, e2, V _ (by omega), V _ (by omega)]
    have := H (mf_up kd (2 + rq_h q) (mr_kd 1)) oc od (upd vl (2 + rq_h q) (vl (2 + rq_h q) + vl (3 + rq_h q)))
    rw [mr_nx7 o] at this
    have Rn := mr_X_set (l' := rq_l q + 1) R (i := 2 + rq_h q) (s := 1) (h' := rq_h q - 1) (v := rq_I q (2 + rq_h q) + rq_I q (3 + rq_h q)) (w := vl (2 + rq_h q) + vl (3 + rq_h q)) (Or.inl (by omega)) (fun _ => by rw [r.2.1 (Or.inl g1), r2.2.1 (Or.inl g2)]) (fun h => by omega)
    have ek : mf_up kd (2 + rq_h q) (mr_kd 1) = kd := by
      funext t
      by_cases w : t = 2 + rq_h q
      · subst w; rw [up_s, r2.1, g2]
      · exact up_n w
    rw [ek] at this Rn
    refine ⟨vp_in_nI (by omega) (by omega), vp_in_nI (by omega) (by omega), vp_in_nI (by omega) (by omega), nm_r (e' := upd vl (2 + rq_h q) (vl (2 + rq_h q) + vl (3 + rq_h q))) (by rw [nI_clamp (by omega)]) (this Rn)⟩
  refine pk_eq (mr_o g q) 8 (fun o => ?_) (fun n8 => ?_)
  · have k := tkn _ 0 1 o rfl rfl
    have hla := mn_lim8 hG (i := rq_l q) (Or.inl o)
    rw [show rq_h q - md_tk (mr_o g q) + md_pu (mr_o g q) = rq_h q + 1 by omega, hla.2, e4]
    have := H
    rw [mr_nx8 o] at this
    refine xr_mo (q := (rq_S q, rq_I q, rq_C q, rq_R q, rq_h q + 1, rq_n q, rq_l q)) (c := mc_a g (rq_l q)) (b := false) hn ?_
    have Rn : mr_X (mr_set (mr_obj q (mr_a g q) false) (4 + rq_h q) (4 + rq_n q) 0 (rq_h q + 1) (rq_l q + 1)) _ _ _ _ := mr_X_set (q := mr_obj q (mr_a g q) false) (w := nI (rq_n q)) (mr_X_obj R) (Or.inr ⟨rfl, rfl⟩) (fun h => by omega) (fun _ => congrArg nI (by omega))
    rw [show mr_kd (4 + rq_n q) = 3 from mr_kd3.mpr (by omega)] at Rn
    dsimp only
    exact xr_set (s := 3) (by omega) (this _ _ _ _ Rn)
  refine pk_eq (mr_o g q) 9 (fun o => ?_) (fun n9 => ?_)
  · have k := tkn _ 1 0 o rfl rfl
    obtain ⟨g1, g2⟩ := gd.2.2.2.1 o
    have r := R.1 (3 + rq_h q) (by omega)
    have hj := (ok.2.2.1 (3 + rq_h q) (by omega)).1 g1
    have e2 : vl (nI (3 + rq_h q)).toNatClampNeg = nI (mr_t q - 4) := by
      rw [nI_clamp (by omega)]; exact r.2.2 g1
    have hj' : mr_t q - 4 < rq_n q := hj
    rw [show rq_h q - md_tk (mr_o g q) + md_pu (mr_o g q) = rq_h q - 1 by omega, e2]
    have := H kd oc (mf_up od (mr_t q - 4) 1) vl
    rw [mr_nx9 o] at this
    refine ⟨vp_in_nI (by omega) (by omega), vp_in_nI (by omega) (by omega), nm_r (e' := ar (mf_up od (mr_t q - 4) 1)) (by rw [mi_n1]; exact ar_ui od 1 (by omega)) (this ⟨fun j hj => ?_, fun j hj => ?_⟩)⟩
    · have hj' : j < 4 + (rq_h q - 1) := hj
      exact R.1 j (by omega)
    · show oc j = rq_C q j ∧ mf_up od (mr_t q - 4) 1 j = (mr_uB (rq_R q) (mr_t q - 4) true j).toNat
      unfold mr_uB
      by_cases w : j = mr_t q - 4
      · subst w; rw [up_s, if_pos rfl]; exact ⟨(R.2 _ hj).1, rfl⟩
      · rw [up_n w, if_neg w]; exact R.2 j hj
  refine pk_eq (mr_o g q) 10 (fun o => ?_) (fun n10 => ?_)
  · have k := tkn _ 1 1 o rfl rfl
    rw [show rq_h q - md_tk (mr_o g q) + md_pu (mr_o g q) = rq_h q by omega]
    have := H kd oc od vl
    rw [mr_nx10 o] at this
    exact this (mr_X_hl R (Nat.le_refl _))
  refine pk_eq (mr_o g q) 11 (fun o => ?_) (fun n11 => ?_)
  · have k := tkn _ 1 0 o rfl rfl
    rw [show rq_h q - md_tk (mr_o g q) + md_pu (mr_o g q) = rq_h q - 1 by omega]
    have := H kd oc od vl
    rw [mr_nxd (Or.inr (Or.inl o))] at this
    exact this (mr_X_hl R (by omega))
  refine pk_eq (mr_o g q) 12 (fun o => ?_) (fun n12 => ?_)
  · have k := tkn _ 0 0 o rfl rfl
    rw [show rq_h q - md_tk (mr_o g q) + md_pu (mr_o g q) = rq_h q by omega]
    have := H kd oc od vl
    rw [mr_nx12 o] at this
    exact this (mr_X_hl R (Nat.le_refl _))
  refine pk_eq (mr_o g q) 13 (fun o => ?_) (fun n13 => ?_)
  · have k := tkn _ 1 0 o rfl rfl
    rw [show rq_h q - md_tk (mr_o g q) + md_pu (mr_o g q) = rq_h q - 1 by omega]
    have := H kd oc od vl
    rw [mr_nx13 o] at this
    exact this (mr_X_hl R (by omega))
  refine pk_eq (mr_o g q) 14 (fun o => ?_) (fun n14 => ?_)
  · have k := tkn _ 1 0 o rfl rfl
    rw [show rq_h q - md_tk (mr_o g q) + md_pu (mr_o g q) = rq_h q - 1 by omega]
    have := H kd oc od vl
    rw [mr_nx14 o] at this
    exact this (mr_X_hl R (by omega))
  refine pk_eq (mr_o g q) 15 (fun o => ?_) (fun n15 => by omega)
  have k := tkn _ 0 1 o rfl rfl
  rw [show rq_h q - md_tk (mr_o g q) + md_pu (mr_o g q) = rq_h q + 1 by omega, e4]
  have := H
  rw [mr_nx15 o] at this
  exact xr_set (s := 4) (by omega) (this _ _ _ _ (mr_X_set R (Or.inr ⟨rfl, rfl⟩) (fun _ => rfl) (fun h => by omega)))
end
