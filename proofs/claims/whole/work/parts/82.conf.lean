/-! ===== enter, add, handler, clear ===== -/
section
theorem i_vc_enter {k : Nat} {u : SX} {v : SY} (I : i_Rel k u v) (hk : k + 5 ≤ 2560) (v1 : Int32) (v2 : Int32) : wpX_enter (fun r u' => wpY_enter (fun r' v' => r' = r ∧ i_Rel (k + 5) u' v') v v1 v2) u v1 v2 := by
  obtain ⟨f_codeCount, f_coverCount, f_placeCount, f_tooMany, f_layAnswer, f_wrongKind, f_wrongKey, f_grown, f_frameDepth, f_frameThere, f_lastReason, f_valueDepth, f_objectCount, f_hasRun, f_begun, f_nowAt, f_endClass, a_parent, a_entry, a_code, a_operand, a_coverFrom, a_coverTo, a_coverTarget, a_coverClass, a_placeKey, a_placeDepth, a_cameWith, a_ledWith, a_faults, a_found, a_hasFound, a_kept, a_hasMap, a_frame, a_kind, a_value, a_objectClass, a_objectReady⟩ := u
  obtain ⟨yf_length, yf_handlers, yf_many, yf_there, yf_typed, yf_wrongNumber, yf_wrongPlace, yf_size, yf_why, yf_height, yf_objects, yf_line, yf_begun, yf_last, yf_end, ya_parent, ya_begin, ya_op, ya_arg, ya_from, ya_to, ya_target, ya_caught, ya_places, ya_heights, ya_gone, ya_worst, ya_frames, ya_maps, ya_high, ya_known, ya_mapped, ya_now, ya_sorts, ya_ints, ya_classes, ya_ready⟩ := v
  obtain ⟨g, hG, ⟨rfl, rfl, rfl, rfl, rfl, rfl, rfl, rfl, rfl, rfl⟩, ⟨rfl, rfl, rfl, rfl, rfl, rfl, rfl, rfl, rfl, rfl⟩, hgr, hW, hwhy, hL, hR⟩ := I
  unfold wpX_enter wpX_endLayout
  dsimp only
  by_cases E : ∃ c p, c < 4 ∧ p < 11 ∧ v1 = nI c ∧ v2 = nI p
  · obtain ⟨c, p, h4, hp, rfl, rfl⟩ := E
    refine xb_n (by omega) (pk_le 4 c (fun z => by omega) (fun _ => xb_n (by omega) (pk_le p 10 (fun _ => ⟨vp_in_nI (by omega) (by omega), nm_r (ar_ui _ _ (by omega)) ?_⟩) (fun z => by omega))))
    unfold wpY_enter
    dsimp only
    refine ya_in (n := 4) (by omega) (fun _ _ _ => xb_1 (ya_in (n := 11) (by omega) (fun _ _ _ => xb_1 ⟨vp_in_nI (by omega) (by omega), nm_r (ar_ui _ _ (by omega)) ?_⟩) (fun z => absurd ⟨p, hp, rfl⟩ z))) (fun z => absurd ⟨c, h4, rfl⟩ z)
    refine ⟨rfl, (mc_cc g, mc_hc g, mc_o g, mc_r g, mc_f g, mc_t g, mc_g g, mc_k g, mc_p g, mf_up (mc_e g) c p), ⟨hG.1, hG.2.1, hG.2.2.1, hG.2.2.2.1, hG.2.2.2.2.1, hG.2.2.2.2.2.1, fun x => ?_⟩, ⟨rfl, rfl, rfl, rfl, rfl, rfl, rfl, rfl, rfl, rfl⟩, ⟨rfl, rfl, rfl, rfl, rfl, rfl, rfl, rfl, rfl, rfl⟩, hgr, hW, hwhy, Or.inl ⟨rfl, rfl⟩, hR⟩
    show mf_up (mc_e g) c p x ≤ 10
    by_cases e : x = c
    · subst e; rw [up_s]; omega
    · rw [up_n e]; exact hG.2.2.2.2.2.2 x
  · have same : wpY_enter (fun r' v' => r' = 0 ∧ i_Rel (k + 5) ((nI (mc_cc g)), (nI (mc_hc g)), f_placeCount, f_tooMany, f_layAnswer, f_wrongKind, f_wrongKey, f_grown, f_frameDepth, f_frameThere, f_lastReason, f_valueDepth, f_objectCount, f_hasRun, f_begun, f_nowAt, f_endClass, (ar (mc_p g)), (ar (mc_e g)), (ar (mc_o g)), (mc_r g), (ar (mc_f g)), (ar (mc_t g)), (ar (mc_g g)), (ar (mc_k g)), a_placeKey, a_placeDepth, a_cameWith, a_ledWith, a_faults, a_found, a_hasFound, a_kept, a_hasMap, a_frame, a_kind, a_value, a_objectClass, a_objectReady) v') ((nI (mc_cc g)), (nI (mc_hc g)), yf_many, yf_there, yf_typed, yf_wrongNumber, yf_wrongPlace, yf_size, yf_why, yf_height, yf_objects, yf_line, yf_begun, yf_last, yf_end, (ar (mc_p g)), (ar (mc_e g)), (ar (mc_o g)), (mc_r g), (ar (mc_f g)), (ar (mc_t g)), (ar (mc_g g)), (ar (mc_k g)), ya_places, ya_heights, ya_gone, ya_worst, ya_frames, ya_maps, ya_high, ya_known, ya_mapped, ya_now, ya_sorts, ya_ints, ya_classes, ya_ready) v1 v2 := by
      have done : (0 : Int32) = 0 ∧ i_Rel (k + 5) ((nI (mc_cc g)), (nI (mc_hc g)), f_placeCount, f_tooMany, f_layAnswer, f_wrongKind, f_wrongKey, f_grown, f_frameDepth, f_frameThere, f_lastReason, f_valueDepth, f_objectCount, f_hasRun, f_begun, f_nowAt, f_endClass, (ar (mc_p g)), (ar (mc_e g)), (ar (mc_o g)), (mc_r g), (ar (mc_f g)), (ar (mc_t g)), (ar (mc_g g)), (ar (mc_k g)), a_placeKey, a_placeDepth, a_cameWith, a_ledWith, a_faults, a_found, a_hasFound, a_kept, a_hasMap, a_frame, a_kind, a_value, a_objectClass, a_objectReady) ((nI (mc_cc g)), (nI (mc_hc g)), yf_many, yf_there, yf_typed, yf_wrongNumber, yf_wrongPlace, yf_size, yf_why, yf_height, yf_objects, yf_line, yf_begun, yf_last, yf_end, (ar (mc_p g)), (ar (mc_e g)), (ar (mc_o g)), (mc_r g), (ar (mc_f g)), (ar (mc_t g)), (ar (mc_g g)), (ar (mc_k g)), ya_places, ya_heights, ya_gone, ya_worst, ya_frames, ya_maps, ya_high, ya_known, ya_mapped, ya_now, ya_sorts, ya_ints, ya_classes, ya_ready) := ⟨rfl, ⟨g, hG, ⟨rfl, rfl, rfl, rfl, rfl, rfl, rfl, rfl, rfl, rfl⟩, ⟨rfl, rfl, rfl, rfl, rfl, rfl, rfl, rfl, rfl, rfl⟩, hgr, hW, hwhy, hL, hR⟩⟩
      unfold wpY_enter
      dsimp only
      refine ya_in (n := 4) (by omega) (fun c hc e1 => xb_1 (ya_in (n := 11) (by omega) (fun p hp e => absurd ⟨c, p, hc, hp, e1, e⟩ E) (fun _ => xb_0 done))) (fun _ => xb_0 done)
    refine br_c (fun _ => same) (fun a => br_c (fun _ => same) (fun b => br_c (fun _ => same) (fun c => br_c (fun d => ?_) (fun _ => same))))
    obtain ⟨j, j4, rfl⟩ := zr_rng0 (hi := 4) a (Int32.not_le.mp b) (by omega)
    obtain ⟨p, hp, rfl⟩ := zr_rng0 (hi := 11) c (zr_le (n := 10) d (by omega)) (by omega)
    exact absurd ⟨j, p, j4, hp, rfl, rfl⟩ E
theorem i_vc_clear {k : Nat} {u : SX} {v : SY} (I : i_Rel k u v) (hk : k + 5 ≤ 2560) : wpX_clear (fun r u' => wpY_clear (fun r' v' => r' = r ∧ i_Rel (k + 5) u' v') v) u := by
  obtain ⟨f_codeCount, f_coverCount, f_placeCount, f_tooMany, f_layAnswer, f_wrongKind, f_wrongKey, f_grown, f_frameDepth, f_frameThere, f_lastReason, f_valueDepth, f_objectCount, f_hasRun, f_begun, f_nowAt, f_endClass, a_parent, a_entry, a_code, a_operand, a_coverFrom, a_coverTo, a_coverTarget, a_coverClass, a_placeKey, a_placeDepth, a_cameWith, a_ledWith, a_faults, a_found, a_hasFound, a_kept, a_hasMap, a_frame, a_kind, a_value, a_objectClass, a_objectReady⟩ := u
  obtain ⟨yf_length, yf_handlers, yf_many, yf_there, yf_typed, yf_wrongNumber, yf_wrongPlace, yf_size, yf_why, yf_height, yf_objects, yf_line, yf_begun, yf_last, yf_end, ya_parent, ya_begin, ya_op, ya_arg, ya_from, ya_to, ya_target, ya_caught, ya_places, ya_heights, ya_gone, ya_worst, ya_frames, ya_maps, ya_high, ya_known, ya_mapped, ya_now, ya_sorts, ya_ints, ya_classes, ya_ready⟩ := v
  obtain ⟨g, hG, ⟨rfl, rfl, rfl, rfl, rfl, rfl, rfl, rfl, rfl, rfl⟩, ⟨rfl, rfl, rfl, rfl, rfl, rfl, rfl, rfl, rfl, rfl⟩, hgr, hW, hwhy, hL, hR⟩ := I
  unfold wpX_clear wpX_endLayout wpY_clear
  dsimp only
  exact ⟨rfl, (0, 0, mc_o g, mc_r g, mc_f g, mc_t g, mc_g g, mc_k g, mc_p g, mc_e g), ⟨by show 0 ≤ 24; omega, by show 0 ≤ 4; omega, hG.2.2.1, hG.2.2.2.1, hG.2.2.2.2.1, hG.2.2.2.2.2.1, hG.2.2.2.2.2.2⟩, ⟨rfl, rfl, rfl, rfl, rfl, rfl, rfl, rfl, rfl, rfl⟩, ⟨rfl, rfl, rfl, rfl, rfl, rfl, rfl, rfl, rfl, rfl⟩, hgr, hW, hwhy, Or.inl ⟨rfl, rfl⟩, hR⟩
theorem zo_r {post : Int32 → Prop} {x : Int32} {n : Nat} (hn : n < 2 ^ 31) (h1 : (∃ a, a < n ∧ x = nI a) → post 1) (h0 : ¬ (∃ a, a < n ∧ x = nI a) → post 0) : ((x < 0 → post 0) ∧ (¬ x < 0 → ((nI n ≤ x → post 0) ∧ (¬ nI n ≤ x → post 1)))) := by
  refine br_c (fun a => h0 ?_) (fun a => br_c (fun b => h0 ?_) (fun b => ?_))
  · rintro ⟨j, hj, rfl⟩; exact nI_pos (by omega) a
  · rintro ⟨j, hj, rfl⟩
    rw [nI_leI hn (by omega)] at b; omega
  · obtain ⟨j, hj, e⟩ := zr_rng0 a (Int32.not_le.mp b) hn
    exact h1 ⟨j, hj, e⟩
/-- a good operand -/
def zo_ok (o : Nat) (x : Int32) : Prop := 0 < md_lim o → ∃ a, a < md_lim o ∧ x = nI a
theorem xa_isOp {post : Int32 → Prop} {o : Nat} {x : Int32} (ho : o < 20) (h1 : zo_ok o x → post 1) (h0 : ¬ zo_ok o x → post 0) : wpX_isOperand post (nI o) x := by
  have A : (o = 2 ∨ o = 3 ∨ o = 16) → wX_isOperand_84 post x := by
    intro e
    have l : md_lim o = 4 := by unfold md_lim; rw [if_pos e]
    exact zo_r (n := 4) (by omega) (fun z => h1 (fun _ => by rw [l]; exact z)) (fun z => h0 (fun y => z (by have := y (by omega); rw [l] at this; exact this)))
  have B : (o = 8 ∨ o = 10 ∨ o = 11 ∨ o = 18) → wX_isOperand_99 post x := by
    intro e
    have l : md_lim o = 8 := by unfold md_lim; rw [if_neg (by omega), if_pos e]
    exact zo_r (n := 8) (by omega) (fun z => h1 (fun _ => by rw [l]; exact z)) (fun z => h0 (fun y => z (by have := y (by omega); rw [l] at this; exact this)))
  have C : (12 ≤ o ∧ o ≤ 15) → wX_isOperand_115 post x := by
    intro e
    have l : md_lim o = 24 := by unfold md_lim; rw [if_neg (by omega), if_neg (by omega), if_pos e]
    exact zo_r (n := 24) (by omega) (fun z => h1 (fun _ => by rw [l]; exact z)) (fun z => h0 (fun y => z (by have := y (by omega); rw [l] at this; exact this)))
  have T : (o < 2 ∨ o = 4 ∨ o = 5 ∨ o = 6 ∨ o = 7 ∨ o = 9 ∨ o = 17 ∨ 18 < o) → post 1 := by
    intro e
    have l : md_lim o = 0 := by unfold md_lim; rw [if_neg (by omega), if_neg (by omega), if_neg (by omega)]
    exact h1 (fun z => by omega)
  unfold wpX_isOperand
  exact pk_lt o 2 (fun e => T (by omega)) (fun e1 => pk_lt 18 o (fun e => T (by omega)) (fun n1 => pk_eq o 2 (fun e => A (by omega)) (fun n2 => pk_eq o 3 (fun e => A (by omega)) (fun n3 => pk_eq o 4 (fun e => T (by omega)) (fun n4 => pk_eq o 5 (fun e => T (by omega)) (fun n5 => pk_eq o 6 (fun e => T (by omega)) (fun n6 => pk_eq o 7 (fun e => T (by omega)) (fun n7 => pk_eq o 8 (fun e => B (by omega)) (fun n8 => pk_eq o 9 (fun e => T (by omega)) (fun n9 => pk_eq o 10 (fun e => B (by omega)) (fun n10 => pk_eq o 11 (fun e => B (by omega)) (fun n11 => pk_eq o 12 (fun e => C (by omega)) (fun n12 => pk_eq o 13 (fun e => C (by omega)) (fun n13 => pk_eq o 14 (fun e => C (by omega)) (fun n14 => pk_eq o 15 (fun e => C (by omega)) (fun n15 => pk_eq o 16 (fun e => A (by omega)) (fun n16 => pk_eq o 17 (fun e => T (by omega)) (fun n17 => pk_eq o 18 (fun e => B (by omega)) (fun n18 => by omega)))))))))))))))))))
end
section
variable {f_length f_handlers f_many f_there f_typed f_wrongNumber f_wrongPlace f_size f_why f_height f_objects f_line f_begun f_last f_end : Int32} {a_parent a_begin a_op a_arg a_from a_to a_target a_caught a_places a_heights a_gone a_worst a_frames a_maps a_high a_known a_mapped a_now a_sorts a_ints a_classes a_ready : Nat → Int32}
theorem ya_add {post : Int32 → SY → Prop} {o : Nat} {x : Int32} (ho : o < 20) (h1 : zo_ok o x → wY_add_108 post (nI o) x f_length f_handlers f_many f_there f_typed f_wrongNumber f_wrongPlace f_size f_why f_height f_objects f_line f_begun f_last f_end a_parent a_begin a_op a_arg a_from a_to a_target a_caught a_places a_heights a_gone a_worst a_frames a_maps a_high a_known a_mapped a_now a_sorts a_ints a_classes a_ready) (h0 : ¬ zo_ok o x → post (-1) (f_length, f_handlers, f_many, f_there, f_typed, f_wrongNumber, f_wrongPlace, f_size, f_why, f_height, f_objects, f_line, f_begun, f_last, f_end, a_parent, a_begin, a_op, a_arg, a_from, a_to, a_target, a_caught, a_places, a_heights, a_gone, a_worst, a_frames, a_maps, a_high, a_known, a_mapped, a_now, a_sorts, a_ints, a_classes, a_ready)) : wpY_add post (f_length, f_handlers, f_many, f_there, f_typed, f_wrongNumber, f_wrongPlace, f_size, f_why, f_height, f_objects, f_line, f_begun, f_last, f_end, a_parent, a_begin, a_op, a_arg, a_from, a_to, a_target, a_caught, a_places, a_heights, a_gone, a_worst, a_frames, a_maps, a_high, a_known, a_mapped, a_now, a_sorts, a_ints, a_classes, a_ready) (nI o) x := by
  have S90 : (12 ≤ o ∧ o ≤ 15 ∨ zo_ok o x) → wY_add_90 post (nI o) x f_length f_handlers f_many f_there f_typed f_wrongNumber f_wrongPlace f_size f_why f_height f_objects f_line f_begun f_last f_end a_parent a_begin a_op a_arg a_from a_to a_target a_caught a_places a_heights a_gone a_worst a_frames a_maps a_high a_known a_mapped a_now a_sorts a_ints a_classes a_ready := by
    intro e
    unfold wY_add_90
    refine ya_jp ho (fun c => xb_1 ?_) (fun c => xb_0 (h1 (by rcases e with e | e; exact absurd e c; exact e)))
    have l : md_lim o = 24 := by unfold md_lim; rw [if_neg (by omega), if_neg (by omega), if_pos c]
    refine ya_in (n := 24) (by omega) (fun a ha ea => xb_1 (h1 (fun _ => ⟨a, by omega, ea⟩))) (fun z => xb_0 (h0 (fun y => z ?_)))
    have := y (by omega); rw [l] at this; exact this
  have S76 : ∀ b : Bool, (b = true ↔ (o = 8 ∨ o = 10 ∨ o = 11 ∨ o = 18)) → (8 ≤ o ∧ o ≤ 15 ∨ o = 18 ∨ zo_ok o x) → wY_add_76 post (nI o) x (mf_b b) f_length f_handlers f_many f_there f_typed f_wrongNumber f_wrongPlace f_size f_why f_height f_objects f_line f_begun f_last f_end a_parent a_begin a_op a_arg a_from a_to a_target a_caught a_places a_heights a_gone a_worst a_frames a_maps a_high a_known a_mapped a_now a_sorts a_ints a_classes a_ready := by
    intro b hb e
    unfold wY_add_76
    cases b with
    | false =>
      have nb : ¬ (o = 8 ∨ o = 10 ∨ o = 11 ∨ o = 18) := fun z => by have := hb.mpr z; cases this
      refine xb_0 (S90 ?_)
      by_cases j : 12 ≤ o ∧ o ≤ 15
      · exact Or.inl j
      · right
        rcases e with e | e | e
        · intro z
          have : md_lim o = 0 := by unfold md_lim; rw [if_neg (by omega), if_neg nb, if_neg j]
          omega
        · exact absurd (by omega) nb
        · exact e
    | true =>
      have yb := hb.mp rfl
      have l : md_lim o = 8 := by unfold md_lim; rw [if_neg (by omega), if_pos yb]
      refine xb_1 (ya_in (n := 8) (by omega) (fun a ha ea => xb_1 (S90 (Or.inr (fun _ => ⟨a, by omega, ea⟩)))) (fun z => xb_0 (h0 (fun y => z ?_))))
      have := y (by omega); rw [l] at this; exact this
  have S62 : ∀ b c : Bool, (b = true ↔ (o = 2 ∨ o = 3 ∨ o = 16)) → (c = true ↔ (o = 8 ∨ o = 10 ∨ o = 11 ∨ o = 18)) → wY_add_62 post (nI o) x (mf_b b) (mf_b c) f_length f_handlers f_many f_there f_typed f_wrongNumber f_wrongPlace f_size f_why f_height f_objects f_line f_begun f_last f_end a_parent a_begin a_op a_arg a_from a_to a_target a_caught a_places a_heights a_gone a_worst a_frames a_maps a_high a_known a_mapped a_now a_sorts a_ints a_classes a_ready := by
    intro b c hb hc
    unfold wY_add_62
    cases b with
    | false =>
      have nb : ¬ (o = 2 ∨ o = 3 ∨ o = 16) := fun z => by have := hb.mpr z; cases this
      refine xb_0 (S76 c hc ?_)
      by_cases j : (8 ≤ o ∧ o ≤ 15) ∨ o = 18
      · rcases j with j | j
        · exact Or.inl j
        · exact Or.inr (Or.inl j)
      · right; right
        intro z
        have : md_lim o = 0 := by unfold md_lim; rw [if_neg nb, if_neg (by omega), if_neg (by omega)]
        omega
    | true =>
      have yb := hb.mp rfl
      have l : md_lim o = 4 := by unfold md_lim; rw [if_pos yb]
      refine xb_1 (ya_in (n := 4) (by omega) (fun a ha ea => xb_1 (S76 c hc (Or.inr (Or.inr (fun _ => ⟨a, by omega, ea⟩))))) (fun z => xb_0 (h0 (fun y => z ?_))))
      have := y (by omega); rw [l] at this; exact this
  have S32 : ∀ b : Bool, (b = true ↔ (o = 2 ∨ o = 3 ∨ o = 16)) → wY_add_32 post (nI o) x (mf_b b) f_length f_handlers f_many f_there f_typed f_wrongNumber f_wrongPlace f_size f_why f_height f_objects f_line f_begun f_last f_end a_parent a_begin a_op a_arg a_from a_to a_target a_caught a_places a_heights a_gone a_worst a_frames a_maps a_high a_known a_mapped a_now a_sorts a_ints a_classes a_ready := by
    intro b hb
    unfold wY_add_32 wY_add_57
    refine pk_eq o 8 (fun c => S62 b true hb (by simp [c])) (fun c8 => pk_eq o 10 (fun c => S62 b true hb (by simp [c])) (fun c10 => pk_eq o 11 (fun c => S62 b true hb (by simp [c])) (fun c11 => pk_eq o 18 (fun c => S62 b true hb (by simp [c])) (fun c18 => S62 b false hb ?_))))
    exact ⟨fun z => (by cases z), fun z => by omega⟩
  unfold wpY_add wY_add_27
  dsimp only
  refine ya_in (n := 20) (by omega) (fun _ _ _ => xb_1 ?_) (fun z => absurd ⟨o, ho, rfl⟩ z)
  refine pk_eq o 2 (fun c => S32 true (by simp [c])) (fun c2 => pk_eq o 3 (fun c => S32 true (by simp [c])) (fun c3 => pk_eq o 16 (fun c => S32 true (by simp [c])) (fun c16 => S32 false ?_)))
  exact ⟨fun z => (by cases z), fun z => by omega⟩
end
section
theorem i_vc_add {k : Nat} {u : SX} {v : SY} (I : i_Rel k u v) (hk : k + 5 ≤ 2560) (v1 : Int32) (v2 : Int32) : wpX_add (fun r u' => wpY_add (fun r' v' => r' = r ∧ i_Rel (k + 5) u' v') v v1 v2) u v1 v2 := by
  obtain ⟨f_codeCount, f_coverCount, f_placeCount, f_tooMany, f_layAnswer, f_wrongKind, f_wrongKey, f_grown, f_frameDepth, f_frameThere, f_lastReason, f_valueDepth, f_objectCount, f_hasRun, f_begun, f_nowAt, f_endClass, a_parent, a_entry, a_code, a_operand, a_coverFrom, a_coverTo, a_coverTarget, a_coverClass, a_placeKey, a_placeDepth, a_cameWith, a_ledWith, a_faults, a_found, a_hasFound, a_kept, a_hasMap, a_frame, a_kind, a_value, a_objectClass, a_objectReady⟩ := u
  obtain ⟨yf_length, yf_handlers, yf_many, yf_there, yf_typed, yf_wrongNumber, yf_wrongPlace, yf_size, yf_why, yf_height, yf_objects, yf_line, yf_begun, yf_last, yf_end, ya_parent, ya_begin, ya_op, ya_arg, ya_from, ya_to, ya_target, ya_caught, ya_places, ya_heights, ya_gone, ya_worst, ya_frames, ya_maps, ya_high, ya_known, ya_mapped, ya_now, ya_sorts, ya_ints, ya_classes, ya_ready⟩ := v
  obtain ⟨g, hG, ⟨rfl, rfl, rfl, rfl, rfl, rfl, rfl, rfl, rfl, rfl⟩, ⟨rfl, rfl, rfl, rfl, rfl, rfl, rfl, rfl, rfl, rfl⟩, hgr, hW, hwhy, hL, hR⟩ := I
  have hcc := hG.1
  unfold wpX_add wpX_endLayout
  dsimp only
  have done : ∀ r : Int32, r = r ∧ i_Rel (k + 5) ((nI (mc_cc g)), (nI (mc_hc g)), f_placeCount, f_tooMany, f_layAnswer, f_wrongKind, f_wrongKey, f_grown, f_frameDepth, f_frameThere, f_lastReason, f_valueDepth, f_objectCount, f_hasRun, f_begun, f_nowAt, f_endClass, (ar (mc_p g)), (ar (mc_e g)), (ar (mc_o g)), (mc_r g), (ar (mc_f g)), (ar (mc_t g)), (ar (mc_g g)), (ar (mc_k g)), a_placeKey, a_placeDepth, a_cameWith, a_ledWith, a_faults, a_found, a_hasFound, a_kept, a_hasMap, a_frame, a_kind, a_value, a_objectClass, a_objectReady) ((nI (mc_cc g)), (nI (mc_hc g)), yf_many, yf_there, yf_typed, yf_wrongNumber, yf_wrongPlace, yf_size, yf_why, yf_height, yf_objects, yf_line, yf_begun, yf_last, yf_end, (ar (mc_p g)), (ar (mc_e g)), (ar (mc_o g)), (mc_r g), (ar (mc_f g)), (ar (mc_t g)), (ar (mc_g g)), (ar (mc_k g)), ya_places, ya_heights, ya_gone, ya_worst, ya_frames, ya_maps, ya_high, ya_known, ya_mapped, ya_now, ya_sorts, ya_ints, ya_classes, ya_ready) := fun r => ⟨rfl, ⟨g, hG, ⟨rfl, rfl, rfl, rfl, rfl, rfl, rfl, rfl, rfl, rfl⟩, ⟨rfl, rfl, rfl, rfl, rfl, rfl, rfl, rfl, rfl, rfl⟩, hgr, hW, hwhy, hL, hR⟩⟩
  by_cases E : ∃ o, o < 20 ∧ v1 = nI o
  · obtain ⟨o, ho, rfl⟩ := E
    refine xb_n (by omega) (pk_lt 19 o (fun z => by omega) (fun _ => xa_isOp ho (fun ok => xb_1 ?_) (fun nok => xb_0 (ya_add ho (fun z => absurd z nok) (fun _ => done (-1))))))
    refine pk_lt (mc_cc g) 24 (fun c => ⟨vp_in_nI (by omega) (by omega), nm_r (ar_ui _ _ (by omega)) ⟨vp_in_nI (by omega) (by omega), nm_r (e' := upd (mc_r g) (mc_cc g) v2) (by rw [nI_clamp (by omega)]) (nm_r (nI_1 _) ?_)⟩⟩) (fun c => ya_add ho (fun _ => ?_) (fun z => absurd ok z))
    · refine ya_add ho (fun _ => ?_) (fun z => absurd ok z)
      unfold wY_add_108
      refine pk_eq (mc_cc g) 24 (fun z => by omega) (fun _ => ⟨vp_in_nI (by omega) (by omega), nm_r (ar_ui _ _ (by omega)) ⟨vp_in_nI (by omega) (by omega), nm_r (e' := upd (mc_r g) (mc_cc g) v2) (by rw [nI_clamp (by omega)]) (nm_r (nI_1 _) ?_)⟩⟩)
      refine ⟨rfl, (mc_cc g + 1, mc_hc g, mf_up (mc_o g) (mc_cc g) o, upd (mc_r g) (mc_cc g) v2, mc_f g, mc_t g, mc_g g, mc_k g, mc_p g, mc_e g), ⟨by show mc_cc g + 1 ≤ 24; omega, hG.2.1, fun i => ?_, fun i hi => ?_, hG.2.2.2.2.1, hG.2.2.2.2.2.1, hG.2.2.2.2.2.2⟩, ⟨rfl, rfl, rfl, rfl, rfl, rfl, rfl, rfl, rfl, rfl⟩, ⟨rfl, rfl, rfl, rfl, rfl, rfl, rfl, rfl, rfl, rfl⟩, hgr, hW, hwhy, Or.inl ⟨rfl, rfl⟩, hR⟩
      · show mf_up (mc_o g) (mc_cc g) o i < 20
        by_cases e : i = mc_cc g
        · subst e; rw [up_s]; exact ho
        · rw [up_n e]; exact hG.2.2.1 i
      · have hi' : 0 < md_lim (mf_up (mc_o g) (mc_cc g) o i) := hi
        show (upd (mc_r g) (mc_cc g) v2 i).toNatClampNeg < md_lim (mf_up (mc_o g) (mc_cc g) o i) ∧ upd (mc_r g) (mc_cc g) v2 i = nI (upd (mc_r g) (mc_cc g) v2 i).toNatClampNeg
        by_cases e : i = mc_cc g
        · subst e
          rw [up_s] at hi' ⊢
          rw [pk_us]
          obtain ⟨a, ha, rfl⟩ := ok hi'
          have : md_lim o ≤ 24 := by
            unfold md_lim
            repeat' split
            all_goals omega
          rw [nI_clamp (by omega)]; exact ⟨ha, rfl⟩
        · rw [up_n e] at hi' ⊢
          rw [pk_un e]
          exact hG.2.2.2.1 i hi'
    · unfold wY_add_108
      exact pk_eq (mc_cc g) 24 (fun _ => done (-2)) (fun z => by omega)
  · have same : wpY_add (fun r' v' => r' = -1 ∧ i_Rel (k + 5) ((nI (mc_cc g)), (nI (mc_hc g)), f_placeCount, f_tooMany, f_layAnswer, f_wrongKind, f_wrongKey, f_grown, f_frameDepth, f_frameThere, f_lastReason, f_valueDepth, f_objectCount, f_hasRun, f_begun, f_nowAt, f_endClass, (ar (mc_p g)), (ar (mc_e g)), (ar (mc_o g)), (mc_r g), (ar (mc_f g)), (ar (mc_t g)), (ar (mc_g g)), (ar (mc_k g)), a_placeKey, a_placeDepth, a_cameWith, a_ledWith, a_faults, a_found, a_hasFound, a_kept, a_hasMap, a_frame, a_kind, a_value, a_objectClass, a_objectReady) v') ((nI (mc_cc g)), (nI (mc_hc g)), yf_many, yf_there, yf_typed, yf_wrongNumber, yf_wrongPlace, yf_size, yf_why, yf_height, yf_objects, yf_line, yf_begun, yf_last, yf_end, (ar (mc_p g)), (ar (mc_e g)), (ar (mc_o g)), (mc_r g), (ar (mc_f g)), (ar (mc_t g)), (ar (mc_g g)), (ar (mc_k g)), ya_places, ya_heights, ya_gone, ya_worst, ya_frames, ya_maps, ya_high, ya_known, ya_mapped, ya_now, ya_sorts, ya_ints, ya_classes, ya_ready) v1 v2 := by
      unfold wpY_add
      dsimp only
      exact ya_in (n := 20) (by omega) (fun j hj e => absurd ⟨j, hj, e⟩ E) (fun _ => xb_0 (done (-1)))
    refine br_c (fun _ => same) (fun a => br_c (fun _ => same) (fun b => ?_))
    obtain ⟨j, hj, rfl⟩ := zr_rng0 (hi := 20) a (zr_le (n := 19) (Int32.not_lt.mp b) (by omega)) (by omega)
    exact absurd ⟨j, hj, rfl⟩ E
theorem i_vc_handler {k : Nat} {u : SX} {v : SY} (I : i_Rel k u v) (hk : k + 5 ≤ 2560) (v1 : Int32) (v2 : Int32) (v3 : Int32) (v4 : Int32) : wpX_handler (fun r u' => wpY_handler (fun r' v' => r' = r ∧ i_Rel (k + 5) u' v') v v1 v2 v3 v4) u v1 v2 v3 v4 := by
  obtain ⟨f_codeCount, f_coverCount, f_placeCount, f_tooMany, f_layAnswer, f_wrongKind, f_wrongKey, f_grown, f_frameDepth, f_frameThere, f_lastReason, f_valueDepth, f_objectCount, f_hasRun, f_begun, f_nowAt, f_endClass, a_parent, a_entry, a_code, a_operand, a_coverFrom, a_coverTo, a_coverTarget, a_coverClass, a_placeKey, a_placeDepth, a_cameWith, a_ledWith, a_faults, a_found, a_hasFound, a_kept, a_hasMap, a_frame, a_kind, a_value, a_objectClass, a_objectReady⟩ := u
  obtain ⟨yf_length, yf_handlers, yf_many, yf_there, yf_typed, yf_wrongNumber, yf_wrongPlace, yf_size, yf_why, yf_height, yf_objects, yf_line, yf_begun, yf_last, yf_end, ya_parent, ya_begin, ya_op, ya_arg, ya_from, ya_to, ya_target, ya_caught, ya_places, ya_heights, ya_gone, ya_worst, ya_frames, ya_maps, ya_high, ya_known, ya_mapped, ya_now, ya_sorts, ya_ints, ya_classes, ya_ready⟩ := v
  obtain ⟨g, hG, ⟨rfl, rfl, rfl, rfl, rfl, rfl, rfl, rfl, rfl, rfl⟩, ⟨rfl, rfl, rfl, rfl, rfl, rfl, rfl, rfl, rfl, rfl⟩, hgr, hW, hwhy, hL, hR⟩ := I
  have hhc := hG.2.1
  have done : ∀ r : Int32, r = r ∧ i_Rel (k + 5) ((nI (mc_cc g)), (nI (mc_hc g)), f_placeCount, f_tooMany, f_layAnswer, f_wrongKind, f_wrongKey, f_grown, f_frameDepth, f_frameThere, f_lastReason, f_valueDepth, f_objectCount, f_hasRun, f_begun, f_nowAt, f_endClass, (ar (mc_p g)), (ar (mc_e g)), (ar (mc_o g)), (mc_r g), (ar (mc_f g)), (ar (mc_t g)), (ar (mc_g g)), (ar (mc_k g)), a_placeKey, a_placeDepth, a_cameWith, a_ledWith, a_faults, a_found, a_hasFound, a_kept, a_hasMap, a_frame, a_kind, a_value, a_objectClass, a_objectReady) ((nI (mc_cc g)), (nI (mc_hc g)), yf_many, yf_there, yf_typed, yf_wrongNumber, yf_wrongPlace, yf_size, yf_why, yf_height, yf_objects, yf_line, yf_begun, yf_last, yf_end, (ar (mc_p g)), (ar (mc_e g)), (ar (mc_o g)), (mc_r g), (ar (mc_f g)), (ar (mc_t g)), (ar (mc_g g)), (ar (mc_k g)), ya_places, ya_heights, ya_gone, ya_worst, ya_frames, ya_maps, ya_high, ya_known, ya_mapped, ya_now, ya_sorts, ya_ints, ya_classes, ya_ready) := fun r => ⟨rfl, ⟨g, hG, ⟨rfl, rfl, rfl, rfl, rfl, rfl, rfl, rfl, rfl, rfl⟩, ⟨rfl, rfl, rfl, rfl, rfl, rfl, rfl, rfl, rfl, rfl⟩, hgr, hW, hwhy, hL, hR⟩⟩
  unfold wpX_handler wpX_endLayout
  dsimp only
  by_cases E : ∃ a b c d, a < b ∧ b ≤ 24 ∧ c < 24 ∧ d < 8 ∧ v1 = nI a ∧ v2 = nI b ∧ v3 = nI c ∧ v4 = nI d
  · obtain ⟨a, b, c, d, hab, hb, hc, hd, rfl, rfl, rfl, rfl⟩ := E
    refine xb_n (by omega) (pk_le b a (fun z => by omega) (fun _ => pk_le b 24 (fun _ => xb_n (by omega) (pk_le 24 c (fun z => by omega) (fun _ => xb_n (by omega) (pk_lt d 8 (fun _ => ?_) (fun z => by omega))))) (fun z => by omega)))
    refine pk_lt (mc_hc g) 4 (fun h4 => ⟨vp_in_nI (by omega) (by omega), nm_r (ar_ui _ _ (by omega)) ⟨vp_in_nI (by omega) (by omega), nm_r (ar_ui _ _ (by omega)) ⟨vp_in_nI (by omega) (by omega), nm_r (ar_ui _ _ (by omega)) ⟨vp_in_nI (by omega) (by omega), nm_r (ar_ui _ _ (by omega)) (nm_r (nI_1 _) ?_)⟩⟩⟩⟩) (fun h4 => ?_)
    · unfold wpY_handler
      dsimp only
      refine xb_n (by omega) (pk_le b a (fun z => by omega) (fun _ => pk_lt 24 b (fun z => by omega) (fun _ => ya_in (n := 24) (by omega) (fun _ _ _ => xb_1 (ya_in (n := 8) (by omega) (fun _ _ _ => xb_1 ?_) (fun z => absurd ⟨d, hd, rfl⟩ z))) (fun z => absurd ⟨c, hc, rfl⟩ z))))
      refine pk_eq (mc_hc g) 4 (fun z => by omega) (fun _ => ⟨vp_in_nI (by omega) (by omega), nm_r (ar_ui _ _ (by omega)) ⟨vp_in_nI (by omega) (by omega), nm_r (ar_ui _ _ (by omega)) ⟨vp_in_nI (by omega) (by omega), nm_r (ar_ui _ _ (by omega)) ⟨vp_in_nI (by omega) (by omega), nm_r (ar_ui _ _ (by omega)) (nm_r (nI_1 _) ?_)⟩⟩⟩⟩)
      refine ⟨rfl, (mc_cc g, mc_hc g + 1, mc_o g, mc_r g, mf_up (mc_f g) (mc_hc g) a, mf_up (mc_t g) (mc_hc g) b, mf_up (mc_g g) (mc_hc g) c, mf_up (mc_k g) (mc_hc g) d, mc_p g, mc_e g), ⟨hG.1, by show mc_hc g + 1 ≤ 4; omega, hG.2.2.1, hG.2.2.2.1, fun x => ?_, hG.2.2.2.2.2.1, hG.2.2.2.2.2.2⟩, ⟨rfl, rfl, rfl, rfl, rfl, rfl, rfl, rfl, rfl, rfl⟩, ⟨rfl, rfl, rfl, rfl, rfl, rfl, rfl, rfl, rfl, rfl⟩, hgr, hW, hwhy, Or.inl ⟨rfl, rfl⟩, hR⟩
      show mf_up (mc_f g) (mc_hc g) a x < 24 ∧ mf_up (mc_t g) (mc_hc g) b x ≤ 24 ∧ mf_up (mc_g g) (mc_hc g) c x < 24 ∧ mf_up (mc_k g) (mc_hc g) d x < 8
      by_cases e : x = mc_hc g
      · subst e; rw [up_s, up_s, up_s, up_s]; omega
      · rw [up_n e, up_n e, up_n e, up_n e]; exact hG.2.2.2.2.1 x
    · unfold wpY_handler
      dsimp only
      refine xb_n (by omega) (pk_le b a (fun z => by omega) (fun _ => pk_lt 24 b (fun z => by omega) (fun _ => ya_in (n := 24) (by omega) (fun _ _ _ => xb_1 (ya_in (n := 8) (by omega) (fun _ _ _ => xb_1 ?_) (fun z => absurd ⟨d, hd, rfl⟩ z))) (fun z => absurd ⟨c, hc, rfl⟩ z))))
      exact pk_eq (mc_hc g) 4 (fun _ => done (-2)) (fun z => by omega)
  · have fromto : ¬ v1 < 0 → ¬ v2 ≤ v1 → v2 ≤ nI 24 → ∃ a b, a < b ∧ b ≤ 24 ∧ v1 = nI a ∧ v2 = nI b := by
      intro a b c
      have lt := Int32.not_le.mp b
      have n0 : ¬ v2 < 0 := fun z => a (Int32.lt_trans lt z)
      obtain ⟨j, hj, rfl⟩ := zr_rng0 (hi := 25) n0 (zr_le (n := 24) c (by omega)) (by omega)
      obtain ⟨i, hi, rfl⟩ := zr_rng0 (hi := j) a lt (by omega)
      exact ⟨i, j, hi, by omega, rfl, rfl⟩
    have same : wpY_handler (fun r' v' => r' = -1 ∧ i_Rel (k + 5) ((nI (mc_cc g)), (nI (mc_hc g)), f_placeCount, f_tooMany, f_layAnswer, f_wrongKind, f_wrongKey, f_grown, f_frameDepth, f_frameThere, f_lastReason, f_valueDepth, f_objectCount, f_hasRun, f_begun, f_nowAt, f_endClass, (ar (mc_p g)), (ar (mc_e g)), (ar (mc_o g)), (mc_r g), (ar (mc_f g)), (ar (mc_t g)), (ar (mc_g g)), (ar (mc_k g)), a_placeKey, a_placeDepth, a_cameWith, a_ledWith, a_faults, a_found, a_hasFound, a_kept, a_hasMap, a_frame, a_kind, a_value, a_objectClass, a_objectReady) v') ((nI (mc_cc g)), (nI (mc_hc g)), yf_many, yf_there, yf_typed, yf_wrongNumber, yf_wrongPlace, yf_size, yf_why, yf_height, yf_objects, yf_line, yf_begun, yf_last, yf_end, (ar (mc_p g)), (ar (mc_e g)), (ar (mc_o g)), (mc_r g), (ar (mc_f g)), (ar (mc_t g)), (ar (mc_g g)), (ar (mc_k g)), ya_places, ya_heights, ya_gone, ya_worst, ya_frames, ya_maps, ya_high, ya_known, ya_mapped, ya_now, ya_sorts, ya_ints, ya_classes, ya_ready) v1 v2 v3 v4 := by
      unfold wpY_handler
      dsimp only
      refine br_c (fun _ => done (-1)) (fun a => br_c (fun _ => done (-1)) (fun b => br_c (fun _ => done (-1)) (fun c => ?_)))
      obtain ⟨i, j, h1, h2, e1, e2⟩ := fromto a b (Int32.not_lt.mp c)
      refine ya_in (n := 24) (by omega) (fun x hx ex => xb_1 (ya_in (n := 8) (by omega) (fun y hy ey => absurd ⟨i, j, x, y, h1, h2, hx, hy, e1, e2, ex, ey⟩ E) (fun _ => xb_0 (done (-1))))) (fun _ => xb_0 (done (-1)))
    refine br_c (fun _ => same) (fun a => br_c (fun _ => same) (fun b => br_c (fun c => br_c (fun _ => same) (fun d => br_c (fun _ => same) (fun e => br_c (fun _ => same) (fun f => br_c (fun h => ?_) (fun _ => same))))) (fun _ => same)))
    obtain ⟨i, j, h1, h2, e1, e2⟩ := fromto a b c
    obtain ⟨x, hx, ex⟩ := zr_rng0 (hi := 24) d (Int32.not_le.mp e) (by omega)
    obtain ⟨y, hy, ey⟩ := zr_rng0 (hi := 8) f h (by omega)
    exact absurd ⟨i, j, x, y, h1, h2, hx, hy, e1, e2, ex, ey⟩ E
end
