/-! ===== kin, enter, add, handler, clear ===== -/
section
theorem i_vc_kin {k : Nat} {u : SX} {v : SY} (I : i_Rel k u v) (hk : k + 5 ≤ 2560) (v1 : Int32) (v2 : Int32) : wpX_kin (fun r u' => wpY_kin (fun r' v' => r' = r ∧ i_Rel (k + 5) u' v') v v1 v2) u v1 v2 := by
  obtain ⟨f_codeCount, f_coverCount, f_placeCount, f_tooMany, f_layAnswer, f_wrongKind, f_wrongKey, f_grown, f_frameDepth, f_frameThere, f_lastReason, f_valueDepth, f_objectCount, f_hasRun, f_begun, f_nowAt, f_endClass, a_parent, a_entry, a_code, a_operand, a_coverFrom, a_coverTo, a_coverTarget, a_coverClass, a_placeKey, a_placeDepth, a_cameWith, a_ledWith, a_faults, a_found, a_hasFound, a_kept, a_hasMap, a_frame, a_kind, a_value, a_objectClass, a_objectReady⟩ := u
  obtain ⟨yf_length, yf_handlers, yf_many, yf_there, yf_typed, yf_wrongNumber, yf_wrongPlace, yf_size, yf_why, yf_height, yf_objects, yf_line, yf_begun, yf_last, yf_end, ya_parent, ya_begin, ya_op, ya_arg, ya_from, ya_to, ya_target, ya_caught, ya_places, ya_heights, ya_gone, ya_worst, ya_frames, ya_maps, ya_high, ya_known, ya_mapped, ya_now, ya_sorts, ya_ints, ya_classes, ya_ready⟩ := v
  obtain ⟨g, hG, ⟨rfl, rfl, rfl, rfl, rfl, rfl, rfl, rfl, rfl, rfl⟩, ⟨rfl, rfl, rfl, rfl, rfl, rfl, rfl, rfl, rfl, rfl⟩, hgr, hW, hwhy, hL, hR⟩ := I
  unfold wpX_kin wpX_endLayout
  dsimp only
  by_cases E : ∃ c p, 1 ≤ c ∧ c < 8 ∧ p < c ∧ v1 = nI c ∧ v2 = nI p
  · obtain ⟨c, p, h1, h8, hp, rfl, rfl⟩ := E
    refine pk_lt c 1 (fun z => by omega) (fun _ => pk_le 8 c (fun z => by omega) (fun _ => xb_n (by omega) (pk_lt p c (fun _ => ⟨vp_in_nI (by omega) (by omega), nm_r (ar_ui _ _ (by omega)) ?_⟩) (fun z => by omega))))
    unfold wpY_kin
    dsimp only
    refine pk_lt c 1 (fun z => by omega) (fun _ => pk_lt 7 c (fun z => by omega) (fun _ => ya_in (by omega) (fun _ _ _ => xb_1 ⟨vp_in_nI (by omega) (by omega), nm_r (ar_ui _ _ (by omega)) ?_⟩) (fun z => absurd ⟨p, hp, rfl⟩ z)))
    refine ⟨rfl, (mc_cc g, mc_hc g, mc_o g, mc_r g, mc_f g, mc_t g, mc_g g, mc_k g, mf_up (mc_p g) c p, mc_e g), ⟨hG.1, hG.2.1, hG.2.2.1, hG.2.2.2.1, hG.2.2.2.2.1, fun x => ?_, hG.2.2.2.2.2.2⟩, ⟨rfl, rfl, rfl, rfl, rfl, rfl, rfl, rfl, rfl, rfl⟩, ⟨rfl, rfl, rfl, rfl, rfl, rfl, rfl, rfl, rfl, rfl⟩, hgr, hW, hwhy, Or.inl ⟨rfl, rfl⟩, hR⟩
    show mf_up (mc_p g) c p x ≤ x - 1
    by_cases e : x = c
    · subst e; rw [up_s]; omega
    · rw [up_n e]; exact hG.2.2.2.2.2.1 x
  · have same : ∀ r : Int32, r = 0 → wpY_kin (fun r' v' => r' = r ∧ i_Rel (k + 5) ((nI (mc_cc g)), (nI (mc_hc g)), f_placeCount, f_tooMany, f_layAnswer, f_wrongKind, f_wrongKey, f_grown, f_frameDepth, f_frameThere, f_lastReason, f_valueDepth, f_objectCount, f_hasRun, f_begun, f_nowAt, f_endClass, (ar (mc_p g)), (ar (mc_e g)), (ar (mc_o g)), (mc_r g), (ar (mc_f g)), (ar (mc_t g)), (ar (mc_g g)), (ar (mc_k g)), a_placeKey, a_placeDepth, a_cameWith, a_ledWith, a_faults, a_found, a_hasFound, a_kept, a_hasMap, a_frame, a_kind, a_value, a_objectClass, a_objectReady) v') (nI (mc_cc g), nI (mc_hc g), yf_many, yf_there, yf_typed, yf_wrongNumber, yf_wrongPlace, yf_size, yf_why, yf_height, yf_objects, yf_line, yf_begun, yf_last, yf_end, ar (mc_p g), ar (mc_e g), ar (mc_o g), mc_r g, ar (mc_f g), ar (mc_t g), ar (mc_g g), ar (mc_k g), ya_places, ya_heights, ya_gone, ya_worst, ya_frames, ya_maps, ya_high, ya_known, ya_mapped, ya_now, ya_sorts, ya_ints, ya_classes, ya_ready) v1 v2 := by
      intro r er
      subst er
      have done : (0 : Int32) = 0 ∧ i_Rel (k + 5) ((nI (mc_cc g)), (nI (mc_hc g)), f_placeCount, f_tooMany, f_layAnswer, f_wrongKind, f_wrongKey, f_grown, f_frameDepth, f_frameThere, f_lastReason, f_valueDepth, f_objectCount, f_hasRun, f_begun, f_nowAt, f_endClass, (ar (mc_p g)), (ar (mc_e g)), (ar (mc_o g)), (mc_r g), (ar (mc_f g)), (ar (mc_t g)), (ar (mc_g g)), (ar (mc_k g)), a_placeKey, a_placeDepth, a_cameWith, a_ledWith, a_faults, a_found, a_hasFound, a_kept, a_hasMap, a_frame, a_kind, a_value, a_objectClass, a_objectReady) (nI (mc_cc g), nI (mc_hc g), yf_many, yf_there, yf_typed, yf_wrongNumber, yf_wrongPlace, yf_size, yf_why, yf_height, yf_objects, yf_line, yf_begun, yf_last, yf_end, ar (mc_p g), ar (mc_e g), ar (mc_o g), mc_r g, ar (mc_f g), ar (mc_t g), ar (mc_g g), ar (mc_k g), ya_places, ya_heights, ya_gone, ya_worst, ya_frames, ya_maps, ya_high, ya_known, ya_mapped, ya_now, ya_sorts, ya_ints, ya_classes, ya_ready) := ⟨rfl, g, hG, ⟨rfl, rfl, rfl, rfl, rfl, rfl, rfl, rfl, rfl, rfl⟩, ⟨rfl, rfl, rfl, rfl, rfl, rfl, rfl, rfl, rfl, rfl⟩, hgr, hW, hwhy, hL, hR⟩
      unfold wpY_kin
      dsimp only
      refine br_c (fun _ => done) (fun a => br_c (fun _ => done) (fun b => ?_))
      obtain ⟨c, c1, c8, rfl⟩ := zr_rng (lo := 1) (hi := 8) a (zr_le (n := 7) (Int32.not_lt.mp b) (by omega)) (by omega) (by omega)
      refine ya_in (by omega) (fun p hp e => absurd ⟨c, p, c1, c8, hp, rfl, e⟩ E) (fun _ => xb_0 done)
    refine br_c (fun _ => same 0 rfl) (fun a => br_c (fun _ => same 0 rfl) (fun b => br_c (fun _ => same 0 rfl) (fun c => br_c (fun d => ?_) (fun _ => same 0 rfl))))
    obtain ⟨j, j1, j8, rfl⟩ := zr_rng (lo := 1) (hi := 8) a (Int32.not_le.mp b) (by omega) (by omega)
    obtain ⟨p, hp, rfl⟩ := zr_rng0 c d (by omega)
    exact absurd ⟨j, p, j1, j8, hp, rfl, rfl⟩ E
end
