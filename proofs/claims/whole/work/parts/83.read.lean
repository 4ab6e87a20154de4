/-! ===== reading methods ===== -/
section
def zt_v (p i : Nat) : Int32 := if i = 1 then nI (p % 24) else if i = 2 then nI (md_n p) else if i - 3 < md_n p then nI (md_c p (i - 3)) else -1
theorem xt_co {post : Int32 → Prop} {p i : Nat} (hp : p < 1327104) (h2 : 2 ≤ i) (h5 : i ≤ 5) (h : post (zt_v p i)) : wpX_callOf post (nI (md_kx p)) (nI i - 2) := by
  have hn4 : md_n p < 4 := by unfold md_n; omega
  have e : nI i - 2 = nI (i - 2) := pk_sub (b := 2) h2
  rw [e]
  unfold zt_v at h
  rw [if_neg (by omega)] at h
  refine xa_co hp (fun z => ?_) (fun j hj z => ?_) (fun z0 z => ?_)
  · have z' := (nI_eq (a := i - 2) (b := 0) (by omega) (by omega)).mp z
    rw [if_pos (by omega)] at h; exact h
  · have z' := (nI_eq (by omega) (by omega)).mp z
    have : j = i - 3 := by omega
    subst this
    rw [if_neg (by omega), if_pos hj] at h; exact h
  · have i2 : ¬ i = 2 := by
      intro w; subst w; exact z0 rfl
    rw [if_neg i2, if_neg (fun w => z (i - 3) w (congrArg nI (by omega)))] at h; exact h
theorem xt_out {post : Int32 → Prop} {p : Nat} {x : Int32} (hp : p < 1327104) (hx : ¬ ∃ i, 2 ≤ i ∧ i ≤ 5 ∧ x = nI i) (h : post (-1)) : wpX_callOf post (nI (md_kx p)) (x - 2) := by
  have hn4 : md_n p < 4 := by unfold md_n; omega
  have back : x = (x - 2) + 2 := (Int32.sub_add_cancel x 2).symm
  refine xa_co hp (fun z => ?_) (fun j hj z => ?_) (fun _ _ => h)
  · exfalso
    rw [z] at back
    exact hx ⟨2, by omega, by omega, back⟩
  · exfalso
    rw [z] at back
    refine hx ⟨j + 3, by omega, by omega, back.trans ?_⟩
    show nI (j + 1) + nI 2 = _
    rw [nI_add]
theorem yt_told {post : Int32 → Prop} {p i : Nat} (hp : p < 1327104) (h1 : 1 ≤ i) (h5 : i ≤ 5) (h : post (zt_v p i)) : wpY_told post (nI p) (nI i) := by
  have hn4 : md_n p < 4 := by unfold md_n; omega
  unfold wpY_told
  unfold zt_v at h
  refine ya_calls (by omega) (pk_eq i 1 (fun c => ya_ins (by omega) ?_) (fun c1 => pk_eq i 2 (fun c => ?_) (fun c2 => ?_)))
  · rw [if_pos c] at h; exact h
  · rw [if_neg c1, if_pos c] at h; exact h
  · rw [if_neg c1, if_neg c2] at h
    have e : nI i - 3 = nI (i - 3) := pk_sub (b := 3) (by omega)
    rw [e]
    refine pk_le (md_n p) (i - 3) (fun c => ?_) (fun c => ya_callOf (by omega) (by omega) ?_)
    · rw [if_neg (by omega)] at h; exact h
    · rw [if_pos c] at h; exact h
theorem i_vc_wrong {k : Nat} {u : SX} {v : SY} (I : i_Rel k u v) (hk : k + 5 ≤ 2560) (v1 : Int32) : wpX_wrong (fun r => wpY_wrong (fun r' => r' = r ∧ i_Rel (k + 5) u v) v v1) u v1 := by
  obtain ⟨f_codeCount, f_coverCount, f_placeCount, f_tooMany, f_layAnswer, f_wrongKind, f_wrongKey, f_grown, f_frameDepth, f_frameThere, f_lastReason, f_valueDepth, f_objectCount, f_hasRun, f_begun, f_nowAt, f_endClass, a_parent, a_entry, a_code, a_operand, a_coverFrom, a_coverTo, a_coverTarget, a_coverClass, a_placeKey, a_placeDepth, a_cameWith, a_ledWith, a_faults, a_found, a_hasFound, a_kept, a_hasMap, a_frame, a_kind, a_value, a_objectClass, a_objectReady⟩ := u
  obtain ⟨yf_length, yf_handlers, yf_many, yf_there, yf_typed, yf_wrongNumber, yf_wrongPlace, yf_size, yf_why, yf_height, yf_objects, yf_line, yf_begun, yf_last, yf_end, ya_parent, ya_begin, ya_op, ya_arg, ya_from, ya_to, ya_target, ya_caught, ya_places, ya_heights, ya_gone, ya_worst, ya_frames, ya_maps, ya_high, ya_known, ya_mapped, ya_now, ya_sorts, ya_ints, ya_classes, ya_ready⟩ := v
  obtain ⟨g, hG, ⟨rfl, rfl, rfl, rfl, rfl, rfl, rfl, rfl, rfl, rfl⟩, ⟨rfl, rfl, rfl, rfl, rfl, rfl, rfl, rfl, rfl, rfl⟩, hgr, hW, hwhy, hL, hR⟩ := I
  have done : ∀ r : Int32, r = r ∧ i_Rel (k + 5) ((nI (mc_cc g)), (nI (mc_hc g)), f_placeCount, f_tooMany, f_layAnswer, f_wrongKind, f_wrongKey, f_grown, f_frameDepth, f_frameThere, f_lastReason, f_valueDepth, f_objectCount, f_hasRun, f_begun, f_nowAt, f_endClass, (ar (mc_p g)), (ar (mc_e g)), (ar (mc_o g)), (mc_r g), (ar (mc_f g)), (ar (mc_t g)), (ar (mc_g g)), (ar (mc_k g)), a_placeKey, a_placeDepth, a_cameWith, a_ledWith, a_faults, a_found, a_hasFound, a_kept, a_hasMap, a_frame, a_kind, a_value, a_objectClass, a_objectReady) ((nI (mc_cc g)), (nI (mc_hc g)), yf_many, yf_there, yf_typed, yf_wrongNumber, yf_wrongPlace, yf_size, yf_why, yf_height, yf_objects, yf_line, yf_begun, yf_last, yf_end, (ar (mc_p g)), (ar (mc_e g)), (ar (mc_o g)), (mc_r g), (ar (mc_f g)), (ar (mc_t g)), (ar (mc_g g)), (ar (mc_k g)), ya_places, ya_heights, ya_gone, ya_worst, ya_frames, ya_maps, ya_high, ya_known, ya_mapped, ya_now, ya_sorts, ya_ints, ya_classes, ya_ready) := fun r => ⟨rfl, ⟨g, hG, ⟨rfl, rfl, rfl, rfl, rfl, rfl, rfl, rfl, rfl, rfl⟩, ⟨rfl, rfl, rfl, rfl, rfl, rfl, rfl, rfl, rfl, rfl⟩, hgr, hW, hwhy, hL, hR⟩⟩
  unfold wpX_wrong wpY_wrong
  dsimp only
  rcases hW with ⟨na, rfl⟩ | ⟨rfl, ⟨rfl, rfl, rfl⟩ | ⟨p, n, n0, n6, hp, rfl, rfl, rfl, rfl⟩⟩
  · exact br_f na (xb_m (done _))
  · refine br_t rfl (br_c (fun z => ?_) (fun z => xb_m' ?_))
    · subst z
      exact br_f (by decide) (br_f (by decide) (br_t (by decide) (br_t rfl (done _))))
    · exact br_f (by decide) (br_c (fun _ => done _) (fun _ => br_c (fun _ => br_f z (br_t rfl (done _))) (fun _ => done _)))
  · have hkx := md_kxlt p hp
    refine br_t rfl (br_c (fun z => ?_) (fun z => xb_n' (by omega) ?_))
    · subst z
      exact xb_n (by omega) (br_f (by decide) (br_t (by decide) (br_t rfl (done _))))
    · by_cases E : ∃ i, 1 ≤ i ∧ i ≤ 5 ∧ v1 = nI i
      · obtain ⟨i, i1, i5, rfl⟩ := E
        have yy : ∀ r, r = zt_v p i → ((nI n < 0 → (-1 : Int32) = r ∧ i_Rel (k + 5) ((nI (mc_cc g)), (nI (mc_hc g)), f_placeCount, f_tooMany, 1, (nI n), (nI (md_kx p)), f_grown, f_frameDepth, f_frameThere, f_lastReason, f_valueDepth, f_objectCount, f_hasRun, f_begun, f_nowAt, f_endClass, (ar (mc_p g)), (ar (mc_e g)), (ar (mc_o g)), (mc_r g), (ar (mc_f g)), (ar (mc_t g)), (ar (mc_g g)), (ar (mc_k g)), a_placeKey, a_placeDepth, a_cameWith, a_ledWith, a_faults, a_found, a_hasFound, a_kept, a_hasMap, a_frame, a_kind, a_value, a_objectClass, a_objectReady) ((nI (mc_cc g)), (nI (mc_hc g)), yf_many, yf_there, yf_typed, (nI n), (nI p), yf_size, yf_why, yf_height, yf_objects, yf_line, yf_begun, yf_last, yf_end, (ar (mc_p g)), (ar (mc_e g)), (ar (mc_o g)), (mc_r g), (ar (mc_f g)), (ar (mc_t g)), (ar (mc_g g)), (ar (mc_k g)), ya_places, ya_heights, ya_gone, ya_worst, ya_frames, ya_maps, ya_high, ya_known, ya_mapped, ya_now, ya_sorts, ya_ints, ya_classes, ya_ready)) ∧ (¬ nI n < 0 → ((nI i < 0 → (-1 : Int32) = r ∧ i_Rel (k + 5) ((nI (mc_cc g)), (nI (mc_hc g)), f_placeCount, f_tooMany, 1, (nI n), (nI (md_kx p)), f_grown, f_frameDepth, f_frameThere, f_lastReason, f_valueDepth, f_objectCount, f_hasRun, f_begun, f_nowAt, f_endClass, (ar (mc_p g)), (ar (mc_e g)), (ar (mc_o g)), (mc_r g), (ar (mc_f g)), (ar (mc_t g)), (ar (mc_g g)), (ar (mc_k g)), a_placeKey, a_placeDepth, a_cameWith, a_ledWith, a_faults, a_found, a_hasFound, a_kept, a_hasMap, a_frame, a_kind, a_value, a_objectClass, a_objectReady) ((nI (mc_cc g)), (nI (mc_hc g)), yf_many, yf_there, yf_typed, (nI n), (nI p), yf_size, yf_why, yf_height, yf_objects, yf_line, yf_begun, yf_last, yf_end, (ar (mc_p g)), (ar (mc_e g)), (ar (mc_o g)), (mc_r g), (ar (mc_f g)), (ar (mc_t g)), (ar (mc_g g)), (ar (mc_k g)), ya_places, ya_heights, ya_gone, ya_worst, ya_frames, ya_maps, ya_high, ya_known, ya_mapped, ya_now, ya_sorts, ya_ints, ya_classes, ya_ready)) ∧ (¬ nI i < 0 → ((nI i ≤ 5 → ((nI i = 0 → nI n = r ∧ i_Rel (k + 5) ((nI (mc_cc g)), (nI (mc_hc g)), f_placeCount, f_tooMany, 1, (nI n), (nI (md_kx p)), f_grown, f_frameDepth, f_frameThere, f_lastReason, f_valueDepth, f_objectCount, f_hasRun, f_begun, f_nowAt, f_endClass, (ar (mc_p g)), (ar (mc_e g)), (ar (mc_o g)), (mc_r g), (ar (mc_f g)), (ar (mc_t g)), (ar (mc_g g)), (ar (mc_k g)), a_placeKey, a_placeDepth, a_cameWith, a_ledWith, a_faults, a_found, a_hasFound, a_kept, a_hasMap, a_frame, a_kind, a_value, a_objectClass, a_objectReady) ((nI (mc_cc g)), (nI (mc_hc g)), yf_many, yf_there, yf_typed, (nI n), (nI p), yf_size, yf_why, yf_height, yf_objects, yf_line, yf_begun, yf_last, yf_end, (ar (mc_p g)), (ar (mc_e g)), (ar (mc_o g)), (mc_r g), (ar (mc_f g)), (ar (mc_t g)), (ar (mc_g g)), (ar (mc_k g)), ya_places, ya_heights, ya_gone, ya_worst, ya_frames, ya_maps, ya_high, ya_known, ya_mapped, ya_now, ya_sorts, ya_ints, ya_classes, ya_ready)) ∧ (¬ nI i = 0 → ((nI n = 7 → (-1 : Int32) = r ∧ i_Rel (k + 5) ((nI (mc_cc g)), (nI (mc_hc g)), f_placeCount, f_tooMany, 1, (nI n), (nI (md_kx p)), f_grown, f_frameDepth, f_frameThere, f_lastReason, f_valueDepth, f_objectCount, f_hasRun, f_begun, f_nowAt, f_endClass, (ar (mc_p g)), (ar (mc_e g)), (ar (mc_o g)), (mc_r g), (ar (mc_f g)), (ar (mc_t g)), (ar (mc_g g)), (ar (mc_k g)), a_placeKey, a_placeDepth, a_cameWith, a_ledWith, a_faults, a_found, a_hasFound, a_kept, a_hasMap, a_frame, a_kind, a_value, a_objectClass, a_objectReady) ((nI (mc_cc g)), (nI (mc_hc g)), yf_many, yf_there, yf_typed, (nI n), (nI p), yf_size, yf_why, yf_height, yf_objects, yf_line, yf_begun, yf_last, yf_end, (ar (mc_p g)), (ar (mc_e g)), (ar (mc_o g)), (mc_r g), (ar (mc_f g)), (ar (mc_t g)), (ar (mc_g g)), (ar (mc_k g)), ya_places, ya_heights, ya_gone, ya_worst, ya_frames, ya_maps, ya_high, ya_known, ya_mapped, ya_now, ya_sorts, ya_ints, ya_classes, ya_ready)) ∧ (¬ nI n = 7 → wpY_told (fun r_6 => r_6 = r ∧ i_Rel (k + 5) ((nI (mc_cc g)), (nI (mc_hc g)), f_placeCount, f_tooMany, 1, (nI n), (nI (md_kx p)), f_grown, f_frameDepth, f_frameThere, f_lastReason, f_valueDepth, f_objectCount, f_hasRun, f_begun, f_nowAt, f_endClass, (ar (mc_p g)), (ar (mc_e g)), (ar (mc_o g)), (mc_r g), (ar (mc_f g)), (ar (mc_t g)), (ar (mc_g g)), (ar (mc_k g)), a_placeKey, a_placeDepth, a_cameWith, a_ledWith, a_faults, a_found, a_hasFound, a_kept, a_hasMap, a_frame, a_kind, a_value, a_objectClass, a_objectReady) ((nI (mc_cc g)), (nI (mc_hc g)), yf_many, yf_there, yf_typed, (nI n), (nI p), yf_size, yf_why, yf_height, yf_objects, yf_line, yf_begun, yf_last, yf_end, (ar (mc_p g)), (ar (mc_e g)), (ar (mc_o g)), (mc_r g), (ar (mc_f g)), (ar (mc_t g)), (ar (mc_g g)), (ar (mc_k g)), ya_places, ya_heights, ya_gone, ya_worst, ya_frames, ya_maps, ya_high, ya_known, ya_mapped, ya_now, ya_sorts, ya_ints, ya_classes, ya_ready)) (nI p) (nI i)))))) ∧ (¬ nI i ≤ 5 → (-1 : Int32) = r ∧ i_Rel (k + 5) ((nI (mc_cc g)), (nI (mc_hc g)), f_placeCount, f_tooMany, 1, (nI n), (nI (md_kx p)), f_grown, f_frameDepth, f_frameThere, f_lastReason, f_valueDepth, f_objectCount, f_hasRun, f_begun, f_nowAt, f_endClass, (ar (mc_p g)), (ar (mc_e g)), (ar (mc_o g)), (mc_r g), (ar (mc_f g)), (ar (mc_t g)), (ar (mc_g g)), (ar (mc_k g)), a_placeKey, a_placeDepth, a_cameWith, a_ledWith, a_faults, a_found, a_hasFound, a_kept, a_hasMap, a_frame, a_kind, a_value, a_objectClass, a_objectReady) ((nI (mc_cc g)), (nI (mc_hc g)), yf_many, yf_there, yf_typed, (nI n), (nI p), yf_size, yf_why, yf_height, yf_objects, yf_line, yf_begun, yf_last, yf_end, (ar (mc_p g)), (ar (mc_e g)), (ar (mc_o g)), (mc_r g), (ar (mc_f g)), (ar (mc_t g)), (ar (mc_g g)), (ar (mc_k g)), ya_places, ya_heights, ya_gone, ya_worst, ya_frames, ya_maps, ya_high, ya_known, ya_mapped, ya_now, ya_sorts, ya_ints, ya_classes, ya_ready))))))) := by
          intro r er
          subst er
          exact xb_n (by omega) (xb_n (by omega) (pk_le i 5 (fun _ => pk_eq i 0 (fun w => by omega) (fun _ => pk_eq n 7 (fun w => by omega) (fun _ => yt_told hp i1 i5 (done _)))) (fun w => by omega)))
        refine pk_eq i 1 (fun c => ?_) (fun c => xt_co hp (by omega) i5 (yy _ rfl))
        subst c
        rw [xk_31 hkx, xk_i]
        exact yy _ rfl
      · refine br_c (fun c => absurd ⟨1, by omega, by omega, c⟩ E) (fun c => xt_out hp (fun ⟨i, h1, h2, h3⟩ => E ⟨i, by omega, h2, h3⟩) ?_)
        refine xb_n (by omega) (br_c (fun _ => done _) (fun a => br_c (fun b => ?_) (fun _ => done _)))
        obtain ⟨i, hi, rfl⟩ := zr_rng0 (hi := 6) a (zr_le (n := 5) b (by omega)) (by omega)
        by_cases w : i = 0
        · subst w; exact absurd rfl z
        · exact absurd ⟨i, by omega, by omega, rfl⟩ E
theorem i_vc_places {k : Nat} {u : SX} {v : SY} (I : i_Rel k u v) (hk : k + 5 ≤ 2560) : wpX_places (fun r => wpY_places (fun r' => r' = r ∧ i_Rel (k + 5) u v) v) u := by
  obtain ⟨f_codeCount, f_coverCount, f_placeCount, f_tooMany, f_layAnswer, f_wrongKind, f_wrongKey, f_grown, f_frameDepth, f_frameThere, f_lastReason, f_valueDepth, f_objectCount, f_hasRun, f_begun, f_nowAt, f_endClass, a_parent, a_entry, a_code, a_operand, a_coverFrom, a_coverTo, a_coverTarget, a_coverClass, a_placeKey, a_placeDepth, a_cameWith, a_ledWith, a_faults, a_found, a_hasFound, a_kept, a_hasMap, a_frame, a_kind, a_value, a_objectClass, a_objectReady⟩ := u
  obtain ⟨yf_length, yf_handlers, yf_many, yf_there, yf_typed, yf_wrongNumber, yf_wrongPlace, yf_size, yf_why, yf_height, yf_objects, yf_line, yf_begun, yf_last, yf_end, ya_parent, ya_begin, ya_op, ya_arg, ya_from, ya_to, ya_target, ya_caught, ya_places, ya_heights, ya_gone, ya_worst, ya_frames, ya_maps, ya_high, ya_known, ya_mapped, ya_now, ya_sorts, ya_ints, ya_classes, ya_ready⟩ := v
  obtain ⟨g, hG, ⟨rfl, rfl, rfl, rfl, rfl, rfl, rfl, rfl, rfl, rfl⟩, ⟨rfl, rfl, rfl, rfl, rfl, rfl, rfl, rfl, rfl, rfl⟩, hgr, hW, hwhy, hL, hR⟩ := I
  have done : ∀ r : Int32, r = r ∧ i_Rel (k + 5) ((nI (mc_cc g)), (nI (mc_hc g)), f_placeCount, f_tooMany, f_layAnswer, f_wrongKind, f_wrongKey, f_grown, f_frameDepth, f_frameThere, f_lastReason, f_valueDepth, f_objectCount, f_hasRun, f_begun, f_nowAt, f_endClass, (ar (mc_p g)), (ar (mc_e g)), (ar (mc_o g)), (mc_r g), (ar (mc_f g)), (ar (mc_t g)), (ar (mc_g g)), (ar (mc_k g)), a_placeKey, a_placeDepth, a_cameWith, a_ledWith, a_faults, a_found, a_hasFound, a_kept, a_hasMap, a_frame, a_kind, a_value, a_objectClass, a_objectReady) ((nI (mc_cc g)), (nI (mc_hc g)), yf_many, yf_there, yf_typed, yf_wrongNumber, yf_wrongPlace, yf_size, yf_why, yf_height, yf_objects, yf_line, yf_begun, yf_last, yf_end, (ar (mc_p g)), (ar (mc_e g)), (ar (mc_o g)), (mc_r g), (ar (mc_f g)), (ar (mc_t g)), (ar (mc_g g)), (ar (mc_k g)), ya_places, ya_heights, ya_gone, ya_worst, ya_frames, ya_maps, ya_high, ya_known, ya_mapped, ya_now, ya_sorts, ya_ints, ya_classes, ya_ready) := fun r => ⟨rfl, ⟨g, hG, ⟨rfl, rfl, rfl, rfl, rfl, rfl, rfl, rfl, rfl, rfl⟩, ⟨rfl, rfl, rfl, rfl, rfl, rfl, rfl, rfl, rfl, rfl⟩, hgr, hW, hwhy, hL, hR⟩⟩
  unfold wpX_places wpY_places
  dsimp only
  rcases hL with ⟨rfl, rfl⟩ | ⟨rfl, hM, ⟨m, P, D, kr, ql, qh, qm, qd, qk, qp, M, K, hY, rfl, rfl, rfl, rfl, rfl, rfl, rfl, rfl, rfl, rfl, hkr, hpl, hhi, hqm, hqd, hMp, hA, hB, K90, hty⟩⟩
  · exact xb_0 (done _)
  · exact xb_1 (done _)
theorem i_vc_place {k : Nat} {u : SX} {v : SY} (I : i_Rel k u v) (hk : k + 5 ≤ 2560) (v1 : Int32) (v2 : Int32) : wpX_place (fun r => wpY_place (fun r' => r' = r ∧ i_Rel (k + 5) u v) v v1 v2) u v1 v2 := by
  obtain ⟨f_codeCount, f_coverCount, f_placeCount, f_tooMany, f_layAnswer, f_wrongKind, f_wrongKey, f_grown, f_frameDepth, f_frameThere, f_lastReason, f_valueDepth, f_objectCount, f_hasRun, f_begun, f_nowAt, f_endClass, a_parent, a_entry, a_code, a_operand, a_coverFrom, a_coverTo, a_coverTarget, a_coverClass, a_placeKey, a_placeDepth, a_cameWith, a_ledWith, a_faults, a_found, a_hasFound, a_kept, a_hasMap, a_frame, a_kind, a_value, a_objectClass, a_objectReady⟩ := u
  obtain ⟨yf_length, yf_handlers, yf_many, yf_there, yf_typed, yf_wrongNumber, yf_wrongPlace, yf_size, yf_why, yf_height, yf_objects, yf_line, yf_begun, yf_last, yf_end, ya_parent, ya_begin, ya_op, ya_arg, ya_from, ya_to, ya_target, ya_caught, ya_places, ya_heights, ya_gone, ya_worst, ya_frames, ya_maps, ya_high, ya_known, ya_mapped, ya_now, ya_sorts, ya_ints, ya_classes, ya_ready⟩ := v
  obtain ⟨g, hG, ⟨rfl, rfl, rfl, rfl, rfl, rfl, rfl, rfl, rfl, rfl⟩, ⟨rfl, rfl, rfl, rfl, rfl, rfl, rfl, rfl, rfl, rfl⟩, hgr, hW, hwhy, hL, hR⟩ := I
  have done : ∀ r : Int32, r = r ∧ i_Rel (k + 5) ((nI (mc_cc g)), (nI (mc_hc g)), f_placeCount, f_tooMany, f_layAnswer, f_wrongKind, f_wrongKey, f_grown, f_frameDepth, f_frameThere, f_lastReason, f_valueDepth, f_objectCount, f_hasRun, f_begun, f_nowAt, f_endClass, (ar (mc_p g)), (ar (mc_e g)), (ar (mc_o g)), (mc_r g), (ar (mc_f g)), (ar (mc_t g)), (ar (mc_g g)), (ar (mc_k g)), a_placeKey, a_placeDepth, a_cameWith, a_ledWith, a_faults, a_found, a_hasFound, a_kept, a_hasMap, a_frame, a_kind, a_value, a_objectClass, a_objectReady) ((nI (mc_cc g)), (nI (mc_hc g)), yf_many, yf_there, yf_typed, yf_wrongNumber, yf_wrongPlace, yf_size, yf_why, yf_height, yf_objects, yf_line, yf_begun, yf_last, yf_end, (ar (mc_p g)), (ar (mc_e g)), (ar (mc_o g)), (mc_r g), (ar (mc_f g)), (ar (mc_t g)), (ar (mc_g g)), (ar (mc_k g)), ya_places, ya_heights, ya_gone, ya_worst, ya_frames, ya_maps, ya_high, ya_known, ya_mapped, ya_now, ya_sorts, ya_ints, ya_classes, ya_ready) := fun r => ⟨rfl, ⟨g, hG, ⟨rfl, rfl, rfl, rfl, rfl, rfl, rfl, rfl, rfl, rfl⟩, ⟨rfl, rfl, rfl, rfl, rfl, rfl, rfl, rfl, rfl, rfl⟩, hgr, hW, hwhy, hL, hR⟩⟩
  unfold wpX_place
  dsimp only
  rcases hL with ⟨rfl, rfl⟩ | ⟨rfl, hM, ⟨m, P, D, kr, ql, qh, qm, qd, qk, qp, M, K, hY, rfl, rfl, rfl, rfl, rfl, rfl, rfl, rfl, rfl, rfl, hkr, hpl, hhi, hqm, hqd, hMp, hA, hB, K90, hty⟩⟩
  · have y : wpY_place (fun r' => r' = -1 ∧ i_Rel (k + 5) ((nI (mc_cc g)), (nI (mc_hc g)), 0, f_tooMany, f_layAnswer, f_wrongKind, f_wrongKey, f_grown, f_frameDepth, f_frameThere, f_lastReason, f_valueDepth, f_objectCount, f_hasRun, f_begun, f_nowAt, f_endClass, (ar (mc_p g)), (ar (mc_e g)), (ar (mc_o g)), (mc_r g), (ar (mc_f g)), (ar (mc_t g)), (ar (mc_g g)), (ar (mc_k g)), a_placeKey, a_placeDepth, a_cameWith, a_ledWith, a_faults, a_found, a_hasFound, a_kept, a_hasMap, a_frame, a_kind, a_value, a_objectClass, a_objectReady) ((nI (mc_cc g)), (nI (mc_hc g)), yf_many, 0, yf_typed, yf_wrongNumber, yf_wrongPlace, yf_size, yf_why, yf_height, yf_objects, yf_line, yf_begun, yf_last, yf_end, (ar (mc_p g)), (ar (mc_e g)), (ar (mc_o g)), (mc_r g), (ar (mc_f g)), (ar (mc_t g)), (ar (mc_g g)), (ar (mc_k g)), ya_places, ya_heights, ya_gone, ya_worst, ya_frames, ya_maps, ya_high, ya_known, ya_mapped, ya_now, ya_sorts, ya_ints, ya_classes, ya_ready)) ((nI (mc_cc g)), (nI (mc_hc g)), yf_many, 0, yf_typed, yf_wrongNumber, yf_wrongPlace, yf_size, yf_why, yf_height, yf_objects, yf_line, yf_begun, yf_last, yf_end, (ar (mc_p g)), (ar (mc_e g)), (ar (mc_o g)), (mc_r g), (ar (mc_f g)), (ar (mc_t g)), (ar (mc_g g)), (ar (mc_k g)), ya_places, ya_heights, ya_gone, ya_worst, ya_frames, ya_maps, ya_high, ya_known, ya_mapped, ya_now, ya_sorts, ya_ints, ya_classes, ya_ready) v1 v2 := by
      unfold wpY_place; dsimp only; exact xb_0 (done _)
    refine br_c (fun _ => y) (fun a => br_c (fun b => absurd b a) (fun _ => y))
  · have hm := hY.1
    have hcc := hG.1
    by_cases E : ∃ i, i < m ∧ v1 = nI i
    · obtain ⟨i, hi, rfl⟩ := E
      have pl := md_Vlt hcc (mg_V hG hM hY hi)
      have hkx := md_kxlt _ pl
      have hD := mg_D hG hM hY hi
      have il := md_Vi hcc (mg_V hG hM hY hi)
      -- the reference, within
      have yin : ∀ {post : Int32 → Prop} (w : Nat), w < 7 → (w = 6 → post (nI (M i).toNat)) → (w = 1 → post (nI (D i))) → (w = 0 → post (zt_v (P i) 1)) → (2 ≤ w → w ≤ 5 → post (zt_v (P i) w)) → wpY_place post ((nI (mc_cc g)), (nI (mc_hc g)), (nI m), 1, yf_typed, yf_wrongNumber, yf_wrongPlace, yf_size, yf_why, yf_height, yf_objects, yf_line, yf_begun, yf_last, yf_end, (ar (mc_p g)), (ar (mc_e g)), (ar (mc_o g)), (mc_r g), (ar (mc_f g)), (ar (mc_t g)), (ar (mc_g g)), (ar (mc_k g)), (ar ql), ya_heights, ya_gone, ya_worst, ya_frames, (ar qp), (ar qh), ya_known, (ar qd), ya_now, ya_sorts, ya_ints, ya_classes, ya_ready) (nI i) (nI w) := by
        intro post w hw h6 h1 h0 h2
        unfold wpY_place
        dsimp only
        refine xb_1 (ya_in (by omega) (fun _ _ _ => xb_1 (ya_in (n := 7) (by omega) (fun _ _ _ => xb_1 ?_) (fun z => absurd ⟨w, hw, rfl⟩ z))) (fun z => absurd ⟨i, hi, rfl⟩ z))
        rw [ar_at qd (by omega), ar_at ql (by omega), ar_at qh (by omega), hqd i hi, hpl i hi, hhi i hi]
        refine pk_eq w 6 (fun c => ⟨vp_in_nI (by omega) (by omega), ?_⟩) (fun c6 => pk_eq w 0 (fun c => ⟨vp_in_nI (by omega) (by omega), yt_told (i := 1) pl (by omega) (by omega) (h0 c)⟩) (fun c0 => pk_eq w 1 (fun c => ⟨vp_in_nI (by omega) (by omega), h1 c⟩) (fun c1 => ⟨vp_in_nI (by omega) (by omega), yt_told pl (by omega) (by omega) (h2 (by omega) (by omega))⟩)))
        have := h6 c
        cases eM : M i with
        | false => rw [eM] at this; exact xb_0 this
        | true => rw [eM] at this; exact xb_1 this
      refine xb_n (by omega) (pk_lt i m (fun _ => ?_) (fun z => by omega))
      have ek : ar kr (nI i).toNatClampNeg = nI (md_kx (P i)) := by rw [ar_at _ (by omega), hkr i hi]
      have em : ar qm (nI i).toNatClampNeg = nI (M i).toNat := by rw [ar_at _ (by omega), hqm i hi]
      have ed : ar D (nI i).toNatClampNeg = nI (D i) := ar_at _ (by omega)
      rw [ek, em, ed]
      by_cases F : ∃ w, w < 7 ∧ v2 = nI w
      · obtain ⟨w, hw, rfl⟩ := F
        refine pk_eq w 0 (fun c => ⟨vp_in_nI (by omega) (by omega), ?_⟩) (fun c0 => pk_eq w 1 (fun c => ⟨vp_in_nI (by omega) (by omega), ?_⟩) (fun c1 => pk_eq w 6 (fun c => ⟨vp_in_nI (by omega) (by omega), ?_⟩) (fun c6 => ⟨vp_in_nI (by omega) (by omega), ?_⟩)))
        · rw [xk_31 hkx, xk_i]
          exact yin w hw (fun z => by omega) (fun z => by omega) (fun _ => done _) (fun z => by omega)
        · exact yin w hw (fun z => by omega) (fun _ => done _) (fun z => by omega) (fun z => by omega)
        · cases eM : M i with
          | false => exact xb_0 (yin w hw (fun _ => by rw [eM]; exact done _) (fun z => by omega) (fun z => by omega) (fun z => by omega))
          | true => exact xb_1 (yin w hw (fun _ => by rw [eM]; exact done _) (fun z => by omega) (fun z => by omega) (fun z => by omega))
        · exact xt_co pl (by omega) (by omega) (yin w hw (fun z => by omega) (fun z => by omega) (fun z => by omega) (fun _ _ => done _))
      · have y : wpY_place (fun r' => r' = -1 ∧ i_Rel (k + 5) ((nI (mc_cc g)), (nI (mc_hc g)), (nI m), f_tooMany, f_layAnswer, f_wrongKind, f_wrongKey, f_grown, f_frameDepth, f_frameThere, f_lastReason, f_valueDepth, f_objectCount, f_hasRun, f_begun, f_nowAt, f_endClass, (ar (mc_p g)), (ar (mc_e g)), (ar (mc_o g)), (mc_r g), (ar (mc_f g)), (ar (mc_t g)), (ar (mc_g g)), (ar (mc_k g)), (ar kr), (ar D), a_cameWith, a_ledWith, a_faults, a_found, a_hasFound, (ar qk), (ar qm), a_frame, a_kind, a_value, a_objectClass, a_objectReady) ((nI (mc_cc g)), (nI (mc_hc g)), (nI m), 1, yf_typed, yf_wrongNumber, yf_wrongPlace, yf_size, yf_why, yf_height, yf_objects, yf_line, yf_begun, yf_last, yf_end, (ar (mc_p g)), (ar (mc_e g)), (ar (mc_o g)), (mc_r g), (ar (mc_f g)), (ar (mc_t g)), (ar (mc_g g)), (ar (mc_k g)), (ar ql), ya_heights, ya_gone, ya_worst, ya_frames, (ar qp), (ar qh), ya_known, (ar qd), ya_now, ya_sorts, ya_ints, ya_classes, ya_ready)) ((nI (mc_cc g)), (nI (mc_hc g)), (nI m), 1, yf_typed, yf_wrongNumber, yf_wrongPlace, yf_size, yf_why, yf_height, yf_objects, yf_line, yf_begun, yf_last, yf_end, (ar (mc_p g)), (ar (mc_e g)), (ar (mc_o g)), (mc_r g), (ar (mc_f g)), (ar (mc_t g)), (ar (mc_g g)), (ar (mc_k g)), (ar ql), ya_heights, ya_gone, ya_worst, ya_frames, (ar qp), (ar qh), ya_known, (ar qd), ya_now, ya_sorts, ya_ints, ya_classes, ya_ready) (nI i) v2 := by
          unfold wpY_place
          dsimp only
          exact xb_1 (ya_in (by omega) (fun _ _ _ => xb_1 (ya_in (n := 7) (by omega) (fun w hw e => absurd ⟨w, hw, e⟩ F) (fun _ => xb_0 (done _)))) (fun z => absurd ⟨i, hi, rfl⟩ z))
        refine br_c (fun c => absurd ⟨0, by omega, c⟩ F) (fun c0 => br_c (fun c => absurd ⟨1, by omega, c⟩ F) (fun c1 => br_c (fun c => absurd ⟨6, by omega, c⟩ F) (fun c6 => ⟨vp_in_nI (by omega) (by omega), xt_out pl (fun ⟨j, h1, h2, h3⟩ => F ⟨j, by omega, h3⟩) y⟩)))
    · have y : wpY_place (fun r' => r' = -1 ∧ i_Rel (k + 5) ((nI (mc_cc g)), (nI (mc_hc g)), (nI m), f_tooMany, f_layAnswer, f_wrongKind, f_wrongKey, f_grown, f_frameDepth, f_frameThere, f_lastReason, f_valueDepth, f_objectCount, f_hasRun, f_begun, f_nowAt, f_endClass, (ar (mc_p g)), (ar (mc_e g)), (ar (mc_o g)), (mc_r g), (ar (mc_f g)), (ar (mc_t g)), (ar (mc_g g)), (ar (mc_k g)), (ar kr), (ar D), a_cameWith, a_ledWith, a_faults, a_found, a_hasFound, (ar qk), (ar qm), a_frame, a_kind, a_value, a_objectClass, a_objectReady) ((nI (mc_cc g)), (nI (mc_hc g)), (nI m), 1, yf_typed, yf_wrongNumber, yf_wrongPlace, yf_size, yf_why, yf_height, yf_objects, yf_line, yf_begun, yf_last, yf_end, (ar (mc_p g)), (ar (mc_e g)), (ar (mc_o g)), (mc_r g), (ar (mc_f g)), (ar (mc_t g)), (ar (mc_g g)), (ar (mc_k g)), (ar ql), ya_heights, ya_gone, ya_worst, ya_frames, (ar qp), (ar qh), ya_known, (ar qd), ya_now, ya_sorts, ya_ints, ya_classes, ya_ready)) ((nI (mc_cc g)), (nI (mc_hc g)), (nI m), 1, yf_typed, yf_wrongNumber, yf_wrongPlace, yf_size, yf_why, yf_height, yf_objects, yf_line, yf_begun, yf_last, yf_end, (ar (mc_p g)), (ar (mc_e g)), (ar (mc_o g)), (mc_r g), (ar (mc_f g)), (ar (mc_t g)), (ar (mc_g g)), (ar (mc_k g)), (ar ql), ya_heights, ya_gone, ya_worst, ya_frames, (ar qp), (ar qh), ya_known, (ar qd), ya_now, ya_sorts, ya_ints, ya_classes, ya_ready) v1 v2 := by
        unfold wpY_place
        dsimp only
        exact xb_1 (ya_in (by omega) (fun j hj e => absurd ⟨j, hj, e⟩ E) (fun _ => xb_0 (done _)))
      refine br_c (fun _ => y) (fun a => br_c (fun b => ?_) (fun _ => y))
      obtain ⟨j, hj, e⟩ := zr_rng0 a b (by omega)
      exact absurd ⟨j, hj, e⟩ E
end
