/-! ===== type, map, alter, reason, ended, held ===== -/
section
variable {f_codeCount f_coverCount f_placeCount f_tooMany f_layAnswer f_wrongKind f_wrongKey f_grown f_frameDepth f_frameThere f_lastReason f_valueDepth f_objectCount f_hasRun f_begun f_nowAt f_endClass : Int32} {a_parent a_entry a_code a_operand a_coverFrom a_coverTo a_coverTarget a_coverClass a_placeKey a_placeDepth a_cameWith a_ledWith a_faults a_found a_hasFound a_kept a_hasMap a_frame a_kind a_value a_objectClass a_objectReady : Nat → Int32}
theorem xa_slot {post : Int32 → Prop} {m : Nat} {D : Nat → Nat} {x y : Int32} (hm : m ≤ 40) (hD : ∀ i, i < m → D i ≤ 6) (h1 : ∀ i s, i < m → s < 4 + D i → x = nI i → y = nI s → post 1) (h0 : ¬ (∃ i s, i < m ∧ s < 4 + D i ∧ x = nI i ∧ y = nI s) → post 0) : wpX_isSlot post (f_codeCount, f_coverCount, (nI m), f_tooMany, f_layAnswer, f_wrongKind, f_wrongKey, f_grown, f_frameDepth, f_frameThere, f_lastReason, f_valueDepth, f_objectCount, f_hasRun, f_begun, f_nowAt, f_endClass, a_parent, a_entry, a_code, a_operand, a_coverFrom, a_coverTo, a_coverTarget, a_coverClass, a_placeKey, (ar D), a_cameWith, a_ledWith, a_faults, a_found, a_hasFound, a_kept, a_hasMap, a_frame, a_kind, a_value, a_objectClass, a_objectReady) x y := by
  unfold wpX_isSlot
  dsimp only
  refine br_c (fun a => h0 ?_) (fun a => br_c (fun b => h0 ?_) (fun b => br_c (fun c => h0 ?_) (fun c => ?_)))
  · rintro ⟨i, s, hi, hs, rfl, rfl⟩; exact nI_pos (by omega) a
  · rintro ⟨i, s, hi, hs, rfl, rfl⟩
    rw [nI_leI (by omega) (by omega)] at b; omega
  · rintro ⟨i, s, hi, hs, rfl, rfl⟩
    have := hD i hi
    exact nI_pos (by omega) c
  · obtain ⟨i, hi, rfl⟩ := zr_rng0 a (Int32.not_le.mp b) (by omega)
    have := hD i hi
    have e : (4 : Int32) + ar D (nI i).toNatClampNeg = nI (4 + D i) := by
      rw [ar_at _ (by omega)]; exact nI_add 4 _
    rw [e]
    refine ⟨vp_in_nI (by omega) (by omega), br_c (fun d => h0 ?_) (fun d => ?_)⟩
    · rintro ⟨j, s, hj, hs, ej, rfl⟩
      have : i = j := (nI_eq (by omega) (by omega)).mp ej
      subst this
      rw [nI_leI (by omega) (by omega)] at d; omega
    · obtain ⟨s, hs, rfl⟩ := zr_rng0 c (Int32.not_le.mp d) (by omega)
      exact h1 i s hi hs rfl rfl
end
section
variable {f_length f_handlers f_many f_there f_typed f_wrongNumber f_wrongPlace f_size f_why f_height f_objects f_line f_begun f_last f_end : Int32} {a_parent a_begin a_op a_arg a_from a_to a_target a_caught a_places a_heights a_gone a_worst a_frames a_maps a_high a_known a_mapped a_now a_sorts a_ints a_classes a_ready : Nat → Int32}
theorem ya_isIn {post : Int32 → Prop} {g : md_C} {m : Nat} {P D ql qh qd : Nat → Nat} {M : Nat → Bool} {x y : Int32} (hm : m ≤ 40) (hD : ∀ i, i < m → D i ≤ 6) (hhi : ∀ k, k < m → qh k = D k) (hqd : ∀ k, k < m → qd k = (M k).toNat) (h1 : ∀ i s, i < m → M i = true → s < 4 + D i → x = nI i → y = nI s → post 1) (h0 : ¬ (∃ i s, i < m ∧ M i = true ∧ s < 4 + D i ∧ x = nI i ∧ y = nI s) → post 0) : wpY_isIn post (f_length, f_handlers, (nI m), 1, f_typed, f_wrongNumber, f_wrongPlace, f_size, f_why, f_height, f_objects, f_line, f_begun, f_last, f_end, a_parent, a_begin, a_op, a_arg, a_from, a_to, a_target, a_caught, a_places, a_heights, a_gone, a_worst, a_frames, a_maps, (ar qh), a_known, (ar qd), a_now, a_sorts, a_ints, a_classes, a_ready) x y := by
  unfold wpY_isIn
  dsimp only
  refine xb_1 (ya_in (by omega) (fun i hi ei => xb_1 ?_) (fun z => xb_0 (h0 (fun ⟨i, s, hi, _, _, e, _⟩ => z ⟨i, hi, e⟩))))
  subst ei
  have := hD i hi
  rw [ar_at qd (by omega), hqd i hi]
  have e : (4 : Int32) + ar qh (nI i).toNatClampNeg = nI (4 + D i) := by
    rw [ar_at _ (by omega), hhi i hi]; exact nI_add 4 _
  rw [e]
  have inj : ∀ j, j < m → nI i = nI j → i = j := fun j hj z => (nI_eq (by omega) (by omega)).mp z
  refine ⟨vp_in_nI (by omega) (by omega), ?_⟩
  cases eM : M i with
  | false =>
    refine xb_0 (h0 ?_)
    rintro ⟨j, s, hj, hMj, _, ej, _⟩
    have := inj j hj ej
    subst this; rw [eM] at hMj; cases hMj
  | true =>
    refine xb_1 ⟨vp_in_nI (by omega) (by omega), ya_in (by omega) (fun s hs es => xb_1 (h1 i s hi eM hs rfl es)) (fun z => xb_0 (h0 ?_))⟩
    rintro ⟨j, s, hj, _, hs, ej, es⟩
    have := inj j hj ej
    subst this; exact z ⟨s, hs, es⟩
end
section
theorem i_vc_type {k : Nat} {u : SX} {v : SY} (I : i_Rel k u v) (hk : k + 5 ≤ 2560) (v1 : Int32) (v2 : Int32) : wpX_type (fun r => wpY_type (fun r' => r' = r ∧ i_Rel (k + 5) u v) v v1 v2) u v1 v2 := by
  obtain ⟨f_codeCount, f_coverCount, f_placeCount, f_tooMany, f_layAnswer, f_wrongKind, f_wrongKey, f_grown, f_frameDepth, f_frameThere, f_lastReason, f_valueDepth, f_objectCount, f_hasRun, f_begun, f_nowAt, f_endClass, a_parent, a_entry, a_code, a_operand, a_coverFrom, a_coverTo, a_coverTarget, a_coverClass, a_placeKey, a_placeDepth, a_cameWith, a_ledWith, a_faults, a_found, a_hasFound, a_kept, a_hasMap, a_frame, a_kind, a_value, a_objectClass, a_objectReady⟩ := u
  obtain ⟨yf_length, yf_handlers, yf_many, yf_there, yf_typed, yf_wrongNumber, yf_wrongPlace, yf_size, yf_why, yf_height, yf_objects, yf_line, yf_begun, yf_last, yf_end, ya_parent, ya_begin, ya_op, ya_arg, ya_from, ya_to, ya_target, ya_caught, ya_places, ya_heights, ya_gone, ya_worst, ya_frames, ya_maps, ya_high, ya_known, ya_mapped, ya_now, ya_sorts, ya_ints, ya_classes, ya_ready⟩ := v
  obtain ⟨g, hG, ⟨rfl, rfl, rfl, rfl, rfl, rfl, rfl, rfl, rfl, rfl⟩, ⟨rfl, rfl, rfl, rfl, rfl, rfl, rfl, rfl, rfl, rfl⟩, hgr, hW, hwhy, hL, hR⟩ := I
  have done : ∀ r : Int32, r = r ∧ i_Rel (k + 5) ((nI (mc_cc g)), (nI (mc_hc g)), f_placeCount, f_tooMany, f_layAnswer, f_wrongKind, f_wrongKey, f_grown, f_frameDepth, f_frameThere, f_lastReason, f_valueDepth, f_objectCount, f_hasRun, f_begun, f_nowAt, f_endClass, (ar (mc_p g)), (ar (mc_e g)), (ar (mc_o g)), (mc_r g), (ar (mc_f g)), (ar (mc_t g)), (ar (mc_g g)), (ar (mc_k g)), a_placeKey, a_placeDepth, a_cameWith, a_ledWith, a_faults, a_found, a_hasFound, a_kept, a_hasMap, a_frame, a_kind, a_value, a_objectClass, a_objectReady) ((nI (mc_cc g)), (nI (mc_hc g)), yf_many, yf_there, yf_typed, yf_wrongNumber, yf_wrongPlace, yf_size, yf_why, yf_height, yf_objects, yf_line, yf_begun, yf_last, yf_end, (ar (mc_p g)), (ar (mc_e g)), (ar (mc_o g)), (mc_r g), (ar (mc_f g)), (ar (mc_t g)), (ar (mc_g g)), (ar (mc_k g)), ya_places, ya_heights, ya_gone, ya_worst, ya_frames, ya_maps, ya_high, ya_known, ya_mapped, ya_now, ya_sorts, ya_ints, ya_classes, ya_ready) := fun r => ⟨rfl, ⟨g, hG, ⟨rfl, rfl, rfl, rfl, rfl, rfl, rfl, rfl, rfl, rfl⟩, ⟨rfl, rfl, rfl, rfl, rfl, rfl, rfl, rfl, rfl, rfl⟩, hgr, hW, hwhy, hL, hR⟩⟩
  unfold wpX_type
  dsimp only
  rcases hL with ⟨rfl, rfl⟩ | ⟨rfl, hM, ⟨m, P, D, kr, ql, qh, qm, qd, qk, qp, M, K, hY, rfl, rfl, rfl, rfl, rfl, rfl, rfl, rfl, rfl, rfl, hkr, hpl, hhi, hqm, hqd, hMp, hA, hB, K90, hty⟩⟩
  · have y : wpY_type (fun r' => r' = -1 ∧ i_Rel (k + 5) ((nI (mc_cc g)), (nI (mc_hc g)), 0, f_tooMany, f_layAnswer, f_wrongKind, f_wrongKey, f_grown, f_frameDepth, f_frameThere, f_lastReason, f_valueDepth, f_objectCount, f_hasRun, f_begun, f_nowAt, f_endClass, (ar (mc_p g)), (ar (mc_e g)), (ar (mc_o g)), (mc_r g), (ar (mc_f g)), (ar (mc_t g)), (ar (mc_g g)), (ar (mc_k g)), a_placeKey, a_placeDepth, a_cameWith, a_ledWith, a_faults, a_found, a_hasFound, a_kept, a_hasMap, a_frame, a_kind, a_value, a_objectClass, a_objectReady) ((nI (mc_cc g)), (nI (mc_hc g)), yf_many, 0, yf_typed, yf_wrongNumber, yf_wrongPlace, yf_size, yf_why, yf_height, yf_objects, yf_line, yf_begun, yf_last, yf_end, (ar (mc_p g)), (ar (mc_e g)), (ar (mc_o g)), (mc_r g), (ar (mc_f g)), (ar (mc_t g)), (ar (mc_g g)), (ar (mc_k g)), ya_places, ya_heights, ya_gone, ya_worst, ya_frames, ya_maps, ya_high, ya_known, ya_mapped, ya_now, ya_sorts, ya_ints, ya_classes, ya_ready)) ((nI (mc_cc g)), (nI (mc_hc g)), yf_many, 0, yf_typed, yf_wrongNumber, yf_wrongPlace, yf_size, yf_why, yf_height, yf_objects, yf_line, yf_begun, yf_last, yf_end, (ar (mc_p g)), (ar (mc_e g)), (ar (mc_o g)), (mc_r g), (ar (mc_f g)), (ar (mc_t g)), (ar (mc_g g)), (ar (mc_k g)), ya_places, ya_heights, ya_gone, ya_worst, ya_frames, ya_maps, ya_high, ya_known, ya_mapped, ya_now, ya_sorts, ya_ints, ya_classes, ya_ready) v1 v2 := by
      unfold wpY_type; dsimp only; exact xb_0 (done _)
    refine br_c (fun _ => ?_) (fun _ => y)
    obtain ⟨D, rfl⟩ := ar_ex a_placeDepth
    exact xa_slot (m := 0) (by omega) (fun i hi => by omega) (fun i s hi => by omega) (fun _ => xb_0 y)
  · have hm := hY.1
    have hDs : ∀ i, i < m → D i ≤ 6 := fun i hi => mg_D hG hM hY hi
    rcases hty with ⟨rfl, rfl, qf, qe, T, rfl, rfl, hF, hE⟩ | ⟨nla, rfl⟩
    · refine br_t rfl ?_
      refine xa_slot hm hDs (fun i s hi hs e1 e2 => xb_1 ?_) (fun z => xb_0 ?_)
      · subst e1 e2
        have := hDs i hi
        have ei : nI i * 10 + nI s = nI (10 * i + s) := by
          show nI i * nI 10 + nI s = _
          rw [pk_mul, nI_add, Nat.mul_comm]
        have ej : (10 : Int32) * nI i + nI s = nI (10 * i + s) := by
          show nI 10 * nI i + nI s = _
          rw [pk_mul, nI_add]
        rw [ei, ar_at _ (by omega), hF i hi s hs]
        refine ⟨vp_in_nI (by omega) (by omega), ?_⟩
        unfold wpY_type
        dsimp only
        refine xb_1 (xb_1 (ya_in (by omega) (fun _ _ _ => xb_1 ⟨vp_in_nI (by omega) (by omega), ?_⟩) (fun z => absurd ⟨i, hi, rfl⟩ z)))
        have e : (4 : Int32) + ar qh (nI i).toNatClampNeg = nI (4 + D i) := by
          rw [ar_at _ (by omega), hhi i hi]; exact nI_add 4 _
        rw [e]
        refine ya_in (by omega) (fun _ _ _ => xb_1 ?_) (fun z => absurd ⟨s, hs, rfl⟩ z)
        rw [ej, ar_at qe (by omega), hE i hi s hs]
        exact ⟨vp_in_nI (by omega) (by omega), done _⟩
      · unfold wpY_type
        dsimp only
        refine xb_1 (xb_1 (ya_in (by omega) (fun i hi e1 => xb_1 ?_) (fun _ => xb_0 (done _))))
        subst e1
        have := hDs i hi
        have e : (4 : Int32) + ar qh (nI i).toNatClampNeg = nI (4 + D i) := by
          rw [ar_at _ (by omega), hhi i hi]; exact nI_add 4 _
        rw [e]
        exact ⟨vp_in_nI (by omega) (by omega), ya_in (by omega) (fun s hs e2 => absurd ⟨i, s, hi, hs, rfl, e2⟩ z) (fun _ => xb_0 (done _))⟩
    · refine br_f nla ?_
      unfold wpY_type
      dsimp only
      exact xb_1 (xb_0 (done _))
theorem i_vc_map {k : Nat} {u : SX} {v : SY} (I : i_Rel k u v) (hk : k + 5 ≤ 2560) (v1 : Int32) (v2 : Int32) : wpX_map (fun r => wpY_map (fun r' => r' = r ∧ i_Rel (k + 5) u v) v v1 v2) u v1 v2 := by
  obtain ⟨f_codeCount, f_coverCount, f_placeCount, f_tooMany, f_layAnswer, f_wrongKind, f_wrongKey, f_grown, f_frameDepth, f_frameThere, f_lastReason, f_valueDepth, f_objectCount, f_hasRun, f_begun, f_nowAt, f_endClass, a_parent, a_entry, a_code, a_operand, a_coverFrom, a_coverTo, a_coverTarget, a_coverClass, a_placeKey, a_placeDepth, a_cameWith, a_ledWith, a_faults, a_found, a_hasFound, a_kept, a_hasMap, a_frame, a_kind, a_value, a_objectClass, a_objectReady⟩ := u
  obtain ⟨yf_length, yf_handlers, yf_many, yf_there, yf_typed, yf_wrongNumber, yf_wrongPlace, yf_size, yf_why, yf_height, yf_objects, yf_line, yf_begun, yf_last, yf_end, ya_parent, ya_begin, ya_op, ya_arg, ya_from, ya_to, ya_target, ya_caught, ya_places, ya_heights, ya_gone, ya_worst, ya_frames, ya_maps, ya_high, ya_known, ya_mapped, ya_now, ya_sorts, ya_ints, ya_classes, ya_ready⟩ := v
  obtain ⟨g, hG, ⟨rfl, rfl, rfl, rfl, rfl, rfl, rfl, rfl, rfl, rfl⟩, ⟨rfl, rfl, rfl, rfl, rfl, rfl, rfl, rfl, rfl, rfl⟩, hgr, hW, hwhy, hL, hR⟩ := I
  have done : ∀ r : Int32, r = r ∧ i_Rel (k + 5) ((nI (mc_cc g)), (nI (mc_hc g)), f_placeCount, f_tooMany, f_layAnswer, f_wrongKind, f_wrongKey, f_grown, f_frameDepth, f_frameThere, f_lastReason, f_valueDepth, f_objectCount, f_hasRun, f_begun, f_nowAt, f_endClass, (ar (mc_p g)), (ar (mc_e g)), (ar (mc_o g)), (mc_r g), (ar (mc_f g)), (ar (mc_t g)), (ar (mc_g g)), (ar (mc_k g)), a_placeKey, a_placeDepth, a_cameWith, a_ledWith, a_faults, a_found, a_hasFound, a_kept, a_hasMap, a_frame, a_kind, a_value, a_objectClass, a_objectReady) ((nI (mc_cc g)), (nI (mc_hc g)), yf_many, yf_there, yf_typed, yf_wrongNumber, yf_wrongPlace, yf_size, yf_why, yf_height, yf_objects, yf_line, yf_begun, yf_last, yf_end, (ar (mc_p g)), (ar (mc_e g)), (ar (mc_o g)), (mc_r g), (ar (mc_f g)), (ar (mc_t g)), (ar (mc_g g)), (ar (mc_k g)), ya_places, ya_heights, ya_gone, ya_worst, ya_frames, ya_maps, ya_high, ya_known, ya_mapped, ya_now, ya_sorts, ya_ints, ya_classes, ya_ready) := fun r => ⟨rfl, ⟨g, hG, ⟨rfl, rfl, rfl, rfl, rfl, rfl, rfl, rfl, rfl, rfl⟩, ⟨rfl, rfl, rfl, rfl, rfl, rfl, rfl, rfl, rfl, rfl⟩, hgr, hW, hwhy, hL, hR⟩⟩
  unfold wpX_map
  dsimp only
  rcases hL with ⟨rfl, rfl⟩ | ⟨rfl, hM, ⟨m, P, D, kr, ql, qh, qm, qd, qk, qp, M, K, hY, rfl, rfl, rfl, rfl, rfl, rfl, rfl, rfl, rfl, rfl, hkr, hpl, hhi, hqm, hqd, hMp, hA, hB, K90, hty⟩⟩
  · obtain ⟨D, rfl⟩ := ar_ex a_placeDepth
    refine xa_slot (m := 0) (by omega) (fun i hi => by omega) (fun i s hi => by omega) (fun _ => xb_0 ?_)
    unfold wpY_map wpY_isIn; dsimp only; exact xb_0 (xb_0 (done _))
  · have hm := hY.1
    have hDs : ∀ i, i < m → D i ≤ 6 := fun i hi => mg_D hG hM hY hi
    refine xa_slot hm hDs (fun i s hi hs e1 e2 => xb_1 ?_) (fun z => xb_0 ?_)
    · subst e1 e2
      have := hDs i hi
      have ei : nI i * 10 + nI s = nI (10 * i + s) := by
        show nI i * nI 10 + nI s = _
        rw [pk_mul, nI_add, Nat.mul_comm]
      have ej : (10 : Int32) * nI i + nI s = nI (10 * i + s) := by
        show nI 10 * nI i + nI s = _
        rw [pk_mul, nI_add]
      have inj : ∀ j, j < m → nI i = nI j → i = j := fun j hj z => (nI_eq (by omega) (by omega)).mp z
      rw [ar_at qm (by omega), hqm i hi]
      refine ⟨vp_in_nI (by omega) (by omega), ?_⟩
      cases eM : M i with
      | false =>
        refine xb_0 ?_
        unfold wpY_map
        dsimp only
        refine ya_isIn (g := g) (P := P) (ql := ql) hm hDs hhi hqd (fun j t hj hMj ht e1 e2 => ?_) (fun _ => xb_0 (done _))
        have := inj j hj e1
        subst this; rw [eM] at hMj; cases hMj
      | true =>
        refine xb_1 ?_
        rw [ei, ar_at qk (by omega), hA i hi s hs]
        refine ⟨vp_in_nI (by omega) (by omega), ?_⟩
        unfold wpY_map
        dsimp only
        refine ya_isIn (g := g) (P := P) (ql := ql) hm hDs hhi hqd (fun j t hj hMj ht e1 e2 => xb_1 ?_) (fun z => absurd ⟨i, s, hi, eM, hs, rfl, rfl⟩ z)
        rw [ej, ar_at qp (by omega), hB i hi s hs]
        exact ⟨vp_in_nI (by omega) (by omega), done _⟩
    · unfold wpY_map
      dsimp only
      exact ya_isIn (g := g) (P := P) (ql := ql) hm hDs hhi hqd (fun i s hi _ hs e1 e2 => absurd ⟨i, s, hi, hs, e1, e2⟩ z) (fun _ => xb_0 (done _))
theorem i_vc_alter {k : Nat} {u : SX} {v : SY} (I : i_Rel k u v) (hk : k + 5 ≤ 2560) (v1 : Int32) (v2 : Int32) (v3 : Int32) : wpX_alter (fun r u' => wpY_alter (fun r' v' => r' = r ∧ i_Rel (k + 5) u' v') v v1 v2 v3) u v1 v2 v3 := by
  obtain ⟨f_codeCount, f_coverCount, f_placeCount, f_tooMany, f_layAnswer, f_wrongKind, f_wrongKey, f_grown, f_frameDepth, f_frameThere, f_lastReason, f_valueDepth, f_objectCount, f_hasRun, f_begun, f_nowAt, f_endClass, a_parent, a_entry, a_code, a_operand, a_coverFrom, a_coverTo, a_coverTarget, a_coverClass, a_placeKey, a_placeDepth, a_cameWith, a_ledWith, a_faults, a_found, a_hasFound, a_kept, a_hasMap, a_frame, a_kind, a_value, a_objectClass, a_objectReady⟩ := u
  obtain ⟨yf_length, yf_handlers, yf_many, yf_there, yf_typed, yf_wrongNumber, yf_wrongPlace, yf_size, yf_why, yf_height, yf_objects, yf_line, yf_begun, yf_last, yf_end, ya_parent, ya_begin, ya_op, ya_arg, ya_from, ya_to, ya_target, ya_caught, ya_places, ya_heights, ya_gone, ya_worst, ya_frames, ya_maps, ya_high, ya_known, ya_mapped, ya_now, ya_sorts, ya_ints, ya_classes, ya_ready⟩ := v
  obtain ⟨g, hG, ⟨rfl, rfl, rfl, rfl, rfl, rfl, rfl, rfl, rfl, rfl⟩, ⟨rfl, rfl, rfl, rfl, rfl, rfl, rfl, rfl, rfl, rfl⟩, hgr, hW, hwhy, hL, hR⟩ := I
  have done : ∀ r : Int32, r = r ∧ i_Rel (k + 5) ((nI (mc_cc g)), (nI (mc_hc g)), f_placeCount, f_tooMany, f_layAnswer, f_wrongKind, f_wrongKey, f_grown, f_frameDepth, f_frameThere, f_lastReason, f_valueDepth, f_objectCount, f_hasRun, f_begun, f_nowAt, f_endClass, (ar (mc_p g)), (ar (mc_e g)), (ar (mc_o g)), (mc_r g), (ar (mc_f g)), (ar (mc_t g)), (ar (mc_g g)), (ar (mc_k g)), a_placeKey, a_placeDepth, a_cameWith, a_ledWith, a_faults, a_found, a_hasFound, a_kept, a_hasMap, a_frame, a_kind, a_value, a_objectClass, a_objectReady) ((nI (mc_cc g)), (nI (mc_hc g)), yf_many, yf_there, yf_typed, yf_wrongNumber, yf_wrongPlace, yf_size, yf_why, yf_height, yf_objects, yf_line, yf_begun, yf_last, yf_end, (ar (mc_p g)), (ar (mc_e g)), (ar (mc_o g)), (mc_r g), (ar (mc_f g)), (ar (mc_t g)), (ar (mc_g g)), (ar (mc_k g)), ya_places, ya_heights, ya_gone, ya_worst, ya_frames, ya_maps, ya_high, ya_known, ya_mapped, ya_now, ya_sorts, ya_ints, ya_classes, ya_ready) := fun r => ⟨rfl, ⟨g, hG, ⟨rfl, rfl, rfl, rfl, rfl, rfl, rfl, rfl, rfl, rfl⟩, ⟨rfl, rfl, rfl, rfl, rfl, rfl, rfl, rfl, rfl, rfl⟩, hgr, hW, hwhy, hL, hR⟩⟩
  unfold wpX_alter
  dsimp only
  rcases hL with ⟨rfl, rfl⟩ | ⟨rfl, hM, ⟨m, P, D, kr, ql, qh, qm, qd, qk, qp, M, K, hY, rfl, rfl, rfl, rfl, rfl, rfl, rfl, rfl, rfl, rfl, hkr, hpl, hhi, hqm, hqd, hMp, hA, hB, K90, hty⟩⟩
  · obtain ⟨D, rfl⟩ := ar_ex a_placeDepth
    refine xa_slot (m := 0) (by omega) (fun i hi => by omega) (fun i s hi => by omega) (fun _ => xb_0 ?_)
    unfold wpY_alter wpY_isIn; dsimp only; exact xb_0 (xb_0 (done _))
  · have hm := hY.1
    have hDs : ∀ i, i < m → D i ≤ 6 := fun i hi => mg_D hG hM hY hi
    refine xa_slot hm hDs (fun i s hi hs e1 e2 => xb_1 ?_) (fun z => xb_0 ?_)
    · subst e1 e2
      have hDi := hDs i hi
      have ei : nI i * 10 + nI s = nI (10 * i + s) := by
        show nI i * nI 10 + nI s = _
        rw [pk_mul, nI_add, Nat.mul_comm]
      have ej : (10 : Int32) * nI i + nI s = nI (10 * i + s) := by
        show nI 10 * nI i + nI s = _
        rw [pk_mul, nI_add]
      have inj : ∀ j, j < m → nI i = nI j → i = j := fun j hj z => (nI_eq (by omega) (by omega)).mp z
      rw [ar_at qm (by omega), hqm i hi]
      refine ⟨vp_in_nI (by omega) (by omega), ?_⟩
      cases eM : M i with
      | false =>
        refine xb_0 ?_
        unfold wpY_alter
        dsimp only
        refine ya_isIn (g := g) (P := P) (ql := ql) hm hDs hhi hqd (fun j t hj hMj ht e1 e2 => ?_) (fun _ => xb_0 (done _))
        have := inj j hj e1
        subst this; rw [eM] at hMj; cases hMj
      | true =>
        refine xb_1 ?_
        by_cases E : ∃ t, t < 91 ∧ v3 = nI t
        · obtain ⟨t, ht, rfl⟩ := E
          rw [ei]
          refine xb_n (by omega) (pk_le t 90 (fun _ => ⟨vp_in_nI (by omega) (by omega), nm_r (ar_ui _ _ (by omega)) ?_⟩) (fun z => by omega))
          unfold wpY_alter
          dsimp only
          refine ya_isIn (g := g) (P := P) (ql := ql) hm hDs hhi hqd (fun _ _ _ _ _ _ _ => xb_1 (ya_in (n := 91) (by omega) (fun _ _ _ => xb_1 ?_) (fun z => absurd ⟨t, ht, rfl⟩ z))) (fun z => absurd ⟨i, s, hi, eM, hs, rfl, rfl⟩ z)
          rw [ej]
          have up : ∀ qx : Nat → Nat, mk_A m D K qx → mk_A m D (fun q r => if q = i ∧ r = s then t else K q r) (mf_up qx (10 * i + s) t) := by
            intro qx hx q hq r hr
            have := hDs q hq
            show mf_up qx (10 * i + s) t (10 * q + r) = if q = i ∧ r = s then t else K q r
            by_cases w : q = i ∧ r = s
            · obtain ⟨rfl, rfl⟩ := w
              rw [up_s, if_pos ⟨rfl, rfl⟩]
            · rw [up_n (by omega), if_neg w]; exact hx q hq r hr
          refine ⟨vp_in_nI (by omega) (by omega), nm_r (ar_ui _ _ (by omega)) ⟨rfl, g, hG, ⟨rfl, rfl, rfl, rfl, rfl, rfl, rfl, rfl, rfl, rfl⟩, ⟨rfl, rfl, rfl, rfl, rfl, rfl, rfl, rfl, rfl, rfl⟩, hgr, hW, hwhy, Or.inr ⟨rfl, hM, m, P, D, kr, ql, qh, qm, qd, _, _, M, _, hY, rfl, rfl, rfl, rfl, rfl, rfl, rfl, rfl, rfl, rfl, hkr, hpl, hhi, hqm, hqd, hMp, up qk hA, up qp hB, fun q r => ?_, hty⟩, hR⟩⟩
          show (if q = i ∧ r = s then t else K q r) ≤ 90
          split
          · omega
          · exact K90 q r
        · have y : wpY_alter (fun r' v' => r' = 0 ∧ i_Rel (k + 5) ((nI (mc_cc g)), (nI (mc_hc g)), (nI m), f_tooMany, f_layAnswer, f_wrongKind, f_wrongKey, f_grown, f_frameDepth, f_frameThere, f_lastReason, f_valueDepth, f_objectCount, f_hasRun, f_begun, f_nowAt, f_endClass, (ar (mc_p g)), (ar (mc_e g)), (ar (mc_o g)), (mc_r g), (ar (mc_f g)), (ar (mc_t g)), (ar (mc_g g)), (ar (mc_k g)), (ar kr), (ar D), a_cameWith, a_ledWith, a_faults, a_found, a_hasFound, (ar qk), (ar qm), a_frame, a_kind, a_value, a_objectClass, a_objectReady) v') ((nI (mc_cc g)), (nI (mc_hc g)), (nI m), 1, yf_typed, yf_wrongNumber, yf_wrongPlace, yf_size, yf_why, yf_height, yf_objects, yf_line, yf_begun, yf_last, yf_end, (ar (mc_p g)), (ar (mc_e g)), (ar (mc_o g)), (mc_r g), (ar (mc_f g)), (ar (mc_t g)), (ar (mc_g g)), (ar (mc_k g)), (ar ql), ya_heights, ya_gone, ya_worst, ya_frames, (ar qp), (ar qh), ya_known, (ar qd), ya_now, ya_sorts, ya_ints, ya_classes, ya_ready) (nI i) (nI s) v3 := by
            unfold wpY_alter
            dsimp only
            exact ya_isIn (g := g) (P := P) (ql := ql) hm hDs hhi hqd (fun _ _ _ _ _ _ _ => xb_1 (ya_in (n := 91) (by omega) (fun t ht e => absurd ⟨t, ht, e⟩ E) (fun _ => xb_0 (done _)))) (fun z => absurd ⟨i, s, hi, eM, hs, rfl, rfl⟩ z)
          refine br_c (fun _ => y) (fun a => br_c (fun b => ?_) (fun _ => y))
          obtain ⟨t, ht, e⟩ := zr_rng0 (hi := 91) a (zr_le (n := 90) b (by omega)) (by omega)
          exact absurd ⟨t, ht, e⟩ E
    · unfold wpY_alter
      dsimp only
      exact ya_isIn (g := g) (P := P) (ql := ql) hm hDs hhi hqd (fun i s hi _ hs e1 e2 => absurd ⟨i, s, hi, hs, e1, e2⟩ z) (fun _ => xb_0 (done _))
theorem i_vc_reason {k : Nat} {u : SX} {v : SY} (I : i_Rel k u v) (hk : k + 5 ≤ 2560) : wpX_reason (fun r => wpY_reason (fun r' => r' = r ∧ i_Rel (k + 5) u v) v) u := by
  obtain ⟨f_codeCount, f_coverCount, f_placeCount, f_tooMany, f_layAnswer, f_wrongKind, f_wrongKey, f_grown, f_frameDepth, f_frameThere, f_lastReason, f_valueDepth, f_objectCount, f_hasRun, f_begun, f_nowAt, f_endClass, a_parent, a_entry, a_code, a_operand, a_coverFrom, a_coverTo, a_coverTarget, a_coverClass, a_placeKey, a_placeDepth, a_cameWith, a_ledWith, a_faults, a_found, a_hasFound, a_kept, a_hasMap, a_frame, a_kind, a_value, a_objectClass, a_objectReady⟩ := u
  obtain ⟨yf_length, yf_handlers, yf_many, yf_there, yf_typed, yf_wrongNumber, yf_wrongPlace, yf_size, yf_why, yf_height, yf_objects, yf_line, yf_begun, yf_last, yf_end, ya_parent, ya_begin, ya_op, ya_arg, ya_from, ya_to, ya_target, ya_caught, ya_places, ya_heights, ya_gone, ya_worst, ya_frames, ya_maps, ya_high, ya_known, ya_mapped, ya_now, ya_sorts, ya_ints, ya_classes, ya_ready⟩ := v
  obtain ⟨g, hG, ⟨rfl, rfl, rfl, rfl, rfl, rfl, rfl, rfl, rfl, rfl⟩, ⟨rfl, rfl, rfl, rfl, rfl, rfl, rfl, rfl, rfl, rfl⟩, hgr, hW, hwhy, hL, hR⟩ := I
  exact ⟨hwhy.symm, ⟨g, hG, ⟨rfl, rfl, rfl, rfl, rfl, rfl, rfl, rfl, rfl, rfl⟩, ⟨rfl, rfl, rfl, rfl, rfl, rfl, rfl, rfl, rfl, rfl⟩, hgr, hW, hwhy, hL, hR⟩⟩
theorem i_vc_ended {k : Nat} {u : SX} {v : SY} (I : i_Rel k u v) (hk : k + 5 ≤ 2560) (v1 : Int32) : wpX_ended (fun r => wpY_ended (fun r' => r' = r ∧ i_Rel (k + 5) u v) v v1) u v1 := by
  obtain ⟨f_codeCount, f_coverCount, f_placeCount, f_tooMany, f_layAnswer, f_wrongKind, f_wrongKey, f_grown, f_frameDepth, f_frameThere, f_lastReason, f_valueDepth, f_objectCount, f_hasRun, f_begun, f_nowAt, f_endClass, a_parent, a_entry, a_code, a_operand, a_coverFrom, a_coverTo, a_coverTarget, a_coverClass, a_placeKey, a_placeDepth, a_cameWith, a_ledWith, a_faults, a_found, a_hasFound, a_kept, a_hasMap, a_frame, a_kind, a_value, a_objectClass, a_objectReady⟩ := u
  obtain ⟨yf_length, yf_handlers, yf_many, yf_there, yf_typed, yf_wrongNumber, yf_wrongPlace, yf_size, yf_why, yf_height, yf_objects, yf_line, yf_begun, yf_last, yf_end, ya_parent, ya_begin, ya_op, ya_arg, ya_from, ya_to, ya_target, ya_caught, ya_places, ya_heights, ya_gone, ya_worst, ya_frames, ya_maps, ya_high, ya_known, ya_mapped, ya_now, ya_sorts, ya_ints, ya_classes, ya_ready⟩ := v
  obtain ⟨g, hG, ⟨rfl, rfl, rfl, rfl, rfl, rfl, rfl, rfl, rfl, rfl⟩, ⟨rfl, rfl, rfl, rfl, rfl, rfl, rfl, rfl, rfl, rfl⟩, hgr, hW, hwhy, hL, hR⟩ := I
  have done : ∀ r : Int32, r = r ∧ i_Rel (k + 5) ((nI (mc_cc g)), (nI (mc_hc g)), f_placeCount, f_tooMany, f_layAnswer, f_wrongKind, f_wrongKey, f_grown, f_frameDepth, f_frameThere, f_lastReason, f_valueDepth, f_objectCount, f_hasRun, f_begun, f_nowAt, f_endClass, (ar (mc_p g)), (ar (mc_e g)), (ar (mc_o g)), (mc_r g), (ar (mc_f g)), (ar (mc_t g)), (ar (mc_g g)), (ar (mc_k g)), a_placeKey, a_placeDepth, a_cameWith, a_ledWith, a_faults, a_found, a_hasFound, a_kept, a_hasMap, a_frame, a_kind, a_value, a_objectClass, a_objectReady) ((nI (mc_cc g)), (nI (mc_hc g)), yf_many, yf_there, yf_typed, yf_wrongNumber, yf_wrongPlace, yf_size, yf_why, yf_height, yf_objects, yf_line, yf_begun, yf_last, yf_end, (ar (mc_p g)), (ar (mc_e g)), (ar (mc_o g)), (mc_r g), (ar (mc_f g)), (ar (mc_t g)), (ar (mc_g g)), (ar (mc_k g)), ya_places, ya_heights, ya_gone, ya_worst, ya_frames, ya_maps, ya_high, ya_known, ya_mapped, ya_now, ya_sorts, ya_ints, ya_classes, ya_ready) := fun r => ⟨rfl, ⟨g, hG, ⟨rfl, rfl, rfl, rfl, rfl, rfl, rfl, rfl, rfl, rfl⟩, ⟨rfl, rfl, rfl, rfl, rfl, rfl, rfl, rfl, rfl, rfl⟩, hgr, hW, hwhy, hL, hR⟩⟩
  unfold wpX_ended wpY_ended wY_ended_16
  dsimp only
  rcases hR with ⟨rfl, rfl, rfl⟩ | ⟨rfl, q, w, qk, qo, qd, qs, qc, qr, w4, rfl, rfl, rfl, rfl, rfl, rfl, rfl, rfl, rfl, rfl, RX, RY, hS, hn⟩
  · exact xb_0 (xb_0 (xb_m' (done _)))
  · have y : ∀ {A : Prop}, A → ((f_begun = 0 → ((0 ≤ nI w → A) ∧ (¬ 0 ≤ nI w → (-1 : Int32) = -1))) ∧ (¬ f_begun = 0 → A)) := fun a => br_c (fun _ => xb_n' (by omega) a) (fun _ => a)
    refine xb_1 (br_c (fun z => ?_) (fun z0 => br_c (fun z => ?_) (fun z1 => br_c (fun z => ?_) (fun z2 => ?_))))
    · have a := br_t (B := ((v1 = 1 → f_nowAt = f_begun ∧ True) ∧ True)) z (done f_begun)
      exact br_c (fun _ => xb_n' (by omega) (br_t z (done _))) (fun _ => br_t z (done _))
    · exact br_c (fun _ => xb_n' (by omega) (br_f z0 (br_t z (done _)))) (fun _ => br_f z0 (br_t z (done _)))
    · exact br_c (fun _ => xb_n' (by omega) (br_f z0 (br_f z1 (br_t z (done _))))) (fun _ => br_f z0 (br_f z1 (br_t z (done _))))
    · exact br_c (fun _ => xb_n' (by omega) (br_f z0 (br_f z1 (br_f z2 (done _))))) (fun _ => br_f z0 (br_f z1 (br_f z2 (done _))))
theorem i_vc_held {k : Nat} {u : SX} {v : SY} (I : i_Rel k u v) (hk : k + 5 ≤ 2560) (v1 : Int32) (v2 : Int32) : wpX_held (fun r => wpY_held (fun r' => r' = r ∧ i_Rel (k + 5) u v) v v1 (lw_bz v2)) u v1 (lw_bz v2) := by
  obtain ⟨f_codeCount, f_coverCount, f_placeCount, f_tooMany, f_layAnswer, f_wrongKind, f_wrongKey, f_grown, f_frameDepth, f_frameThere, f_lastReason, f_valueDepth, f_objectCount, f_hasRun, f_begun, f_nowAt, f_endClass, a_parent, a_entry, a_code, a_operand, a_coverFrom, a_coverTo, a_coverTarget, a_coverClass, a_placeKey, a_placeDepth, a_cameWith, a_ledWith, a_faults, a_found, a_hasFound, a_kept, a_hasMap, a_frame, a_kind, a_value, a_objectClass, a_objectReady⟩ := u
  obtain ⟨yf_length, yf_handlers, yf_many, yf_there, yf_typed, yf_wrongNumber, yf_wrongPlace, yf_size, yf_why, yf_height, yf_objects, yf_line, yf_begun, yf_last, yf_end, ya_parent, ya_begin, ya_op, ya_arg, ya_from, ya_to, ya_target, ya_caught, ya_places, ya_heights, ya_gone, ya_worst, ya_frames, ya_maps, ya_high, ya_known, ya_mapped, ya_now, ya_sorts, ya_ints, ya_classes, ya_ready⟩ := v
  obtain ⟨g, hG, ⟨rfl, rfl, rfl, rfl, rfl, rfl, rfl, rfl, rfl, rfl⟩, ⟨rfl, rfl, rfl, rfl, rfl, rfl, rfl, rfl, rfl, rfl⟩, hgr, hW, hwhy, hL, hR⟩ := I
  have done : ∀ r : Int32, r = r ∧ i_Rel (k + 5) ((nI (mc_cc g)), (nI (mc_hc g)), f_placeCount, f_tooMany, f_layAnswer, f_wrongKind, f_wrongKey, f_grown, f_frameDepth, f_frameThere, f_lastReason, f_valueDepth, f_objectCount, f_hasRun, f_begun, f_nowAt, f_endClass, (ar (mc_p g)), (ar (mc_e g)), (ar (mc_o g)), (mc_r g), (ar (mc_f g)), (ar (mc_t g)), (ar (mc_g g)), (ar (mc_k g)), a_placeKey, a_placeDepth, a_cameWith, a_ledWith, a_faults, a_found, a_hasFound, a_kept, a_hasMap, a_frame, a_kind, a_value, a_objectClass, a_objectReady) ((nI (mc_cc g)), (nI (mc_hc g)), yf_many, yf_there, yf_typed, yf_wrongNumber, yf_wrongPlace, yf_size, yf_why, yf_height, yf_objects, yf_line, yf_begun, yf_last, yf_end, (ar (mc_p g)), (ar (mc_e g)), (ar (mc_o g)), (mc_r g), (ar (mc_f g)), (ar (mc_t g)), (ar (mc_g g)), (ar (mc_k g)), ya_places, ya_heights, ya_gone, ya_worst, ya_frames, ya_maps, ya_high, ya_known, ya_mapped, ya_now, ya_sorts, ya_ints, ya_classes, ya_ready) := fun r => ⟨rfl, ⟨g, hG, ⟨rfl, rfl, rfl, rfl, rfl, rfl, rfl, rfl, rfl, rfl⟩, ⟨rfl, rfl, rfl, rfl, rfl, rfl, rfl, rfl, rfl, rfl⟩, hgr, hW, hwhy, hL, hR⟩⟩
  generalize lw_bz v2 = b
  unfold wpX_held
  dsimp only
  by_cases E : ∃ i, i < 4 ∧ v1 = nI i
  · obtain ⟨i, hi, rfl⟩ := E
    refine xb_n (by omega) (pk_le 4 i (fun z => by omega) (fun _ => ?_))
    rcases hR with ⟨rfl, rfl, rfl⟩ | ⟨rfl, q, w, qk, qo, qd, qs, qc, qr, w4, rfl, rfl, rfl, rfl, rfl, rfl, rfl, rfl, rfl, rfl, RX, RY, hS, hn⟩
    · have y : ∀ r : Int32, (b = 0 → r = -1) → (¬ b = 0 → r = 0) → wpY_held (fun r' => r' = r ∧ i_Rel (k + 5) ((nI (mc_cc g)), (nI (mc_hc g)), f_placeCount, f_tooMany, f_layAnswer, f_wrongKind, f_wrongKey, f_grown, f_frameDepth, f_frameThere, f_lastReason, f_valueDepth, f_objectCount, 0, f_begun, f_nowAt, f_endClass, (ar (mc_p g)), (ar (mc_e g)), (ar (mc_o g)), (mc_r g), (ar (mc_f g)), (ar (mc_t g)), (ar (mc_g g)), (ar (mc_k g)), a_placeKey, a_placeDepth, a_cameWith, a_ledWith, a_faults, a_found, a_hasFound, a_kept, a_hasMap, a_frame, a_kind, a_value, a_objectClass, a_objectReady) ((nI (mc_cc g)), (nI (mc_hc g)), yf_many, yf_there, yf_typed, yf_wrongNumber, yf_wrongPlace, yf_size, yf_why, yf_height, yf_objects, yf_line, 0, yf_last, (-1), (ar (mc_p g)), (ar (mc_e g)), (ar (mc_o g)), (mc_r g), (ar (mc_f g)), (ar (mc_t g)), (ar (mc_g g)), (ar (mc_k g)), ya_places, ya_heights, ya_gone, ya_worst, ya_frames, ya_maps, ya_high, ya_known, ya_mapped, ya_now, ya_sorts, ya_ints, ya_classes, ya_ready)) ((nI (mc_cc g)), (nI (mc_hc g)), yf_many, yf_there, yf_typed, yf_wrongNumber, yf_wrongPlace, yf_size, yf_why, yf_height, yf_objects, yf_line, 0, yf_last, (-1), (ar (mc_p g)), (ar (mc_e g)), (ar (mc_o g)), (mc_r g), (ar (mc_f g)), (ar (mc_t g)), (ar (mc_g g)), (ar (mc_k g)), ya_places, ya_heights, ya_gone, ya_worst, ya_frames, ya_maps, ya_high, ya_known, ya_mapped, ya_now, ya_sorts, ya_ints, ya_classes, ya_ready) (nI i) b := by
        intro r h1 h2
        unfold wpY_held wY_held_15
        dsimp only
        refine ya_in (n := 4) (by omega) (fun _ _ _ => xb_1 (xb_m' (br_c (fun z => ?_) (fun z => ?_)))) (fun z => absurd ⟨i, hi, rfl⟩ z)
        · rw [h1 z]; exact done _
        · rw [h2 z]; exact done _
      refine xb_0 ?_
      unfold wX_held_16
      exact br_c (fun z => y _ (fun _ => rfl) (fun n => absurd z n)) (fun z => y _ (fun n => absurd n z) (fun _ => rfl))
    · obtain ⟨r1, r2, r3⟩ := RX.1 i (by omega)
      obtain ⟨s1, s2⟩ := RY.1 i hi
      have kl := mr_kdl (rq_S q i)
      have sl : rq_S q i < 2 ^ 31 := by
        by_cases c : 4 ≤ rq_S q i
        · have := hS i hi c; omega
        · omega
      have ek : ar qk (nI i).toNatClampNeg = nI (mr_kd (rq_S q i)) := by rw [ar_at _ (by omega), r1]
      have ev : a_value (nI i).toNatClampNeg = a_value i := by rw [nI_clamp (by omega)]
      have es : ar qs (nI i).toNatClampNeg = nI (rq_S q i) := by rw [ar_at _ (by omega), s1]
      have ei : ya_ints (nI i).toNatClampNeg = ya_ints i := by rw [nI_clamp (by omega)]
      refine xb_1 ⟨vp_in_nI (by omega) (by omega), nm_r ev ?_⟩
      rw [ek]
      -- the reference
      have y : ∀ {post : Int32 → Prop}, ((b = 0 → ((3 ≤ nI (rq_S q i) → ((nI (rq_S q i) = 3 → (vp_in (nI i) 10 ∧ post (51 + ya_ints i))) ∧ (¬ nI (rq_S q i) = 3 → wpY_isReady (fun r_10 => ((r_10 = 0 → wY_held_92 post (nI (rq_S q i)) 11 (nI (mc_cc g)) (nI (mc_hc g)) yf_many yf_there yf_typed yf_wrongNumber yf_wrongPlace yf_size yf_why yf_height yf_objects f_nowAt f_begun f_endClass (nI w) (ar (mc_p g)) (ar (mc_e g)) (ar (mc_o g)) (mc_r g) (ar (mc_f g)) (ar (mc_t g)) (ar (mc_g g)) (ar (mc_k g)) ya_places ya_heights ya_gone ya_worst ya_frames ya_maps ya_high ya_known ya_mapped ya_now (ar qs) ya_ints (ar qc) (ar qr)) ∧ (¬ r_10 = 0 → wY_held_92 post (nI (rq_S q i)) 3 (nI (mc_cc g)) (nI (mc_hc g)) yf_many yf_there yf_typed yf_wrongNumber yf_wrongPlace yf_size yf_why yf_height yf_objects f_nowAt f_begun f_endClass (nI w) (ar (mc_p g)) (ar (mc_e g)) (ar (mc_o g)) (mc_r g) (ar (mc_f g)) (ar (mc_t g)) (ar (mc_g g)) (ar (mc_k g)) ya_places ya_heights ya_gone ya_worst ya_frames ya_maps ya_high ya_known ya_mapped ya_now (ar qs) ya_ints (ar qc) (ar qr)))) ((nI (mc_cc g)), (nI (mc_hc g)), yf_many, yf_there, yf_typed, yf_wrongNumber, yf_wrongPlace, yf_size, yf_why, yf_height, yf_objects, f_nowAt, f_begun, f_endClass, (nI w), (ar (mc_p g)), (ar (mc_e g)), (ar (mc_o g)), (mc_r g), (ar (mc_f g)), (ar (mc_t g)), (ar (mc_g g)), (ar (mc_k g)), ya_places, ya_heights, ya_gone, ya_worst, ya_frames, ya_maps, ya_high, ya_known, ya_mapped, ya_now, (ar qs), ya_ints, (ar qc), (ar qr)) (nI (rq_S q i))))) ∧ (¬ 3 ≤ nI (rq_S q i) → post (nI (rq_S q i))))) ∧ (¬ b = 0 → ((nI (rq_S q i) = 1 → (vp_in (nI i) 10 ∧ post (ya_ints i))) ∧ (¬ nI (rq_S q i) = 1 → post 0)))) → wpY_held post ((nI (mc_cc g)), (nI (mc_hc g)), yf_many, yf_there, yf_typed, yf_wrongNumber, yf_wrongPlace, yf_size, yf_why, yf_height, yf_objects, f_nowAt, f_begun, f_endClass, (nI w), (ar (mc_p g)), (ar (mc_e g)), (ar (mc_o g)), (mc_r g), (ar (mc_f g)), (ar (mc_t g)), (ar (mc_g g)), (ar (mc_k g)), ya_places, ya_heights, ya_gone, ya_worst, ya_frames, ya_maps, ya_high, ya_known, ya_mapped, ya_now, (ar qs), ya_ints, (ar qc), (ar qr)) (nI i) b := by
        intro post h
        unfold wpY_held
        dsimp only
        refine ya_in (n := 4) (by omega) (fun _ _ _ => xb_1 (xb_n' (by omega) ⟨vp_in_nI (by omega) (by omega), nm_r es ?_⟩)) (fun z => absurd ⟨i, hi, rfl⟩ z)
        rw [ei]
        exact h
      refine br_c (fun b0 => ⟨vp_in_nI (by omega) (by omega), ?_⟩) (fun b1 => ⟨vp_in_nI (by omega) (by omega), ?_⟩)
      · refine pk_eq (mr_kd (rq_S q i)) 4 (fun c => ?_) (fun c4 => ⟨vp_in_nI (by omega) (by omega), pk_eq (mr_kd (rq_S q i)) 3 (fun c => ?_) (fun c3 => ⟨vp_in_nI (by omega) (by omega), ?_⟩)⟩)
        · have c' := mr_kd4.mp c
          rw [r2 (Or.inr c')]
          refine y (br_t b0 (pk_le 3 (rq_S q i) (fun _ => pk_eq (rq_S q i) 3 (fun _ => ⟨vp_in_nI (by omega) (by omega), ?_⟩) (fun z => absurd c' z)) (fun z => by omega)))
          rw [s2 (Or.inr c')]; exact done _
        · have c' := mr_kd3.mp c
          have hj := hS i hi c'
          have e4 : nI (rq_S q i) - 4 = nI (rq_S q i - 4) := pk_sub (b := 4) c'
          rw [r3 c', ar_at qd (by omega), ar_at qo (by omega), (RX.2 _ hj).1, (RX.2 _ hj).2]
          have yb : ∀ {post : Int32 → Prop} (z0 : Int32), post (z0 + nI (rq_C q (rq_S q i - 4))) → wY_held_92 post (nI (rq_S q i)) z0 (nI (mc_cc g)) (nI (mc_hc g)) yf_many yf_there yf_typed yf_wrongNumber yf_wrongPlace yf_size yf_why yf_height yf_objects f_nowAt f_begun f_endClass (nI w) (ar (mc_p g)) (ar (mc_e g)) (ar (mc_o g)) (mc_r g) (ar (mc_f g)) (ar (mc_t g)) (ar (mc_g g)) (ar (mc_k g)) ya_places ya_heights ya_gone ya_worst ya_frames ya_maps ya_high ya_known ya_mapped ya_now (ar qs) ya_ints (ar qc) (ar qr) := by
            intro post z0 h
            unfold wY_held_92
            rw [e4, ar_at _ (by omega), (RY.2 _ hj).1]
            exact ⟨vp_in_nI (by omega) (by omega), h⟩
          refine ⟨vp_in_nI (by omega) (by omega), ?_⟩
          cases er : rq_R q (rq_S q i - 4) with
          | false =>
            refine xb_0 ⟨vp_in_nI (by omega) (by omega), y (br_t b0 (pk_le 3 (rq_S q i) (fun _ => pk_eq (rq_S q i) 3 (fun z => by omega) (fun _ => yr_rdy (q := q) (by omega) RY.2 (fun _ => hj) (fun z => ?_) (fun _ => xb_0 (yb 11 (done _))) sl)) (fun z => by omega)))⟩
            rw [er] at z; cases z.2
          | true =>
            refine xb_1 ⟨vp_in_nI (by omega) (by omega), y (br_t b0 (pk_le 3 (rq_S q i) (fun _ => pk_eq (rq_S q i) 3 (fun z => by omega) (fun _ => yr_rdy (q := q) (by omega) RY.2 (fun _ => hj) (fun _ => xb_1 (yb 3 (done _))) (fun z => absurd ⟨c', er⟩ z) sl)) (fun z => by omega)))⟩
        · have n3 : ¬ 4 ≤ rq_S q i := fun z => c3 (mr_kd3.mpr z)
          have n4 : ¬ rq_S q i = 3 := fun z => c4 (mr_kd4.mpr z)
          have e : mr_kd (rq_S q i) = rq_S q i := by unfold mr_kd; rw [if_pos (by omega)]
          rw [e]
          exact y (br_t b0 (pk_le 3 (rq_S q i) (fun z => by omega) (fun _ => done _)))
      · refine pk_eq (mr_kd (rq_S q i)) 1 (fun c => ?_) (fun c => ?_)
        · have c' := mr_kd1.mp c
          rw [r2 (Or.inl c')]
          refine y (br_f b1 (pk_eq (rq_S q i) 1 (fun _ => ⟨vp_in_nI (by omega) (by omega), ?_⟩) (fun z => absurd c' z)))
          rw [s2 (Or.inl c')]; exact done _
        · exact y (br_f b1 (pk_eq (rq_S q i) 1 (fun z => absurd (mr_kd1.mpr z) c) (fun _ => done _)))
  · have y : ∀ r : Int32, (b = 0 → r = -1) → (¬ b = 0 → r = 0) → wpY_held (fun r' => r' = r ∧ i_Rel (k + 5) ((nI (mc_cc g)), (nI (mc_hc g)), f_placeCount, f_tooMany, f_layAnswer, f_wrongKind, f_wrongKey, f_grown, f_frameDepth, f_frameThere, f_lastReason, f_valueDepth, f_objectCount, f_hasRun, f_begun, f_nowAt, f_endClass, (ar (mc_p g)), (ar (mc_e g)), (ar (mc_o g)), (mc_r g), (ar (mc_f g)), (ar (mc_t g)), (ar (mc_g g)), (ar (mc_k g)), a_placeKey, a_placeDepth, a_cameWith, a_ledWith, a_faults, a_found, a_hasFound, a_kept, a_hasMap, a_frame, a_kind, a_value, a_objectClass, a_objectReady) ((nI (mc_cc g)), (nI (mc_hc g)), yf_many, yf_there, yf_typed, yf_wrongNumber, yf_wrongPlace, yf_size, yf_why, yf_height, yf_objects, yf_line, yf_begun, yf_last, yf_end, (ar (mc_p g)), (ar (mc_e g)), (ar (mc_o g)), (mc_r g), (ar (mc_f g)), (ar (mc_t g)), (ar (mc_g g)), (ar (mc_k g)), ya_places, ya_heights, ya_gone, ya_worst, ya_frames, ya_maps, ya_high, ya_known, ya_mapped, ya_now, ya_sorts, ya_ints, ya_classes, ya_ready)) ((nI (mc_cc g)), (nI (mc_hc g)), yf_many, yf_there, yf_typed, yf_wrongNumber, yf_wrongPlace, yf_size, yf_why, yf_height, yf_objects, yf_line, yf_begun, yf_last, yf_end, (ar (mc_p g)), (ar (mc_e g)), (ar (mc_o g)), (mc_r g), (ar (mc_f g)), (ar (mc_t g)), (ar (mc_g g)), (ar (mc_k g)), ya_places, ya_heights, ya_gone, ya_worst, ya_frames, ya_maps, ya_high, ya_known, ya_mapped, ya_now, ya_sorts, ya_ints, ya_classes, ya_ready) v1 b := by
      intro r h1 h2
      unfold wpY_held wY_held_15
      dsimp only
      refine ya_in (n := 4) (by omega) (fun j hj e => absurd ⟨j, hj, e⟩ E) (fun _ => xb_0 (br_c (fun z => ?_) (fun z => ?_)))
      · rw [h1 z]; exact done _
      · rw [h2 z]; exact done _
    have x16 : wX_held_16 (fun r => wpY_held (fun r' => r' = r ∧ i_Rel (k + 5) ((nI (mc_cc g)), (nI (mc_hc g)), f_placeCount, f_tooMany, f_layAnswer, f_wrongKind, f_wrongKey, f_grown, f_frameDepth, f_frameThere, f_lastReason, f_valueDepth, f_objectCount, f_hasRun, f_begun, f_nowAt, f_endClass, (ar (mc_p g)), (ar (mc_e g)), (ar (mc_o g)), (mc_r g), (ar (mc_f g)), (ar (mc_t g)), (ar (mc_g g)), (ar (mc_k g)), a_placeKey, a_placeDepth, a_cameWith, a_ledWith, a_faults, a_found, a_hasFound, a_kept, a_hasMap, a_frame, a_kind, a_value, a_objectClass, a_objectReady) ((nI (mc_cc g)), (nI (mc_hc g)), yf_many, yf_there, yf_typed, yf_wrongNumber, yf_wrongPlace, yf_size, yf_why, yf_height, yf_objects, yf_line, yf_begun, yf_last, yf_end, (ar (mc_p g)), (ar (mc_e g)), (ar (mc_o g)), (mc_r g), (ar (mc_f g)), (ar (mc_t g)), (ar (mc_g g)), (ar (mc_k g)), ya_places, ya_heights, ya_gone, ya_worst, ya_frames, ya_maps, ya_high, ya_known, ya_mapped, ya_now, ya_sorts, ya_ints, ya_classes, ya_ready)) ((nI (mc_cc g)), (nI (mc_hc g)), yf_many, yf_there, yf_typed, yf_wrongNumber, yf_wrongPlace, yf_size, yf_why, yf_height, yf_objects, yf_line, yf_begun, yf_last, yf_end, (ar (mc_p g)), (ar (mc_e g)), (ar (mc_o g)), (mc_r g), (ar (mc_f g)), (ar (mc_t g)), (ar (mc_g g)), (ar (mc_k g)), ya_places, ya_heights, ya_gone, ya_worst, ya_frames, ya_maps, ya_high, ya_known, ya_mapped, ya_now, ya_sorts, ya_ints, ya_classes, ya_ready) v1 b) b (nI (mc_cc g)) (nI (mc_hc g)) f_placeCount f_tooMany f_layAnswer f_wrongKind f_wrongKey f_grown f_frameDepth f_frameThere f_lastReason f_valueDepth f_objectCount f_hasRun f_begun f_nowAt f_endClass (ar (mc_p g)) (ar (mc_e g)) (ar (mc_o g)) (mc_r g) (ar (mc_f g)) (ar (mc_t g)) (ar (mc_g g)) (ar (mc_k g)) a_placeKey a_placeDepth a_cameWith a_ledWith a_faults a_found a_hasFound a_kept a_hasMap a_frame a_kind a_value a_objectClass a_objectReady := by
      unfold wX_held_16
      exact br_c (fun z => y _ (fun _ => rfl) (fun n => absurd z n)) (fun z => y _ (fun n => absurd n z) (fun _ => rfl))
    refine br_c (fun _ => x16) (fun a => br_c (fun _ => x16) (fun c => ?_))
    obtain ⟨j, hj, e⟩ := zr_rng0 (hi := 4) a (Int32.not_le.mp c) (by omega)
    exact absurd ⟨j, hj, e⟩ E
end
