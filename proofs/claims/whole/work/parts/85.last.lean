/-! ===== lay, check, run ===== -/
section
theorem mm_M {m : Nat} {Q : Nat → Prop} {a b : Nat → Nat} (ha : mm_is m Q a) (hb : mm_is m Q b) : (∀ k, k < m → a k = (decide (a k = 1)).toNat) ∧ (∀ k, k < m → b k = (decide (a k = 1)).toNat) ∧ (∀ k, k < m → (decide (a k = 1) = true ↔ Q k)) := by
  refine ⟨fun k hk => ?_, fun k hk => ?_, fun k hk => ?_⟩
  · rcases ha k hk with ⟨x, _⟩ | ⟨x, _⟩ <;> rw [x] <;> rfl
  · rcases ha k hk with ⟨x, y⟩ | ⟨x, y⟩ <;> rcases hb k hk with ⟨z, w⟩ | ⟨z, w⟩
    · rw [x, z]; rfl
    · exact absurd y w
    · exact absurd w y
    · rw [x, z]; rfl
  · rcases ha k hk with ⟨x, y⟩ | ⟨x, y⟩
    · rw [x]; exact ⟨fun _ => y, fun _ => rfl⟩
    · rw [x]; exact ⟨fun z => (by cases z), fun z => absurd z y⟩
theorem i_vc_lay {k : Nat} {u : SX} {v : SY} (I : i_Rel k u v) (hk : k + 5 ≤ 2560) : wpX_lay (fun r u' => wpY_lay (fun r' v' => r' = r ∧ i_Rel (k + 5) u' v') v) u := by
  obtain ⟨f_codeCount, f_coverCount, f_placeCount, f_tooMany, f_layAnswer, f_wrongKind, f_wrongKey, f_grown, f_frameDepth, f_frameThere, f_lastReason, f_valueDepth, f_objectCount, f_hasRun, f_begun, f_nowAt, f_endClass, a_parent, a_entry, a_code, a_operand, a_coverFrom, a_coverTo, a_coverTarget, a_coverClass, a_placeKey, a_placeDepth, a_cameWith, a_ledWith, a_faults, a_found, a_hasFound, a_kept, a_hasMap, a_frame, a_kind, a_value, a_objectClass, a_objectReady⟩ := u
  obtain ⟨yf_length, yf_handlers, yf_many, yf_there, yf_typed, yf_wrongNumber, yf_wrongPlace, yf_size, yf_why, yf_height, yf_objects, yf_line, yf_begun, yf_last, yf_end, ya_parent, ya_begin, ya_op, ya_arg, ya_from, ya_to, ya_target, ya_caught, ya_places, ya_heights, ya_gone, ya_worst, ya_frames, ya_maps, ya_high, ya_known, ya_mapped, ya_now, ya_sorts, ya_ints, ya_classes, ya_ready⟩ := v
  obtain ⟨g, hG, ⟨rfl, rfl, rfl, rfl, rfl, rfl, rfl, rfl, rfl, rfl⟩, ⟨rfl, rfl, rfl, rfl, rfl, rfl, rfl, rfl, rfl, rfl⟩, hgr, hW, hwhy, hL, hR⟩ := I
  obtain ⟨gr, rfl⟩ := hgr
  clear hL hW hwhy
  obtain ⟨x1, rfl⟩ := ar_ex a_placeKey
  obtain ⟨x2, rfl⟩ := ar_ex a_placeDepth
  obtain ⟨x3, rfl⟩ := ar_ex a_cameWith
  obtain ⟨x4, rfl⟩ := ar_ex a_ledWith
  obtain ⟨x5, rfl⟩ := ar_ex a_faults
  obtain ⟨x6, rfl⟩ := ar_ex a_found
  obtain ⟨x7, rfl⟩ := ar_ex a_hasFound
  obtain ⟨x8, rfl⟩ := ar_ex a_kept
  obtain ⟨x9, rfl⟩ := ar_ex a_hasMap
  obtain ⟨x10, rfl⟩ := ar_ex a_frame
  obtain ⟨y1, rfl⟩ := ar_ex ya_places
  obtain ⟨y2, rfl⟩ := ar_ex ya_heights
  obtain ⟨y3, rfl⟩ := ar_ex ya_gone
  obtain ⟨y4, rfl⟩ := ar_ex ya_worst
  obtain ⟨y5, rfl⟩ := ar_ex ya_frames
  obtain ⟨y6, rfl⟩ := ar_ex ya_maps
  obtain ⟨y7, rfl⟩ := ar_ex ya_high
  obtain ⟨y8, rfl⟩ := ar_ex ya_known
  obtain ⟨y9, rfl⟩ := ar_ex ya_mapped
  obtain ⟨y10, rfl⟩ := ar_ex ya_now
  refine xl_lay hG (fun nM => ?_) (fun hM many tm kr D w l f => ?_) (fun hM nm p n F V tm kr D w l f => ?_) (fun hM nm noB m P D kr Y hkr hm hmis tm dp th gr' w l f fd hf kp fr => ⟨fun hn hz => ?_, fun T' hT A hkf => ?_⟩)
  · refine yl_lay (m := 0) (P := fun _ => 0) (D := fun _ => 0) hG (fun hM => absurd hM nM) (fun _ => ?_) (fun hM => absurd hM nM) (fun hM => absurd hM nM) (fun hM => absurd hM nM)
    exact ⟨rfl, g, hG, ⟨rfl, rfl, rfl, rfl, rfl, rfl, rfl, rfl, rfl, rfl⟩, ⟨rfl, rfl, rfl, rfl, rfl, rfl, rfl, rfl, rfl, rfl⟩, ⟨gr, rfl⟩, Or.inl ⟨by decide, rfl⟩, rfl, Or.inl ⟨rfl, rfl⟩, hR⟩
  · refine yl_lay (m := 0) (P := fun _ => 0) (D := fun _ => 0) hG (fun _ nm => absurd many nm) (fun nM => absurd hM nM) (fun _ _ mn K w l f => ?_) (fun _ nm => absurd many nm) (fun _ nm => absurd many nm)
    exact ⟨rfl, g, hG, ⟨rfl, rfl, rfl, rfl, rfl, rfl, rfl, rfl, rfl, rfl⟩, ⟨rfl, rfl, rfl, rfl, rfl, rfl, rfl, rfl, rfl, rfl⟩, ⟨gr, rfl⟩, Or.inr ⟨rfl, Or.inl ⟨rfl, rfl, rfl⟩⟩, rfl, Or.inl ⟨rfl, rfl⟩, hR⟩
  · refine yl_lay (m := 0) (P := fun _ => 0) (D := fun _ => 0) hG (fun _ _ noB => absurd F.1 (noB p n)) (fun nM => absurd hM nM) (fun _ many => absurd many nm) (fun _ _ p' n' F' hp' mn K w l f => ?_) (fun _ _ noB => absurd F.1 (noB p n))
    obtain ⟨rfl, rfl⟩ := ml_Funi F F'
    have n0 := ml_B0 F.1
    exact ⟨rfl, g, hG, ⟨rfl, rfl, rfl, rfl, rfl, rfl, rfl, rfl, rfl, rfl⟩, ⟨rfl, rfl, rfl, rfl, rfl, rfl, rfl, rfl, rfl, rfl⟩, ⟨gr, rfl⟩, Or.inr ⟨rfl, Or.inr ⟨p, n, by omega, by omega, hp', rfl, rfl, rfl, rfl⟩⟩, rfl, Or.inl ⟨rfl, rfl⟩, hR⟩
  · have hDs : ∀ i, i < m → D i ≤ 6 := fun i hi => mg_D hG hM Y hi
    have hm40 := Y.1
    refine yl_lay (m := m) (P := P) (D := D) hG (fun _ _ _ => Y) (fun nM => absurd hM nM) (fun _ many => absurd many nm) (fun _ _ p n F => absurd F.1 (noB p n)) (fun _ _ _ pl hi hpl hhi md hmd sz w l f fd mp hf nw => ⟨fun _ hz2 => ?_, fun T2 hT2 => (by rw [hn] at hT2; cases hT2)⟩)
    obtain ⟨e1, e2, e3⟩ := mm_M hmis hmd
    exact ⟨rfl, g, hG, ⟨rfl, rfl, rfl, rfl, rfl, rfl, rfl, rfl, rfl, rfl⟩, ⟨rfl, rfl, rfl, rfl, rfl, rfl, rfl, rfl, rfl, rfl⟩, ⟨gr', rfl⟩, Or.inl ⟨by decide, rfl⟩, rfl, Or.inr ⟨rfl, hM, m, P, D, kr, pl, hi, hm, md, kp, mp, fun k => decide (hm k = 1), fun _ _ => 0, Y, rfl, rfl, rfl, rfl, rfl, rfl, rfl, rfl, rfl, rfl, hkr, hpl, hhi, e1, e2, e3, fun q hq s hs => hz _ (by have := hDs q hq; omega), fun q hq s hs => hz2 _ (by have := hDs q hq; omega), fun _ _ => by show 0 ≤ 90; omega, Or.inr ⟨by decide, rfl⟩⟩, hR⟩
  · have hDs : ∀ i, i < m → D i ≤ 6 := fun i hi => mg_D hG hM Y hi
    have hm40 := Y.1
    have mub := mf_mu_b m (mf_T0 g) hm40
    obtain ⟨known, T90⟩ := mi_fin hG Y 4000 (mf_T0 g) T' (by omega) rfl (mf_T0_90 hG) hT
    refine yl_lay (m := m) (P := P) (D := D) hG (fun _ _ _ => Y) (fun nM => absurd hM nM) (fun _ many => absurd many nm) (fun _ _ p n F => absurd F.1 (noB p n)) (fun _ _ _ pl hi hpl hhi md hmd sz w l f fd2 mp hf2 nw => ⟨fun hn2 => (by rw [hT] at hn2; cases hn2), fun T2 hT2 A2 hk2 => ?_⟩)
    obtain ⟨e1, e2, e3⟩ := mm_M hmis hmd
    have eT : T2 = T' := Option.some.inj (hT2.symm.trans hT)
    subst eT
    have a1 : mk_A m D T2.2 fd := fun q hq s hs => A.2 q hq (known q hq) s hs
    have a2 : mk_A m D T2.2 fd2 := fun q hq s hs => A2.2 q hq (known q hq) s hs
    exact ⟨rfl, g, hG, ⟨rfl, rfl, rfl, rfl, rfl, rfl, rfl, rfl, rfl, rfl⟩, ⟨rfl, rfl, rfl, rfl, rfl, rfl, rfl, rfl, rfl, rfl⟩, ⟨gr', rfl⟩, Or.inl ⟨by decide, rfl⟩, rfl, Or.inr ⟨rfl, hM, m, P, D, kr, pl, hi, hm, md, kp, mp, fun k => decide (hm k = 1), T2.2, Y, rfl, rfl, rfl, rfl, rfl, rfl, rfl, rfl, rfl, rfl, hkr, hpl, hhi, e1, e2, e3, fun q hq s hs => (hkf _ (by have := hDs q hq; omega)).trans (a1 q hq s hs), fun q hq s hs => (hk2 _ (by have := hDs q hq; omega)).trans (a2 q hq s hs), T90, Or.inl ⟨rfl, rfl, fd, fd2, T2.2, rfl, rfl, a1, a2⟩⟩, hR⟩
theorem i_vc_check {k : Nat} {u : SX} {v : SY} (I : i_Rel k u v) (hk : k + 5 ≤ 2560) : wpX_check (fun r u' => wpY_check (fun r' v' => r' = r ∧ i_Rel (k + 5) u' v') v) u := by
  obtain ⟨f_codeCount, f_coverCount, f_placeCount, f_tooMany, f_layAnswer, f_wrongKind, f_wrongKey, f_grown, f_frameDepth, f_frameThere, f_lastReason, f_valueDepth, f_objectCount, f_hasRun, f_begun, f_nowAt, f_endClass, a_parent, a_entry, a_code, a_operand, a_coverFrom, a_coverTo, a_coverTarget, a_coverClass, a_placeKey, a_placeDepth, a_cameWith, a_ledWith, a_faults, a_found, a_hasFound, a_kept, a_hasMap, a_frame, a_kind, a_value, a_objectClass, a_objectReady⟩ := u
  obtain ⟨yf_length, yf_handlers, yf_many, yf_there, yf_typed, yf_wrongNumber, yf_wrongPlace, yf_size, yf_why, yf_height, yf_objects, yf_line, yf_begun, yf_last, yf_end, ya_parent, ya_begin, ya_op, ya_arg, ya_from, ya_to, ya_target, ya_caught, ya_places, ya_heights, ya_gone, ya_worst, ya_frames, ya_maps, ya_high, ya_known, ya_mapped, ya_now, ya_sorts, ya_ints, ya_classes, ya_ready⟩ := v
  obtain ⟨g, hG, ⟨rfl, rfl, rfl, rfl, rfl, rfl, rfl, rfl, rfl, rfl⟩, ⟨rfl, rfl, rfl, rfl, rfl, rfl, rfl, rfl, rfl, rfl⟩, hgr, hW, hwhy, hL, hR⟩ := I
  rcases hL with ⟨rfl, rfl⟩ | ⟨rfl, hM, ⟨m, P, D, kr, ql, qh, qm, qd, qk, qp, M, K, hY, rfl, rfl, rfl, rfl, rfl, rfl, rfl, rfl, rfl, rfl, hkr, hpl, hhi, hqm, hqd, hMp, hA, hB, K90, hty⟩⟩
  · unfold wpX_check wpY_check
    dsimp only
    exact br_t rfl (br_t rfl ⟨rfl, g, hG, ⟨rfl, rfl, rfl, rfl, rfl, rfl, rfl, rfl, rfl, rfl⟩, ⟨rfl, rfl, rfl, rfl, rfl, rfl, rfl, rfl, rfl, rfl⟩, hgr, hW, rfl, Or.inl ⟨rfl, rfl⟩, hR⟩)
  · obtain ⟨fr, rfl⟩ := ar_ex a_frame
    obtain ⟨nw, rfl⟩ := ar_ex ya_now
    refine xl_check hG hM hY hkr hqm hMp hA K90 (fun r hr dp th fr' => ?_)
    refine yl_check hG hM hY hpl hhi (by decide) hqd hMp hB K90 (fun r2 hr2 sz nw' => ?_)
    have er : r2 = r := hr2.symm.trans hr
    subst er
    exact ⟨rfl, g, hG, ⟨rfl, rfl, rfl, rfl, rfl, rfl, rfl, rfl, rfl, rfl⟩, ⟨rfl, rfl, rfl, rfl, rfl, rfl, rfl, rfl, rfl, rfl⟩, hgr, hW, rfl, Or.inr ⟨rfl, hM, m, P, D, kr, ql, qh, qm, qd, qk, qp, M, K, hY, rfl, rfl, rfl, rfl, rfl, rfl, rfl, rfl, rfl, rfl, hkr, hpl, hhi, hqm, hqd, hMp, hA, hB, K90, hty⟩, hR⟩
theorem i_vc_run {k : Nat} {u : SX} {v : SY} (I : i_Rel k u v) (hk : k + 5 ≤ 2560) (v1 : Int32) : wpX_run (fun r u' => wpY_run (fun r' v' => r' = r ∧ i_Rel (k + 5) u' v') v v1) u v1 := by
  obtain ⟨f_codeCount, f_coverCount, f_placeCount, f_tooMany, f_layAnswer, f_wrongKind, f_wrongKey, f_grown, f_frameDepth, f_frameThere, f_lastReason, f_valueDepth, f_objectCount, f_hasRun, f_begun, f_nowAt, f_endClass, a_parent, a_entry, a_code, a_operand, a_coverFrom, a_coverTo, a_coverTarget, a_coverClass, a_placeKey, a_placeDepth, a_cameWith, a_ledWith, a_faults, a_found, a_hasFound, a_kept, a_hasMap, a_frame, a_kind, a_value, a_objectClass, a_objectReady⟩ := u
  obtain ⟨yf_length, yf_handlers, yf_many, yf_there, yf_typed, yf_wrongNumber, yf_wrongPlace, yf_size, yf_why, yf_height, yf_objects, yf_line, yf_begun, yf_last, yf_end, ya_parent, ya_begin, ya_op, ya_arg, ya_from, ya_to, ya_target, ya_caught, ya_places, ya_heights, ya_gone, ya_worst, ya_frames, ya_maps, ya_high, ya_known, ya_mapped, ya_now, ya_sorts, ya_ints, ya_classes, ya_ready⟩ := v
  obtain ⟨g, hG, ⟨rfl, rfl, rfl, rfl, rfl, rfl, rfl, rfl, rfl, rfl⟩, ⟨rfl, rfl, rfl, rfl, rfl, rfl, rfl, rfl, rfl, rfl⟩, hgr, hW, hwhy, hL, hR⟩ := I
  have done : (-1 : Int32) = -1 ∧ i_Rel (k + 5) ((nI (mc_cc g)), (nI (mc_hc g)), f_placeCount, f_tooMany, f_layAnswer, f_wrongKind, f_wrongKey, f_grown, f_frameDepth, f_frameThere, f_lastReason, f_valueDepth, f_objectCount, f_hasRun, f_begun, f_nowAt, f_endClass, (ar (mc_p g)), (ar (mc_e g)), (ar (mc_o g)), (mc_r g), (ar (mc_f g)), (ar (mc_t g)), (ar (mc_g g)), (ar (mc_k g)), a_placeKey, a_placeDepth, a_cameWith, a_ledWith, a_faults, a_found, a_hasFound, a_kept, a_hasMap, a_frame, a_kind, a_value, a_objectClass, a_objectReady) ((nI (mc_cc g)), (nI (mc_hc g)), yf_many, yf_there, yf_typed, yf_wrongNumber, yf_wrongPlace, yf_size, yf_why, yf_height, yf_objects, yf_line, yf_begun, yf_last, yf_end, (ar (mc_p g)), (ar (mc_e g)), (ar (mc_o g)), (mc_r g), (ar (mc_f g)), (ar (mc_t g)), (ar (mc_g g)), (ar (mc_k g)), ya_places, ya_heights, ya_gone, ya_worst, ya_frames, ya_maps, ya_high, ya_known, ya_mapped, ya_now, ya_sorts, ya_ints, ya_classes, ya_ready) := ⟨rfl, ⟨g, hG, ⟨rfl, rfl, rfl, rfl, rfl, rfl, rfl, rfl, rfl, rfl⟩, ⟨rfl, rfl, rfl, rfl, rfl, rfl, rfl, rfl, rfl, rfl⟩, hgr, hW, hwhy, hL, hR⟩⟩
  unfold wpX_run
  dsimp only
  by_cases E : ∃ n, 1 ≤ n ∧ n < 201 ∧ v1 = nI n
  · obtain ⟨n, n1, n2, rfl⟩ := E
    refine pk_lt n 1 (fun z => by omega) (fun _ => pk_lt 200 n (fun z => by omega) (fun _ => xa_lo hG (fun nM => xb_1 ?_) (fun hM => xb_0 ?_)))
    · unfold wpY_run
      dsimp only
      exact pk_lt n 1 (fun z => by omega) (fun _ => pk_lt 200 n (fun z => by omega) (fun _ => ya_im hG (fun hM => absurd hM nM) (fun _ => xb_0 done)))
    · obtain ⟨kd, rfl⟩ := ar_ex a_kind
      obtain ⟨oc, rfl⟩ := ar_ex a_objectClass
      obtain ⟨od, rfl⟩ := ar_ex a_objectReady
      obtain ⟨st, rfl⟩ := ar_ex ya_sorts
      obtain ⟨cl, rfl⟩ := ar_ex ya_classes
      obtain ⟨rd, rfl⟩ := ar_ex ya_ready
      have n4 : rq_n (mr_b0 g 4) ≤ 4 + 0 := (mr_b0k hG 4).1
      have ok4 := mr_b0ok hG
      obtain ⟨w0, hw0, hw4⟩ := mr_run_end (g := g) (most := n) n 0 (mr_b0 g 4) (by omega)
      refine xr_bv hG (fun kd1 oc1 od1 vl1 R1 => ⟨n + 3, ?_⟩)
      refine xr_loop hG hM (by omega) (mr_run g n (n + 1) 0 (mr_b0 g 4)) (fun w ew kd2 oc2 od2 vl2 R2 ok2 hn2 => ?_) n 0 (mr_b0 g 4) kd1 oc1 od1 vl1 (by omega) R1 ok4 n4 rfl
      unfold wpY_run
      dsimp only
      refine pk_lt n 1 (fun z => by omega) (fun _ => pk_lt 200 n (fun z => by omega) (fun _ => ya_im hG (fun _ => xb_1 ?_) (fun nM => absurd hM nM)))
      refine yr_bv hG (fun st1 cl1 rd1 it1 S1 => ⟨n + 3, ?_⟩)
      refine yr_loop hG hM (by omega) (mr_run g n (n + 1) 0 (mr_b0 g 4)) (fun w' ew' st2 cl2 rd2 it2 hh S2 => ?_) n 0 (mr_b0 g 4) st1 cl1 rd1 it1 (by omega) S1 ok4 n4 rfl
      have e : w' = w := by omega
      subst e
      exact ⟨rfl, g, hG, ⟨rfl, rfl, rfl, rfl, rfl, rfl, rfl, rfl, rfl, rfl⟩, ⟨rfl, rfl, rfl, rfl, rfl, rfl, rfl, rfl, rfl, rfl⟩, hgr, hW, hwhy, hL, Or.inr ⟨rfl, (mr_run g n (n + 1) 0 (mr_b0 g 4)).1, w', kd2, oc2, od2, st2, cl2, rd2, by omega, rfl, rfl, rfl, rfl, rfl, rfl, rfl, rfl, rfl, rfl, R2, S2, fun s hs => (ok2.2.2.1 s (by omega)).1, hn2⟩⟩
  · have y : wpY_run (fun r' v' => r' = -1 ∧ i_Rel (k + 5) ((nI (mc_cc g)), (nI (mc_hc g)), f_placeCount, f_tooMany, f_layAnswer, f_wrongKind, f_wrongKey, f_grown, f_frameDepth, f_frameThere, f_lastReason, f_valueDepth, f_objectCount, f_hasRun, f_begun, f_nowAt, f_endClass, (ar (mc_p g)), (ar (mc_e g)), (ar (mc_o g)), (mc_r g), (ar (mc_f g)), (ar (mc_t g)), (ar (mc_g g)), (ar (mc_k g)), a_placeKey, a_placeDepth, a_cameWith, a_ledWith, a_faults, a_found, a_hasFound, a_kept, a_hasMap, a_frame, a_kind, a_value, a_objectClass, a_objectReady) v') ((nI (mc_cc g)), (nI (mc_hc g)), yf_many, yf_there, yf_typed, yf_wrongNumber, yf_wrongPlace, yf_size, yf_why, yf_height, yf_objects, yf_line, yf_begun, yf_last, yf_end, (ar (mc_p g)), (ar (mc_e g)), (ar (mc_o g)), (mc_r g), (ar (mc_f g)), (ar (mc_t g)), (ar (mc_g g)), (ar (mc_k g)), ya_places, ya_heights, ya_gone, ya_worst, ya_frames, ya_maps, ya_high, ya_known, ya_mapped, ya_now, ya_sorts, ya_ints, ya_classes, ya_ready) v1 := by
      unfold wpY_run
      dsimp only
      refine br_c (fun _ => done) (fun a => br_c (fun _ => done) (fun b => ?_))
      obtain ⟨j, h1, h2, e⟩ := zr_rng (lo := 1) (hi := 201) a (zr_le (n := 200) (Int32.not_lt.mp b) (by omega)) (by omega) (by omega)
      exact absurd ⟨j, h1, h2, e⟩ E
    refine br_c (fun _ => y) (fun a => br_c (fun _ => y) (fun b => ?_))
    obtain ⟨j, h1, h2, e⟩ := zr_rng (lo := 1) (hi := 201) a (zr_le (n := 200) (Int32.not_lt.mp b) (by omega)) (by omega) (by omega)
    exact absurd ⟨j, h1, h2, e⟩ E
end
