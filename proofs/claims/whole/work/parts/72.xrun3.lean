/-! ===== the class: the whole run ===== -/
section
variable {f_codeCount f_coverCount f_placeCount f_tooMany f_layAnswer f_wrongKind f_wrongKey f_grown f_frameDepth f_frameThere f_lastReason f_valueDepth f_objectCount f_hasRun f_begun f_nowAt f_endClass : Int32} {a_parent a_entry a_code a_operand a_coverFrom a_coverTo a_coverTarget a_coverClass a_placeKey a_placeDepth a_cameWith a_ledWith a_faults a_found a_hasFound a_kept a_hasMap a_frame a_kind a_value a_objectClass a_objectReady : Nat → Int32}
variable {g : md_C}
def mr_le (x : Nat) : Int32 := if x = 0 then -1 else nI (x - 1)
theorem xr_begin {post : Int32 → SX → Prop} {q : mr_Q} {kd oc od : Nat → Nat} {vl : Nat → Int32} (hG : md_G g) (R : mr_X q kd vl oc od) (ok : mr_ok g q) (hn : rq_n q ≤ 203) (hl : rq_l q < mc_cc g) (H0 : (mr_st g q).2.1 = 0 → ∀ (kd oc od : Nat → Nat) (vl : Nat → Int32), mr_X (mr_st g q).1 kd vl oc od → post (-1) ((nI (mc_cc g)), (nI (mc_hc g)), f_placeCount, f_tooMany, f_layAnswer, f_wrongKind, f_wrongKey, f_grown, f_frameDepth, f_frameThere, f_lastReason, (nI (rq_h (mr_st g q).1)), (nI (rq_n (mr_st g q).1)), f_hasRun, f_begun, (nI (rq_l (mr_st g q).1)), (-1), (ar (mc_p g)), (ar (mc_e g)), (ar (mc_o g)), (mc_r g), (ar (mc_f g)), (ar (mc_t g)), (ar (mc_g g)), (ar (mc_k g)), a_placeKey, a_placeDepth, a_cameWith, a_ledWith, a_faults, a_found, a_hasFound, a_kept, a_hasMap, a_frame, (ar kd), vl, (ar oc), (ar od))) (H1 : ∀ w, (mr_st g q).2.1 = w + 1 → ∀ (kd oc od : Nat → Nat) (vl : Nat → Int32), mr_X (mr_st g q).1 kd vl oc od → post (nI w) ((nI (mc_cc g)), (nI (mc_hc g)), f_placeCount, f_tooMany, f_layAnswer, f_wrongKind, f_wrongKey, f_grown, f_frameDepth, f_frameThere, f_lastReason, (nI (rq_h (mr_st g q).1)), (nI (rq_n (mr_st g q).1)), f_hasRun, f_begun, (nI (rq_l (mr_st g q).1)), (mr_le (mr_st g q).2.2), (ar (mc_p g)), (ar (mc_e g)), (ar (mc_o g)), (mc_r g), (ar (mc_f g)), (ar (mc_t g)), (ar (mc_g g)), (ar (mc_k g)), a_placeKey, a_placeDepth, a_cameWith, a_ledWith, a_faults, a_found, a_hasFound, a_kept, a_hasMap, a_frame, (ar kd), vl, (ar oc), (ar od))) : wpX_begin post ((nI (mc_cc g)), (nI (mc_hc g)), f_placeCount, f_tooMany, f_layAnswer, f_wrongKind, f_wrongKey, f_grown, f_frameDepth, f_frameThere, f_lastReason, (nI (rq_h q)), (nI (rq_n q)), f_hasRun, f_begun, (nI (rq_l q)), (-1), (ar (mc_p g)), (ar (mc_e g)), (ar (mc_o g)), (mc_r g), (ar (mc_f g)), (ar (mc_t g)), (ar (mc_g g)), (ar (mc_k g)), a_placeKey, a_placeDepth, a_cameWith, a_ledWith, a_faults, a_found, a_hasFound, a_kept, a_hasMap, a_frame, (ar kd), vl, (ar oc), (ar od)) (nI (rq_l q)) := by
  have hcc := hG.1
  have h6 := ok.1
  have h20 : mr_o g q < 20 := hG.2.2.1 _
  unfold wpX_begin
  dsimp only
  refine xr_fn hG R ok (by omega) hl (fun gd => xb_1 ?_) (fun gd => xb_0 ?_)
  · refine xr_rat hG R ok hn hl gd (fun nrs => xb_m ?_) (fun ob q' hrs oc1 od1 R1 => ?_)
    · have st : mr_st g q = if mr_o g q = 17 then (q, 1, 0) else if mr_o g q = 18 then (q, 2, if 4 ≤ mr_t q then rq_C q (mr_t q - 4) + 1 else 0) else (mr_nx g q, 0, 0) := by
        unfold mr_st; rw [if_neg (fun z => z gd), nrs]
      refine ⟨vp_in_nI (by omega) (by omega), ?_⟩
      have eo : ar (mc_o g) (nI (rq_l q)).toNatClampNeg = nI (mr_o g q) := ar_at _ (by omega)
      dsimp only
      rw [eo]
      refine pk_eq (mr_o g q) 17 (fun c => ?_) (fun n17 => ⟨vp_in_nI (by omega) (by omega), pk_eq (mr_o g q) 18 (fun c => ?_) (fun n18 => ?_)⟩)
      · rw [if_pos c] at st
        rw [st] at H1
        exact H1 0 rfl kd oc od vl R
      · have hp : 1 ≤ rq_h q := by
          have := gd.1.1
          rw [c] at this; exact this
        have kl := mr_kdl (mr_t q)
        have r := R.1 (3 + rq_h q) (by omega)
        have e1 : ar kd (nI (3 + rq_h q)).toNatClampNeg = nI (mr_kd (mr_t q)) := by rw [ar_at _ (by omega), r.1]; rfl
        have e2 : vl (nI (3 + rq_h q)).toNatClampNeg = vl (3 + rq_h q) := by rw [nI_clamp (by omega)]
        rw [if_neg n17, if_pos c] at st
        rw [st] at H1
        refine nm_r (xr_top q) ?_
        rw [e1, e2]
        refine ⟨vp_in_nI (by omega) (by omega), pk_eq (mr_kd (mr_t q)) 3 (fun z => ⟨vp_in_nI (by omega) (by omega), ?_⟩) (fun z => ?_)⟩
        · have z' := mr_kd3.mp z
          have hj : mr_t q - 4 < rq_n q := (ok.2.2.1 (3 + rq_h q) (by omega)).1 z'
          have ev : vl (3 + rq_h q) = nI (mr_t q - 4) := r.2.2 z'
          have := H1 1 rfl kd oc od vl R
          dsimp only at this
          rw [if_pos z'] at this
          rw [ev]
          refine ⟨vp_in_nI (by omega) (by omega), nm_r (e' := nI (rq_C q (mr_t q - 4))) (by rw [ar_at _ (by omega), (R.2 _ hj).1]) ?_⟩
          exact this
        · have := H1 1 rfl kd oc od vl R
          dsimp only at this
          rw [if_neg (fun w => z (mr_kd3.mpr w))] at this
          exact this
      · rw [if_neg n17, if_neg n18] at st
        rw [st] at H0
        refine xr_next hG R ok hl gd n17 n18 ?_
        exact xr_chg hG R ok hn hl gd nrs n17 n18 (fun kd oc od vl R' => H0 rfl kd oc od vl R')
    · obtain ⟨ok1, hob, hn1, hl1⟩ := mr_rs_ok ok gd hrs
      have hob' : ob < rq_n q' := hob
      have hn1' : rq_n q' ≤ rq_n q + 1 := hn1
      have hl1' : rq_l q' = rq_l q := hl1
      have st : mr_st g q = mr_rz g q' ob := by
        unfold mr_st; rw [if_neg (fun z => z gd), hrs]
      rw [st] at H0 H1
      refine xb_n (by omega) ?_
      rw [← hl1']
      refine xr_raise hG R1 ok1 (by omega) (by omega) hob' (fun q2 e2 kd2 vl2 R2 => ?_) (fun e2 => ?_)
      · rw [e2] at H0
        exact H0 rfl kd2 oc1 od1 vl2 R2
      · rw [e2] at H1
        exact H1 2 rfl kd oc1 od1 vl R1
  · have st : mr_st g q = (q, 5, 0) := by
      unfold mr_st; rw [if_pos gd]
    rw [st] at H1
    exact H1 4 rfl kd oc od vl R
theorem xr_loop {post : Int32 → SX → Prop} {most : Nat} (hG : md_G g) (hM : md_M g) (hm : most ≤ 200) (res : mr_Q × Nat × Nat × Nat) (HP : ∀ w, res.2.1 = w + 1 → ∀ (kd oc od : Nat → Nat) (vl : Nat → Int32), mr_X res.1 kd vl oc od → mr_ok g res.1 → rq_n res.1 ≤ 204 → post (nI w) ((nI (mc_cc g)), (nI (mc_hc g)), f_placeCount, f_tooMany, f_layAnswer, f_wrongKind, f_wrongKey, f_grown, f_frameDepth, f_frameThere, f_lastReason, (nI (rq_h res.1)), (nI (rq_n res.1)), f_hasRun, (nI res.2.2.2), (nI (rq_l res.1)), (mr_le res.2.2.1), (ar (mc_p g)), (ar (mc_e g)), (ar (mc_o g)), (mc_r g), (ar (mc_f g)), (ar (mc_t g)), (ar (mc_g g)), (ar (mc_k g)), a_placeKey, a_placeDepth, a_cameWith, a_ledWith, a_faults, a_found, a_hasFound, a_kept, a_hasMap, a_frame, (ar kd), vl, (ar oc), (ar od))) : ∀ r b (q : mr_Q) (kd oc od : Nat → Nat) (vl : Nat → Int32), b + r = most → mr_X q kd vl oc od → mr_ok g q → rq_n q ≤ 4 + b → mr_run g most (r + 1) b q = res → wX_run_29 post (nI most) (r + 3) (-1) (nI b) (nI (mc_cc g)) (nI (mc_hc g)) f_placeCount f_tooMany f_layAnswer f_wrongKind f_wrongKey f_grown f_frameDepth f_frameThere f_lastReason (nI (rq_h q)) (nI (rq_n q)) f_hasRun (nI b) (nI (rq_l q)) (-1) (ar (mc_p g)) (ar (mc_e g)) (ar (mc_o g)) (mc_r g) (ar (mc_f g)) (ar (mc_t g)) (ar (mc_g g)) (ar (mc_k g)) a_placeKey a_placeDepth a_cameWith a_ledWith a_faults a_found a_hasFound a_kept a_hasMap a_frame (ar kd) vl (ar oc) (ar od) := by
  have out : ∀ n (x : Nat) (turn : Nat), turn ≤ 201 → ∀ (q : mr_Q) (kd oc od : Nat → Nat) (vl : Nat → Int32) (bb : Nat) (ec : Int32), post (nI x) ((nI (mc_cc g)), (nI (mc_hc g)), f_placeCount, f_tooMany, f_layAnswer, f_wrongKind, f_wrongKey, f_grown, f_frameDepth, f_frameThere, f_lastReason, (nI (rq_h q)), (nI (rq_n q)), f_hasRun, (nI bb), (nI (rq_l q)), ec, (ar (mc_p g)), (ar (mc_e g)), (ar (mc_o g)), (mc_r g), (ar (mc_f g)), (ar (mc_t g)), (ar (mc_g g)), (ar (mc_k g)), a_placeKey, a_placeDepth, a_cameWith, a_ledWith, a_faults, a_found, a_hasFound, a_kept, a_hasMap, a_frame, (ar kd), vl, (ar oc), (ar od)) → x ≤ 10 → wX_run_29 post (nI most) (n + 1) (nI x) (nI turn) (nI (mc_cc g)) (nI (mc_hc g)) f_placeCount f_tooMany f_layAnswer f_wrongKind f_wrongKey f_grown f_frameDepth f_frameThere f_lastReason (nI (rq_h q)) (nI (rq_n q)) f_hasRun (nI bb) (nI (rq_l q)) ec (ar (mc_p g)) (ar (mc_e g)) (ar (mc_o g)) (mc_r g) (ar (mc_f g)) (ar (mc_t g)) (ar (mc_g g)) (ar (mc_k g)) a_placeKey a_placeDepth a_cameWith a_ledWith a_faults a_found a_hasFound a_kept a_hasMap a_frame (ar kd) vl (ar oc) (ar od) := by
    intro n x turn ht q kd oc od vl bb ec h hx
    refine br_c (fun _ => h) (fun _ => br_f ?_ h)
    intro z
    have := nI_pos' (n := x) (by omega)
    rw [z] at this
    exact absurd this (by decide)
  intro r
  induction r with
  | zero =>
    intro b q kd oc od vl hb R ok hn er
    refine pk_lt 200 b (fun c => by omega) (fun _ => br_t rfl ?_)
    have hl := ok.2.1
    have hcc := hG.1
    simp only [mr_run] at er
    refine pk_lt (rq_l q) (mc_cc g) (fun c => ?_) (fun c => ?_)
    · refine pk_lt b most (fun d => by omega) (fun d => nm_r (nI_1 b) ?_)
      rw [if_neg (by omega), if_pos (by omega)] at er
      subst er
      exact out 1 3 (b + 1) (by omega) q kd oc od vl b (-1) (HP 3 rfl kd oc od vl R ok (by show rq_n q ≤ 204; omega)) (by omega)
    · rw [if_pos (by omega)] at er
      subst er
      exact nm_r (nI_1 b) (out 1 4 (b + 1) (by omega) q kd oc od vl b (-1) (HP 4 rfl kd oc od vl R ok (by show rq_n q ≤ 204; omega)) (by omega))
  | succ r ih =>
    intro b q kd oc od vl hb R ok hn er
    refine pk_lt 200 b (fun c => by omega) (fun _ => br_t rfl ?_)
    have hl := ok.2.1
    have hcc := hG.1
    rw [mr_run] at er
    refine pk_lt (rq_l q) (mc_cc g) (fun c => ?_) (fun c => ?_)
    · rw [if_neg (by omega), if_neg (by omega)] at er
      refine pk_lt b most (fun d => nm_r (nI_1 b) ?_) (fun d => by omega)
      obtain ⟨ok1, hn1⟩ := mr_st_ok hG hM ok c
      refine xr_begin hG R ok (by omega) c (fun e0 kd1 oc1 od1 vl1 R1 => nm_r (nI_1 b) ?_) (fun w e0 kd1 oc1 od1 vl1 R1 => nm_r (nI_1 b) ?_)
      · rw [if_pos e0] at er
        exact ih (b + 1) (mr_st g q).1 kd1 oc1 od1 vl1 (by omega) R1 ok1 (by omega) er
      · rw [if_neg (by omega)] at er
        subst er
        have w4 : w ≤ 4 := by
          have : (mr_st g q).2.1 ≤ 5 := by
            unfold mr_st mr_rz
            repeat' split
            all_goals (first | omega | (dsimp only; omega))
          omega
        exact out (r + 2) w (b + 1) (by omega) (mr_st g q).1 kd1 oc1 od1 vl1 (b + 1) _ (HP w e0 kd1 oc1 od1 vl1 R1 ok1 (by show rq_n (mr_st g q).1 ≤ 204; omega)) (by omega)
    · rw [if_pos (by omega)] at er
      subst er
      exact nm_r (nI_1 b) (out (r + 2) 4 (b + 1) (by omega) q kd oc od vl b (-1) (HP 4 rfl kd oc od vl R ok (by show rq_n q ≤ 204; omega)) (by omega))
/-- the values that a run begins with -/
def mr_b0 (g : md_C) : Nat → mr_Q
  | 0 => (fun _ => 0, fun _ => 0, fun _ => 0, fun _ => false, 0, 0, 0)
  | s + 1 => if 3 ≤ mc_e g s then (mf_up (rq_S (mr_b0 g s)) s (4 + rq_n (mr_b0 g s)), upd (rq_I (mr_b0 g s)) s 0, mf_up (rq_C (mr_b0 g s)) (rq_n (mr_b0 g s)) (mc_e g s - 3), mr_uB (rq_R (mr_b0 g s)) (rq_n (mr_b0 g s)) true, 0, rq_n (mr_b0 g s) + 1, 0) else (mf_up (rq_S (mr_b0 g s)) s (mc_e g s), upd (rq_I (mr_b0 g s)) s 0, rq_C (mr_b0 g s), rq_R (mr_b0 g s), 0, rq_n (mr_b0 g s), 0)
theorem mr_b0o {s : Nat} (h : 3 ≤ mc_e g s) : mr_b0 g (s + 1) = (mf_up (rq_S (mr_b0 g s)) s (4 + rq_n (mr_b0 g s)), upd (rq_I (mr_b0 g s)) s 0, mf_up (rq_C (mr_b0 g s)) (rq_n (mr_b0 g s)) (mc_e g s - 3), mr_uB (rq_R (mr_b0 g s)) (rq_n (mr_b0 g s)) true, 0, rq_n (mr_b0 g s) + 1, 0) := by
  simp only [mr_b0]; rw [if_pos h]
theorem mr_b0n {s : Nat} (h : ¬ 3 ≤ mc_e g s) : mr_b0 g (s + 1) = (mf_up (rq_S (mr_b0 g s)) s (mc_e g s), upd (rq_I (mr_b0 g s)) s 0, rq_C (mr_b0 g s), rq_R (mr_b0 g s), 0, rq_n (mr_b0 g s), 0) := by
  simp only [mr_b0]; rw [if_neg h]
theorem mr_b0h (g : md_C) : ∀ s, rq_h (mr_b0 g s) = 0 ∧ rq_l (mr_b0 g s) = 0 := by
  intro s
  cases s with
  | zero => exact ⟨rfl, rfl⟩
  | succ s =>
    by_cases h : 3 ≤ mc_e g s
    · rw [mr_b0o h]; exact ⟨rfl, rfl⟩
    · rw [mr_b0n h]; exact ⟨rfl, rfl⟩
theorem mr_b0k (hG : md_G g) : ∀ s, rq_n (mr_b0 g s) ≤ s ∧ (∀ t, t < s → (4 ≤ rq_S (mr_b0 g s) t → rq_S (mr_b0 g s) t - 4 < rq_n (mr_b0 g s)) ∧ ¬ rq_S (mr_b0 g s) t = 3) ∧ (∀ j, j < rq_n (mr_b0 g s) → rq_C (mr_b0 g s) j < 8) := by
  intro s
  induction s with
  | zero => exact ⟨Nat.le_refl _, fun t ht => by omega, fun j hj => by have : j < 0 := hj; omega⟩
  | succ s ih =>
    obtain ⟨i1, i2, i3⟩ := ih
    have he := hG.2.2.2.2.2.2 s
    by_cases h : 3 ≤ mc_e g s
    · rw [mr_b0o h]
      refine ⟨?_, fun t ht => ?_, fun j hj => ?_⟩
      · show rq_n (mr_b0 g s) + 1 ≤ s + 1; omega
      · show (4 ≤ mf_up (rq_S (mr_b0 g s)) s (4 + rq_n (mr_b0 g s)) t → mf_up (rq_S (mr_b0 g s)) s (4 + rq_n (mr_b0 g s)) t - 4 < rq_n (mr_b0 g s) + 1) ∧ ¬ mf_up (rq_S (mr_b0 g s)) s (4 + rq_n (mr_b0 g s)) t = 3
        by_cases e : t = s
        · subst e; rw [up_s]; exact ⟨fun _ => by omega, by omega⟩
        · rw [up_n e]
          have := i2 t (by omega)
          exact ⟨fun z => by have := this.1 z; omega, this.2⟩
      · have hj' : j < rq_n (mr_b0 g s) + 1 := hj
        show mf_up (rq_C (mr_b0 g s)) (rq_n (mr_b0 g s)) (mc_e g s - 3) j < 8
        by_cases e : j = rq_n (mr_b0 g s)
        · subst e; rw [up_s]; omega
        · rw [up_n e]; exact i3 j (by omega)
    · rw [mr_b0n h]
      refine ⟨?_, fun t ht => ?_, i3⟩
      · show rq_n (mr_b0 g s) ≤ s + 1; omega
      · show (4 ≤ mf_up (rq_S (mr_b0 g s)) s (mc_e g s) t → mf_up (rq_S (mr_b0 g s)) s (mc_e g s) t - 4 < rq_n (mr_b0 g s)) ∧ ¬ mf_up (rq_S (mr_b0 g s)) s (mc_e g s) t = 3
        by_cases e : t = s
        · subst e; rw [up_s]; exact ⟨fun _ => by omega, by omega⟩
        · rw [up_n e]; exact i2 t (by omega)
theorem mr_b0ok (hG : md_G g) : mr_ok g (mr_b0 g 4) := by
  obtain ⟨h1, h2⟩ := mr_b0h g 4
  obtain ⟨k1, k2, k3⟩ := mr_b0k hG 4
  refine ⟨by omega, by omega, fun s hs => ⟨(k2 s (by omega)).1, fun z => absurd z (k2 s (by omega)).2⟩, k3⟩
theorem xr_bv {post : SX → Prop} {kd oc od : Nat → Nat} {vl : Nat → Int32} (hG : md_G g) (H : ∀ (kd oc od : Nat → Nat) (vl : Nat → Int32), mr_X (mr_b0 g 4) kd vl oc od → post ((nI (mc_cc g)), (nI (mc_hc g)), f_placeCount, f_tooMany, f_layAnswer, f_wrongKind, f_wrongKey, f_grown, f_frameDepth, f_frameThere, f_lastReason, (nI (rq_h (mr_b0 g 4))), (nI (rq_n (mr_b0 g 4))), 1, 0, (nI (rq_l (mr_b0 g 4))), (-1), (ar (mc_p g)), (ar (mc_e g)), (ar (mc_o g)), (mc_r g), (ar (mc_f g)), (ar (mc_t g)), (ar (mc_g g)), (ar (mc_k g)), a_placeKey, a_placeDepth, a_cameWith, a_ledWith, a_faults, a_found, a_hasFound, a_kept, a_hasMap, a_frame, (ar kd), vl, (ar oc), (ar od))) : wpX_beginValues post ((nI (mc_cc g)), (nI (mc_hc g)), f_placeCount, f_tooMany, f_layAnswer, f_wrongKind, f_wrongKey, f_grown, f_frameDepth, f_frameThere, f_lastReason, f_valueDepth, f_objectCount, f_hasRun, f_begun, f_nowAt, f_endClass, (ar (mc_p g)), (ar (mc_e g)), (ar (mc_o g)), (mc_r g), (ar (mc_f g)), (ar (mc_t g)), (ar (mc_g g)), (ar (mc_k g)), a_placeKey, a_placeDepth, a_cameWith, a_ledWith, a_faults, a_found, a_hasFound, a_kept, a_hasMap, a_frame, (ar kd), vl, (ar oc), (ar od)) := by
  have L : ∀ e s, s + e = 4 → ∀ (kd oc od : Nat → Nat) (vl : Nat → Int32), (∀ t, t < s → kd t = mr_kd (rq_S (mr_b0 g s) t) ∧ (rq_S (mr_b0 g s) t = 1 ∨ rq_S (mr_b0 g s) t = 3 → vl t = rq_I (mr_b0 g s) t) ∧ (4 ≤ rq_S (mr_b0 g s) t → vl t = nI (rq_S (mr_b0 g s) t - 4))) → (∀ j, j < rq_n (mr_b0 g s) → oc j = rq_C (mr_b0 g s) j ∧ od j = (rq_R (mr_b0 g s) j).toNat) → wX_beginValues_32 post (e + 1) (nI s) (nI (mc_cc g)) (nI (mc_hc g)) f_placeCount f_tooMany f_layAnswer f_wrongKind f_wrongKey f_grown f_frameDepth f_frameThere f_lastReason 0 (nI (rq_n (mr_b0 g s))) 1 0 0 (-1) (ar (mc_p g)) (ar (mc_e g)) (ar (mc_o g)) (mc_r g) (ar (mc_f g)) (ar (mc_t g)) (ar (mc_g g)) (ar (mc_k g)) a_placeKey a_placeDepth a_cameWith a_ledWith a_faults a_found a_hasFound a_kept a_hasMap a_frame (ar kd) vl (ar oc) (ar od) := by
    intro e
    induction e with
    | zero =>
      intro s hs kd oc od vl h1 h2
      have es : s = 4 := by omega
      subst es
      obtain ⟨hh, hl⟩ := mr_b0h g 4
      refine pk_le 4 4 (fun _ => ?_) (fun c => by omega)
      have := H kd oc od vl ⟨fun t ht => h1 t (by omega), h2⟩
      rw [hh, hl] at this; exact this
    | succ e ih =>
      intro s hs kd oc od vl h1 h2
      have he := hG.2.2.2.2.2.2 s
      obtain ⟨kn, _, _⟩ := mr_b0k hG s
      refine pk_le 4 s (fun c => by omega) (fun _ => ⟨vp_in_nI (by omega) (by omega), nm_r (ar_at _ (by omega)) ⟨vp_in_nI (by omega) (by omega), nm_r (e' := upd vl s 0) (by rw [nI_clamp (by omega)]) ?_⟩⟩)
      have step : ∀ (k : Nat), k = mr_kd (mc_e g s) → ¬ 3 ≤ mc_e g s → wX_beginValues_32 post (e + 1) (nI (s + 1)) (nI (mc_cc g)) (nI (mc_hc g)) f_placeCount f_tooMany f_layAnswer f_wrongKind f_wrongKey f_grown f_frameDepth f_frameThere f_lastReason 0 (nI (rq_n (mr_b0 g s))) 1 0 0 (-1) (ar (mc_p g)) (ar (mc_e g)) (ar (mc_o g)) (mc_r g) (ar (mc_f g)) (ar (mc_t g)) (ar (mc_g g)) (ar (mc_k g)) a_placeKey a_placeDepth a_cameWith a_ledWith a_faults a_found a_hasFound a_kept a_hasMap a_frame (ar (mf_up kd s k)) (upd vl s 0) (ar oc) (ar od) := by
        intro k ek h3
        have := ih (s + 1) (by omega) (mf_up kd s k) oc od (upd vl s 0)
        rw [mr_b0n h3] at this
        refine this (fun t ht => ?_) h2
        show mf_up kd s k t = mr_kd (mf_up (rq_S (mr_b0 g s)) s (mc_e g s) t) ∧ (mf_up (rq_S (mr_b0 g s)) s (mc_e g s) t = 1 ∨ mf_up (rq_S (mr_b0 g s)) s (mc_e g s) t = 3 → upd vl s 0 t = upd (rq_I (mr_b0 g s)) s 0 t) ∧ (4 ≤ mf_up (rq_S (mr_b0 g s)) s (mc_e g s) t → upd vl s 0 t = nI (mf_up (rq_S (mr_b0 g s)) s (mc_e g s) t - 4))
        by_cases w : t = s
        · subst w
          rw [up_s, up_s, pk_us, pk_us]; exact ⟨ek, fun _ => rfl, fun z => by omega⟩
        · rw [up_n w, up_n w, pk_un w, pk_un w]; exact h1 t (by omega)
      refine pk_lt (mc_e g s) 3 (fun c => pk_eq (mc_e g s) 2 (fun d => ⟨vp_in_nI (by omega) (by omega), nm_r (ar_ui kd 2 (by omega)) (nm_r (nI_1 s) (step 2 (by rw [d]; rfl) (by omega)))⟩) (fun d => pk_eq (mc_e g s) 1 (fun d1 => ⟨vp_in_nI (by omega) (by omega), nm_r (ar_ui kd 1 (by omega)) (nm_r (nI_1 s) (step 1 (by rw [d1]; rfl) (by omega)))⟩) (fun d1 => ⟨vp_in_nI (by omega) (by omega), nm_r (ar_ui kd 0 (by omega)) (nm_r (nI_1 s) (step 0 (by rw [show mc_e g s = 0 by omega]; rfl) (by omega)))⟩))) (fun c => ⟨vp_in_nI (by omega) (by omega), nm_r (ar_ui kd 3 (by omega)) ?_⟩)
      have e3 : nI (mc_e g s) - 3 = nI (mc_e g s - 3) := pk_sub (b := 3) c
      rw [e3]
      have hh := (mr_b0h g s).1
      unfold wpX_makeObject
      dsimp only
      refine pk_lt (rq_n (mr_b0 g s)) 204 (fun _ => ⟨vp_in_nI (by omega) (by omega), nm_r (ar_ui _ _ (by omega)) ⟨vp_in_nI (by omega) (by omega), nm_r (e' := ar (mf_up od (rq_n (mr_b0 g s)) 1)) (by rw [mi_n1]; exact ar_ui od 1 (by omega)) (nm_r (nI_1 _) ⟨vp_in_nI (by omega) (by omega), nm_r (e' := upd (upd vl s 0) s (nI (rq_n (mr_b0 g s)))) (by rw [nI_clamp (by omega)]) (nm_r (nI_1 s) ?_)⟩)⟩⟩) (fun c => by omega)
      have := ih (s + 1) (by omega) (mf_up kd s 3) (mf_up oc (rq_n (mr_b0 g s)) (mc_e g s - 3)) (mf_up od (rq_n (mr_b0 g s)) 1) (upd (upd vl s 0) s (nI (rq_n (mr_b0 g s))))
      rw [mr_b0o c] at this
      refine this (fun t ht => ?_) (fun j hj => ?_)
      · show mf_up kd s 3 t = mr_kd (mf_up (rq_S (mr_b0 g s)) s (4 + rq_n (mr_b0 g s)) t) ∧ (mf_up (rq_S (mr_b0 g s)) s (4 + rq_n (mr_b0 g s)) t = 1 ∨ mf_up (rq_S (mr_b0 g s)) s (4 + rq_n (mr_b0 g s)) t = 3 → upd (upd vl s 0) s (nI (rq_n (mr_b0 g s))) t = upd (rq_I (mr_b0 g s)) s 0 t) ∧ (4 ≤ mf_up (rq_S (mr_b0 g s)) s (4 + rq_n (mr_b0 g s)) t → upd (upd vl s 0) s (nI (rq_n (mr_b0 g s))) t = nI (mf_up (rq_S (mr_b0 g s)) s (4 + rq_n (mr_b0 g s)) t - 4))
        by_cases w : t = s
        · subst w
          rw [up_s, up_s, pk_us]
          refine ⟨(mr_kd3.mpr (by omega)).symm, fun z => by omega, fun _ => congrArg nI (by omega)⟩
        · rw [up_n w, up_n w, pk_un w, pk_un w, pk_un w]; exact h1 t (by omega)
      · have hj' : j < rq_n (mr_b0 g s) + 1 := hj
        show mf_up oc (rq_n (mr_b0 g s)) (mc_e g s - 3) j = mf_up (rq_C (mr_b0 g s)) (rq_n (mr_b0 g s)) (mc_e g s - 3) j ∧ mf_up od (rq_n (mr_b0 g s)) 1 j = (mr_uB (rq_R (mr_b0 g s)) (rq_n (mr_b0 g s)) true j).toNat
        unfold mr_uB
        by_cases w : j = rq_n (mr_b0 g s)
        · subst w; rw [up_s, up_s, up_s, if_pos rfl]; exact ⟨rfl, rfl⟩
        · rw [up_n w, up_n w, up_n w, if_neg w]; exact h2 j (by omega)
  unfold wpX_beginValues
  dsimp only
  exact ⟨5, L 4 0 rfl kd oc od vl (fun t ht => by omega) (fun j hj => by have : j < 0 := hj; omega)⟩
end
