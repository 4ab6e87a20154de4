/-! ===== the relation ===== -/
section
def ir_W (la wk wy yn yp : Int32) : Prop := (¬ la = 1 ∧ yn = -1) ∨ (la = 1 ∧ ((wk = 7 ∧ wy = -1 ∧ yn = 7) ∨ ∃ p n : Nat, 0 < n ∧ n ≤ 6 ∧ p < 1327104 ∧ wk = nI n ∧ wy = nI (md_kx p) ∧ yn = nI n ∧ yp = nI p))
def ir_L (g : md_C) (pc la : Int32) (pk pd fo kp hm : Nat → Int32) (th ty mn : Int32) (pl fr mp hi md : Nat → Int32) : Prop := (pc = 0 ∧ th = 0) ∨ (th = 1 ∧ md_M g ∧ ∃ (m : Nat) (P D kr ql qh qm qd qk qp : Nat → Nat) (M : Nat → Bool) (K : Nat → Nat → Nat), ml_Y g m P D ∧ pc = nI m ∧ mn = nI m ∧ pk = ar kr ∧ pd = ar D ∧ pl = ar ql ∧ hi = ar qh ∧ hm = ar qm ∧ md = ar qd ∧ kp = ar qk ∧ mp = ar qp ∧ (∀ k, k < m → kr k = md_kx (P k)) ∧ (∀ k, k < m → ql k = P k) ∧ (∀ k, k < m → qh k = D k) ∧ (∀ k, k < m → qm k = (M k).toNat) ∧ (∀ k, k < m → qd k = (M k).toNat) ∧ (∀ k, k < m → (M k = true ↔ ∃ j, j < m ∧ mg_hit g P j k)) ∧ mk_A m D K qk ∧ mk_A m D K qp ∧ (∀ q s, K q s ≤ 90) ∧ ((la = 0 ∧ ty = 1 ∧ ∃ (qf qe : Nat → Nat) (T : Nat → Nat → Nat), fo = ar qf ∧ fr = ar qe ∧ mk_A m D T qf ∧ mk_A m D T qe) ∨ (¬ la = 0 ∧ ty = 0)))
def ir_R (hr bg na ec : Int32) (kd vl oc od : Nat → Int32) (yb yl ya ye : Int32) (st it cl rd : Nat → Int32) : Prop := (hr = 0 ∧ ye = -1 ∧ yb = 0) ∨ (hr = 1 ∧ ∃ (q : mr_Q) (w : Nat) (qk qo qd qs qc qr : Nat → Nat), w ≤ 4 ∧ ye = nI w ∧ bg = yb ∧ na = yl ∧ ec = ya ∧ kd = ar qk ∧ oc = ar qo ∧ od = ar qd ∧ st = ar qs ∧ cl = ar qc ∧ rd = ar qr ∧ mr_X q qk vl qo qd ∧ mr_Yn 4 q qs it qc qr ∧ (∀ s, s < 4 → 4 ≤ rq_S q s → rq_S q s - 4 < rq_n q) ∧ rq_n q ≤ 204)
def i_Rel (_ : Nat) (u : SX) (v : SY) : Prop := match u, v with
  | (f_codeCount, f_coverCount, f_placeCount, f_tooMany, f_layAnswer, f_wrongKind, f_wrongKey, f_grown, f_frameDepth, f_frameThere, f_lastReason, f_valueDepth, f_objectCount, f_hasRun, f_begun, f_nowAt, f_endClass, a_parent, a_entry, a_code, a_operand, a_coverFrom, a_coverTo, a_coverTarget, a_coverClass, a_placeKey, a_placeDepth, a_cameWith, a_ledWith, a_faults, a_found, a_hasFound, a_kept, a_hasMap, a_frame, a_kind, a_value, a_objectClass, a_objectReady), (yf_length, yf_handlers, yf_many, yf_there, yf_typed, yf_wrongNumber, yf_wrongPlace, yf_size, yf_why, yf_height, yf_objects, yf_line, yf_begun, yf_last, yf_end, ya_parent, ya_begin, ya_op, ya_arg, ya_from, ya_to, ya_target, ya_caught, ya_places, ya_heights, ya_gone, ya_worst, ya_frames, ya_maps, ya_high, ya_known, ya_mapped, ya_now, ya_sorts, ya_ints, ya_classes, ya_ready) => ∃ g : md_C, md_G g ∧ (f_codeCount = nI (mc_cc g) ∧ f_coverCount = nI (mc_hc g) ∧ a_parent = ar (mc_p g) ∧ a_entry = ar (mc_e g) ∧ a_code = ar (mc_o g) ∧ a_operand = mc_r g ∧ a_coverFrom = ar (mc_f g) ∧ a_coverTo = ar (mc_t g) ∧ a_coverTarget = ar (mc_g g) ∧ a_coverClass = ar (mc_k g)) ∧ (yf_length = nI (mc_cc g) ∧ yf_handlers = nI (mc_hc g) ∧ ya_parent = ar (mc_p g) ∧ ya_begin = ar (mc_e g) ∧ ya_op = ar (mc_o g) ∧ ya_arg = mc_r g ∧ ya_from = ar (mc_f g) ∧ ya_to = ar (mc_t g) ∧ ya_target = ar (mc_g g) ∧ ya_caught = ar (mc_k g)) ∧ (∃ b, f_grown = mf_b b) ∧ ir_W f_layAnswer f_wrongKind f_wrongKey yf_wrongNumber yf_wrongPlace ∧ f_lastReason = yf_why ∧ ir_L g f_placeCount f_layAnswer a_placeKey a_placeDepth a_found a_kept a_hasMap yf_there yf_typed yf_many ya_places ya_frames ya_maps ya_high ya_mapped ∧ ir_R f_hasRun f_begun f_nowAt f_endClass a_kind a_value a_objectClass a_objectReady yf_begun yf_line yf_last yf_end ya_sorts ya_ints ya_classes ya_ready
theorem i_up {k : Nat} {u : SX} {v : SY} (h : i_Rel k u v) : i_Rel (k + 5) u v := h
theorem i_vc0 : wpX_init (fun u => wpY_init (fun v => i_Rel 0 u v)) := by
  refine ⟨(0, 0, fun _ => 0, fun _ => 0, fun _ => 0, fun _ => 0, fun _ => 0, fun _ => 0, fun _ => 0, fun _ => 0), ?_, ⟨rfl, rfl, rfl, rfl, rfl, rfl, rfl, rfl, rfl, rfl⟩, ⟨rfl, rfl, rfl, rfl, rfl, rfl, rfl, rfl, rfl, rfl⟩, ⟨false, rfl⟩, Or.inl ⟨by decide, rfl⟩, rfl, Or.inl ⟨rfl, rfl⟩, Or.inl ⟨rfl, rfl, rfl⟩⟩
  refine ⟨by show 0 ≤ 24; omega, by show 0 ≤ 4; omega, fun i => by show 0 < 20; omega, fun i h => ?_, fun x => ⟨by show 0 < 24; omega, by show 0 ≤ 24; omega, by show 0 < 24; omega, by show 0 < 8; omega⟩, fun c => by show 0 ≤ c - 1; omega, fun s => by show 0 ≤ 10; omega⟩
  have h' : 0 < md_lim 0 := h
  exact absurd h' (by decide)
theorem zr_rng {x : Int32} {lo hi : Nat} (h1 : ¬ x < nI lo) (h2 : x < nI hi) (hl : lo < 2 ^ 31) (hh : hi < 2 ^ 31) : ∃ j, lo ≤ j ∧ j < hi ∧ x = nI j := by
  have n0 : ¬ x < 0 := fun z => h1 (Int32.lt_of_lt_of_le z (nI_pos' hl))
  obtain ⟨j, hj, rfl⟩ := nI_of n0
  rw [nI_ltI hj hl] at h1
  rw [nI_ltI hj hh] at h2
  exact ⟨j, by omega, h2, rfl⟩
theorem zr_rng0 {x : Int32} {hi : Nat} (h1 : ¬ x < 0) (h2 : x < nI hi) (hh : hi < 2 ^ 31) : ∃ j, j < hi ∧ x = nI j := by
  obtain ⟨j, _, h, e⟩ := zr_rng (lo := 0) h1 h2 (by omega) hh
  exact ⟨j, h, e⟩
theorem zr_le {x : Int32} {n : Nat} (h : x ≤ nI n) (hn : n < 2 ^ 30) : x < nI (n + 1) := by
  refine Int32.lt_of_le_of_lt h ?_
  exact nI_lt (by omega) (by omega)
theorem ya_in {post : Int32 → Prop} {x : Int32} {n : Nat} (hn : n < 2 ^ 31) (h1 : ∀ j, j < n → x = nI j → post 1) (h0 : (¬ ∃ j, j < n ∧ x = nI j) → post 0) : wpY_in post x (nI n) := by
  unfold wpY_in
  refine br_c (fun a => h0 ?_) (fun a => br_c (fun b => h0 ?_) (fun b => ?_))
  · rintro ⟨j, hj, rfl⟩; exact nI_pos (by omega) a
  · rintro ⟨j, hj, rfl⟩
    rw [nI_leI hn (by omega)] at b; omega
  · obtain ⟨j, hj, e⟩ := zr_rng0 a (Int32.not_le.mp b) hn
    exact h1 j hj e
end
