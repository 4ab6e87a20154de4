/-! ===== the class: keys, jumps, faults ===== -/
section
variable {f_codeCount f_coverCount f_placeCount f_tooMany f_layAnswer f_wrongKind f_wrongKey f_grown f_frameDepth f_frameThere f_lastReason f_valueDepth f_objectCount f_hasRun f_begun f_nowAt f_endClass : Int32} {a_parent a_entry a_code a_operand a_coverFrom a_coverTo a_coverTarget a_coverClass a_placeKey a_placeDepth a_cameWith a_ledWith a_faults a_found a_hasFound a_kept a_hasMap a_frame a_kind a_value a_objectClass a_objectReady : Nat → Int32}
variable {g : md_C} {post : Int32 → Prop}
theorem xa_ckg {k n s j r : Nat} (hk : k < 4194304) (hn : k / 1048576 = n) (n0 : 0 < n) (n3 : n ≤ 3) (hs : s = 20 - 5 * n) (hj : k / 2 ^ s % 32 = j) (hr : 1048576 + j * 2 ^ s + k % 32 ≤ k) (e : k - 1048576 - j * 2 ^ s - k % 32 + j = r) (h : post (nI r)) : wpX_callerKey post (nI k) := by
  unfold wpX_callerKey
  refine nm_r (xk_20 hk) ?_
  rw [hn]
  refine pk_eq n 0 (fun c => absurd c (by omega)) (fun c => ?_)
  have e1 : (20 : Int32) - 5 * nI n = nI s := by
    show nI 20 - nI 5 * nI n = nI s
    rw [pk_mul, pk_sub (by omega), hs]
  refine nm_r e1 ?_
  have e2 : nI k >>> (nI s &&& 31) &&& 31 = nI j := by
    rw [xk_s hk (by omega), xk_31 (Nat.lt_of_le_of_lt (Nat.div_le_self _ _) hk), hj]
  refine nm_r e2 ?_
  have e3 : nI j <<< (nI s &&& 31) = nI (j * 2 ^ s) := xk_l (by omega) (by omega)
  rw [e3, xk_31 hk]
  have e4 : nI k - 1048576 - nI (j * 2 ^ s) - nI (k % 32) + nI j = nI r := by
    show nI k - nI 1048576 - nI (j * 2 ^ s) - nI (k % 32) + nI j = nI r
    rw [pk_sub (by omega), pk_sub (by omega), pk_sub (by omega), nI_add, e]
  rw [e4]; exact h
theorem xa_ck {p : Nat} (hG : mc_cc g ≤ 24) (hV : md_V g p) (hn : 0 < md_n p) (h : post (nI (md_kx (md_cl p)))) : wpX_callerKey post (nI (md_kx p)) := by
  rcases md_V4 hV with ⟨i, hi, rfl⟩ | ⟨a, i, ha, hi, rfl⟩ | ⟨a, b, i, ha, hb, hi, rfl⟩ | ⟨a, b, c, i, ha, hb, hc, hi, rfl⟩
  · exact absurd hn (by unfold md_n; rw [my_n (by omega) (by omega) (by omega) (by omega)]; omega)
  · rw [md_cl1 (by omega) (by omega), my_kx (by omega) (by omega) (by omega) (by omega)] at h
    rw [my_kx (by omega) (by omega) (by omega) (by omega)]
    refine xa_ckg (n := 1) (s := 15) (j := a) ?_ ?_ (by omega) (by omega) rfl ?_ ?_ ?_ h <;> unfold md_x <;> omega
  · rw [md_cl2 (by omega) (by omega) (by omega), my_kx (by omega) (by omega) (by omega) (by omega)] at h
    rw [my_kx (by omega) (by omega) (by omega) (by omega)]
    refine xa_ckg (n := 2) (s := 10) (j := b) ?_ ?_ (by omega) (by omega) rfl ?_ ?_ ?_ h <;> unfold md_x <;> omega
  · rw [md_cl3 (by omega) (by omega) (by omega) (by omega), my_kx (by omega) (by omega) (by omega) (by omega)] at h
    rw [my_kx (by omega) (by omega) (by omega) (by omega)]
    refine xa_ckg (n := 3) (s := 5) (j := c) ?_ ?_ (by omega) (by omega) rfl ?_ ?_ ?_ h <;> unfold md_x <;> omega
theorem xa_ck0 {p : Nat} (hp : p < 1327104) (hn : md_n p = 0) (h : post (-1)) : wpX_callerKey post (nI (md_kx p)) := by
  unfold wpX_callerKey
  refine nm_r (xk_20 (md_kxlt p hp)) ?_
  rw [xk_n, hn]
  exact br_t rfl h
theorem xa_co {p : Nat} {x : Int32} (hp : p < 1327104) (h0 : x = 0 → post (nI (md_n p))) (hj : ∀ j, j < md_n p → x = nI (j + 1) → post (nI (md_c p j))) (hm : ¬ x = 0 → (∀ j, j < md_n p → ¬ x = nI (j + 1)) → post (-1)) : wpX_callOf post (nI (md_kx p)) x := by
  have hk := md_kxlt p hp
  have hn4 : md_n p < 4 := by unfold md_n; omega
  unfold wpX_callOf
  refine nm_r (xk_20 hk) ?_
  rw [xk_n]
  refine br_c h0 (fun c => br_c (fun d => hm c (fun j hj e => ?_)) (fun d => ?_))
  · rw [e] at d; exact nI_pos (by omega) d
  · obtain ⟨i, hi, rfl⟩ := nI_of d
    refine pk_le i (md_n p) (fun l => ?_) (fun l => ?_)
    · obtain ⟨j, rfl⟩ : ∃ j, i = j + 1 := by
        cases i with
        | zero => exact absurd rfl c
        | succ j => exact ⟨j, rfl⟩
      have e1 : (20 : Int32) - 5 * nI (j + 1) = nI (20 - 5 * (j + 1)) := by
        show nI 20 - nI 5 * nI (j + 1) = _
        rw [pk_mul, pk_sub (by omega)]
      rw [e1, xk_s hk (by omega), xk_31 (Nat.lt_of_le_of_lt (Nat.div_le_self _ _) hk), xk_c p j (by omega)]
      exact hj j (by omega) rfl
    · refine hm c (fun j hj e => ?_)
      have := (nI_eq (by omega) (by omega)).mp e
      omega
theorem xa_isCalled {p i : Nat} (hp : p < 1327104) (hi : i < 24) (h1 : (∃ j, j < md_n p ∧ md_c p j = i) → post 1) (h0 : ¬ (∃ j, j < md_n p ∧ md_c p j = i) → post 0) : wpX_isCalled post (nI (md_kx p)) (nI i) := by
  have hn4 : md_n p < 4 := by unfold md_n; omega
  have hc24 : ∀ j, md_c p j < 24 := by
    intro j; unfold md_c; split
    · omega
    · split <;> omega
  unfold wpX_isCalled
  refine nm_r (xk_20 (md_kxlt p hp)) ?_
  rw [xk_n]
  have L : ∀ d k, k + d = 3 → (∀ j, j < k → j < md_n p → ¬ md_c p j = i) → wX_isCalled_7 post (nI (md_kx p)) (nI i) (nI (md_n p)) (d + 1) (nI (k + 1)) := by
    intro d
    induction d with
    | zero =>
      intro k hk hno
      refine pk_lt 3 (k + 1) (fun c => ?_) (fun c => ?_)
      · refine h0 ?_
        rintro ⟨j, hj, e⟩
        exact hno j (by omega) hj e
      · omega
    | succ d ih =>
      intro k hk hno
      refine pk_lt 3 (k + 1) (fun c => by omega) (fun c => ?_)
      refine pk_lt (md_n p) (k + 1) (fun e => ?_) (fun e => ?_)
      · refine h0 ?_
        rintro ⟨j, hj, e'⟩
        exact hno j (by omega) hj e'
      · refine xa_co hp (fun z => absurd z (nI_ne0 (by omega) (by omega))) (fun j hj e' => ?_) (fun _ z => absurd rfl (z k (by omega)))
        have ejk : k = j := by
          have := (nI_eq (by omega) (by omega)).mp e'
          omega
        subst ejk
        refine pk_eq (md_c p k) i (fun z => h1 ⟨k, hj, z⟩) (fun z => ?_) rfl rfl (by have := hc24 k; omega) (by omega)
        refine nm_r (nI_1 (k + 1)) (ih (k + 1) (by omega) (fun j' a b => ?_))
        by_cases q : j' = k
        · subst q; exact z
        · exact hno j' (by omega) b
  exact ⟨4, L 3 0 rfl (fun j hj => by omega)⟩
/-- jumps of a place with which nothing is wrong there -/
theorem xa_jk {p : Nat} (hG : md_G g) (hV : md_V g p) (n3 : mc_o g (p % 24) = 15 → ¬ md_n p = 3) (n0 : mc_o g (p % 24) = 16 → 0 < md_n p) (hr : mc_o g (p % 24) = 16 → md_cl p % 24 + 1 < 24) (hs : ∀ q, md_L g p = some q → post (nI (md_kx q))) (hn : md_L g p = none → post (-1)) : wpX_jumpKey post ((nI (mc_cc g)), (nI (mc_hc g)), f_placeCount, f_tooMany, f_layAnswer, f_wrongKind, f_wrongKey, f_grown, f_frameDepth, f_frameThere, f_lastReason, f_valueDepth, f_objectCount, f_hasRun, f_begun, f_nowAt, f_endClass, (ar (mc_p g)), (ar (mc_e g)), (ar (mc_o g)), (mc_r g), (ar (mc_f g)), (ar (mc_t g)), (ar (mc_g g)), (ar (mc_k g)), a_placeKey, a_placeDepth, a_cameWith, a_ledWith, a_faults, a_found, a_hasFound, a_kept, a_hasMap, a_frame, a_kind, a_value, a_objectClass, a_objectReady) (nI (md_kx p)) := by
  have hcc := hG.1
  have hp := md_Vlt hcc hV
  have hk := md_kxlt p hp
  have hi := md_Vi hcc hV
  have h20 := hG.2.2.1 (p % 24)
  have hn4 := md_Vn hcc hV
  unfold wpX_jumpKey
  dsimp only
  refine nm_r (xk_31 hk) ?_
  rw [xk_i]
  refine nm_r (xk_20 hk) ?_
  rw [xk_n]
  refine ⟨vp_in_nI (by omega) (by omega), nm_r (ar_at _ (by omega)) ?_⟩
  refine pk_lt (mc_o g (p % 24)) 12 (fun c => hn ?_) (fun c => ?_)
  · unfold md_L; rw [if_neg (by omega), if_neg (by omega), if_neg (by omega)]
  refine pk_lt 16 (mc_o g (p % 24)) (fun c2 => hn ?_) (fun c2 => ?_)
  · unfold md_L; rw [if_neg (by omega), if_neg (by omega), if_neg (by omega)]
  have go : mc_o g (p % 24) = 12 ∨ mc_o g (p % 24) = 13 ∨ mc_o g (p % 24) = 14 → wX_jumpKey_52 post (nI (md_kx p)) (nI (p % 24)) (nI (mc_cc g)) (nI (mc_hc g)) f_placeCount f_tooMany f_layAnswer f_wrongKind f_wrongKey f_grown f_frameDepth f_frameThere f_lastReason f_valueDepth f_objectCount f_hasRun f_begun f_nowAt f_endClass (ar (mc_p g)) (ar (mc_e g)) (ar (mc_o g)) (mc_r g) (ar (mc_f g)) (ar (mc_t g)) (ar (mc_g g)) (ar (mc_k g)) a_placeKey a_placeDepth a_cameWith a_ledWith a_faults a_found a_hasFound a_kept a_hasMap a_frame a_kind a_value a_objectClass a_objectReady := by
    intro c3
    obtain ⟨ha, hra⟩ := mn_lim24 hG (i := p % 24) (by omega)
    refine ⟨vp_in_nI (by omega) (by omega), ?_⟩
    rw [nI_clamp (by omega), hra, pk_sub (xk_ge p), nI_add]
    have := hs (md_at p (mc_a g (p % 24))) (by unfold md_L; rw [if_neg (by omega), if_neg (by omega), if_pos c3])
    rw [xk_at p _ ha] at this
    exact this
  refine pk_eq (mc_o g (p % 24)) 12 (fun d => go (by omega)) (fun d12 => ?_)
  refine pk_eq (mc_o g (p % 24)) 13 (fun d => go (by omega)) (fun d13 => ?_)
  refine pk_eq (mc_o g (p % 24)) 14 (fun d => go (by omega)) (fun d14 => ?_)
  refine pk_eq (mc_o g (p % 24)) 15 (fun d => ?_) (fun d15 => ?_)
  · obtain ⟨ha, hra⟩ := mn_lim24 hG (i := p % 24) (by omega)
    have hL := hs (md_dp p (mc_a g (p % 24))) (by unfold md_L; rw [if_pos d])
    have hn3 := n3 d
    have e1 : (20 : Int32) - 5 * (nI (md_n p) + 1) = nI (20 - 5 * (md_n p + 1)) := by
      show nI 20 - nI 5 * (nI (md_n p) + nI 1) = _
      rw [nI_add, pk_mul, pk_sub (by omega)]
    refine nm_r e1 ?_
    refine pk_lt (md_n p) 3 (fun _ => ?_) (fun c => by omega)
    refine ⟨vp_in_nI (by omega) (by omega), ?_⟩
    have e2 : nI (p % 24) <<< (nI (20 - 5 * (md_n p + 1)) &&& 31) = nI (p % 24 * 2 ^ (20 - 5 * (md_n p + 1))) := by
      refine xk_l (by omega) ?_
      have : md_n p = 0 ∨ md_n p = 1 ∨ md_n p = 2 := by omega
      rcases this with e | e | e <;> rw [e] <;> omega
    have e3 : nI (md_kx p) + 1048576 + nI (p % 24) <<< (nI (20 - 5 * (md_n p + 1)) &&& 31) - nI (p % 24) + mc_r g (nI (p % 24)).toNatClampNeg = nI (md_kx (md_dp p (mc_a g (p % 24)))) := by
      rw [nI_clamp (by omega), hra, e2]
      show nI (md_kx p) + nI 1048576 + _ - _ + _ = _
      rw [nI_add, nI_add, pk_sub (by omega), nI_add]
      refine congrArg nI ?_
      rcases md_V4 hV with ⟨i, hi', rfl⟩ | ⟨a, i, ha', hi', rfl⟩ | ⟨a, b, i, ha', hb', hi', rfl⟩ | ⟨a, b, c, i, ha', hb', hc', hi', rfl⟩
      · rw [my_i (by omega)] at ha ⊢
        rw [md_dp0 (by omega), my_kx (by omega) (by omega) (by omega) (by omega), my_kx (by omega) (by omega) (by omega) (by omega), show md_n (md_y 0 0 0 0 i) = 0 from my_n (by omega) (by omega) (by omega) (by omega)]
        unfold md_x; omega
      · rw [my_i (by omega)] at ha ⊢
        rw [md_dp1 (by omega) (by omega), my_kx (by omega) (by omega) (by omega) (by omega), my_kx (by omega) (by omega) (by omega) (by omega), show md_n (md_y 1 a 0 0 i) = 1 from my_n (by omega) (by omega) (by omega) (by omega)]
        unfold md_x; omega
      · rw [my_i (by omega)] at ha ⊢
        rw [md_dp2 (by omega) (by omega) (by omega), my_kx (by omega) (by omega) (by omega) (by omega), my_kx (by omega) (by omega) (by omega) (by omega), show md_n (md_y 2 a b 0 i) = 2 from my_n (by omega) (by omega) (by omega) (by omega)]
        unfold md_x; omega
      · exact absurd (my_n (by omega) (by omega) (by omega) (by omega)) hn3
    rw [e3]; exact hL
  refine pk_eq (mc_o g (p % 24)) 16 (fun d => ?_) (fun d16 => by omega)
  have h0 := n0 d
  refine pk_eq (md_n p) 0 (fun z => by omega) (fun _ => ?_)
  refine xa_ck hcc hV h0 ?_
  have := hs (md_cl p + 1) (by unfold md_L; rw [if_neg (by omega), if_pos d])
  rw [xk_1 _ (hr d)] at this
  rw [nI_1]; exact this
end
