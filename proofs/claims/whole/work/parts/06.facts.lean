/-! ===== what a right layout keeps; the measure of a round ===== -/
section
variable {g : md_C} {m : Nat} {P D : Nat → Nat}
theorem mg_R (Y : ml_Y g m P D) {k : Nat} (hk : k < m) : md_R g (P k) (D k) := (Y.2.2.1 _ _).mpr ⟨k, hk, rfl, rfl⟩
theorem mg_V (hG : md_G g) (hM : md_M g) (Y : ml_Y g m P D) {k : Nat} (hk : k < m) : md_V g (P k) := (md_RV hG hM (mg_R Y hk)).1
theorem mg_D (hG : md_G g) (hM : md_M g) (Y : ml_Y g m P D) {k : Nat} (hk : k < m) : D k ≤ 6 := (md_RV hG hM (mg_R Y hk)).2
theorem mg_to (Y : ml_Y g m P D) {k p h : Nat} (hk : k < m) (t : md_T g (P k) (D k) p h) : ∃ j, j < m ∧ P j = p ∧ D j = h :=
  (Y.2.2.1 _ _).mp (md_Rs (mg_R Y hk) ⟨Y.2.2.2 k hk, t⟩)
theorem mg_0 (Y : ml_Y g m P D) : 0 < m ∧ P 0 = 0 ∧ D 0 = 0 := by
  obtain ⟨j, hj, e1, e2⟩ := (Y.2.2.1 _ _).mp (md_R0 g)
  have : j = 0 := by
    apply Classical.byContradiction
    intro c
    have := Y.2.1 0 j (by omega) hj
    omega
  subst this
  exact ⟨hj, e1, e2⟩
theorem mg_next (Y : ml_Y g m P D) {k j : Nat} (hk : k < m) (hj : j < m) (e : P j = P k + 1) : j = k + 1 := by
  rcases Nat.lt_trichotomy j (k + 1) with c | c | c
  · rcases Nat.lt_or_eq_of_le (show j ≤ k by omega) with d | d
    · have := Y.2.1 j k d hk; omega
    · subst d; omega
  · exact c
  · have := Y.2.1 k (k + 1) (by omega) (by omega)
    have := Y.2.1 (k + 1) j c hj
    omega
theorem mg_b (Y : ml_Y g m P D) {k : Nat} (hk : k < m) (b : md_gb (mc_o g (P k % 24))) : k + 1 < m ∧ P (k + 1) = P k + 1 ∧ D (k + 1) = md_th g (P k) (D k) := by
  obtain ⟨j, hj, e1, e2⟩ := mg_to Y hk (Or.inl ⟨b, rfl, rfl⟩)
  have := mg_next Y hk hj e1
  subst this
  exact ⟨hj, e1, e2⟩
theorem mg_j (Y : ml_Y g m P D) {k p : Nat} (hk : k < m) (l : md_L g (P k) = some p) : ∃ j, j < m ∧ P j = p ∧ D j = md_th g (P k) (D k) := mg_to Y hk (Or.inr (Or.inl ⟨l, rfl⟩))
theorem mg_h (Y : ml_Y g m P D) {k x : Nat} (hk : k < m) (hx : x < mc_hc g) (c : md_cv g x (P k)) : ∃ j, j < m ∧ P j = md_at (P k) (mc_g g x) ∧ D j = 1 := mg_to Y hk (Or.inr (Or.inr ⟨x, hx, c, rfl, rfl⟩))
theorem mg_W (Y : ml_Y g m P D) {k : Nat} (hk : k < m) : ¬ md_f1 g (P k) ∧ ¬ md_f2 g (P k) (D k) ∧ ¬ md_f3 g (P k) (D k) ∧ ¬ md_f4 g (P k) ∧ ¬ md_f5 g (P k) := md_W0 (Y.2.2.2 k hk)
theorem mg_th (Y : ml_Y g m P D) {k : Nat} (hk : k < m) : md_tk (mc_o g (P k % 24)) ≤ D k ∧ md_th g (P k) (D k) ≤ 6 := by
  obtain ⟨_, b, c, _, _⟩ := mg_W Y hk
  unfold md_th
  exact ⟨by omega, by omega⟩
theorem mg_cl (hG : md_G g) (hM : md_M g) (Y : ml_Y g m P D) {k : Nat} (hk : k < m) (hn : 0 < md_n (P k)) : ∃ j, j < m ∧ P j = md_cl (P k) := by
  obtain ⟨h', r⟩ := md_Rcl hG hM (mg_R Y hk) hn
  obtain ⟨j, hj, e, _⟩ := (Y.2.2.1 _ _).mp r
  exact ⟨j, hj, e⟩
/-- place k is come to otherwise than from the place ahead of it -/
def mg_hit (g : md_C) (P : Nat → Nat) (j k : Nat) : Prop := md_L g (P j) = some (P k) ∨ ∃ x, x < mc_hc g ∧ md_cv g x (P j) ∧ md_at (P j) (mc_g g x) = P k
theorem mg_mapped (Y : ml_Y g m P D) {k : Nat} (hk : k + 1 < m) (b : ¬ md_gb (mc_o g (P k % 24))) : ∃ j, j < m ∧ mg_hit g P j (k + 1) := by
  have r := mg_R Y hk
  obtain ⟨h0, p0, _⟩ := mg_0 Y
  have lt := Y.2.1 0 (k + 1) (by omega) hk
  rcases md_Rpre r with ⟨e, _⟩ | ⟨q, h, rq, s⟩
  · omega
  · obtain ⟨j, hj, e1, e2⟩ := (Y.2.2.1 _ _).mp rq
    subst e1 e2
    rcases s.2 with ⟨b', e, _⟩ | ⟨l, _⟩ | ⟨x, hx, c, e, _⟩
    · have := mg_next Y hj hk e
      have : j = k := by omega
      subst this
      exact absurd b' b
    · exact ⟨j, hj, Or.inl l⟩
    · exact ⟨j, hj, Or.inr ⟨x, hx, c, e.symm⟩⟩
theorem mf_ix_lt : ∀ m p, 0 < m → mf_ix P m p < m := by
  intro m
  induction m with
  | zero => intro p h; omega
  | succ m ih =>
    intro p _
    simp only [mf_ix]
    split
    · omega
    · cases m with
      | zero => simp [mf_ix]
      | succ m => have := ih p (by omega); omega
/-- a step never raises the measure, and lowers it where it raises the flag -/
def mg_Q (m : Nat) (z y : mf_Z) : Prop := mf_mu m y.1 ≤ mf_mu m z.1 ∧ (y.2 = true → z.2 = true ∨ mf_mu m y.1 < mf_mu m z.1)
theorem mg_Qr (m : Nat) (z : mf_Z) : mg_Q m z z := ⟨Nat.le_refl _, fun h => Or.inl h⟩
theorem mg_Qt {m : Nat} {z y x : mf_Z} (a : mg_Q m z y) (b : mg_Q m y x) : mg_Q m z x := by
  obtain ⟨a1, a2⟩ := a
  obtain ⟨b1, b2⟩ := b
  refine ⟨by omega, fun h => ?_⟩
  rcases b2 h with c | c
  · rcases a2 c with d | d
    · exact Or.inl d
    · right; omega
  · right; omega
theorem mg_Q1 (hp : ∀ c, mc_p g c ≤ c - 1) {z : mf_Z} {p n : Nat} {f : Nat → Nat} (hm : p < m) (hn : n ≤ 10) : mg_Q m z (mf_g1 g z p n f) := by
  unfold mf_g1
  refine ⟨mf_mu_gv hp m z.1 p n f, fun h => ?_⟩
  dsimp only at h ⊢
  rw [Bool.or_eq_true] at h
  rcases h with h | h
  · exact Or.inl h
  · exact Or.inr (mf_mu_fl hp hm hn h)
theorem mg_Qh (hp : ∀ c, mc_p g c ≤ c - 1) (hm : 0 < m) (k : Nat) (f : Nat → Nat) (z : mf_Z) : ∀ x, mg_Q m z (mf_hs g m P k f x z) := by
  intro x
  induction x with
  | zero => exact mg_Qr m z
  | succ x ih =>
    simp only [mf_hs]
    split
    · exact mg_Qt ih (mg_Q1 hp (mf_ix_lt _ _ hm) (by omega))
    · exact ih
theorem mg_Qs (hp : ∀ c, mc_p g c ≤ c - 1) (Y : ml_Y g m P D) {k : Nat} (hk : k < m) {z y : mf_Z} (h : mf_st g m P D k z = some y) : mg_Q m z y := by
  have hm : 0 < m := by omega
  have ht := (mg_th Y hk).2
  unfold mf_st at h
  split at h
  · cases h
    refine mg_Qt (mg_Qh (P := P) hp hm k (z.1.2 k) z (mc_hc g)) ?_
    generalize mf_hs g m P k (z.1.2 k) (mc_hc g) z = w
    generalize mf_cg g P k (D k) (w.1.2 k) = f
    have a : mg_Q m w (mf_gb g P k (4 + md_th g (P k) (D k)) f w) := by
      unfold mf_gb
      split
      · rename_i b
        exact mg_Q1 hp (mg_b Y hk b).1 (by omega)
      · exact mg_Qr m w
    refine mg_Qt a ?_
    unfold mf_gj
    split
    · exact mg_Q1 hp (mf_ix_lt _ _ hm) (by omega)
    · exact mg_Qr m _
  · cases h
theorem mg_Qrd (hp : ∀ c, mc_p g c ≤ c - 1) (Y : ml_Y g m P D) : ∀ k z y, k ≤ m → mf_rd g m P D k z = some y → mg_Q m z y := by
  intro k
  induction k with
  | zero => intro z y _ h; cases h; exact mg_Qr m z
  | succ k ih =>
    intro z y hk h
    simp only [mf_rd] at h
    cases e : mf_rd g m P D k z with
    | none => rw [e] at h; cases h
    | some w =>
      rw [e] at h
      dsimp only at h
      have a := ih z w (by omega) e
      split at h
      · exact mg_Qt a (mg_Qs hp Y (by omega) h)
      · cases h; exact a
end
