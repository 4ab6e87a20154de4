/-! ===== rows sorted by swaps ===== -/
section
variable {β : Type}
/-- the same rows, in another order -/
def ms_P (m : Nat) (a : Nat → Nat) (b : Nat → β) (a' : Nat → Nat) (b' : Nat → β) : Prop := (∀ i, i < m → ∃ j, j < m ∧ a' i = a j ∧ b' i = b j) ∧ (∀ j, j < m → ∃ i, i < m ∧ a' i = a j ∧ b' i = b j)
theorem ms_Pr (m : Nat) (a : Nat → Nat) (b : Nat → β) : ms_P m a b a b := ⟨fun i hi => ⟨i, hi, rfl, rfl⟩, fun i hi => ⟨i, hi, rfl, rfl⟩⟩
theorem ms_Pt {m : Nat} {a a' a'' : Nat → Nat} {b b' b'' : Nat → β} (x : ms_P m a b a' b') (y : ms_P m a' b' a'' b'') : ms_P m a b a'' b'' := by
  refine ⟨fun i hi => ?_, fun j hj => ?_⟩
  · obtain ⟨k, hk, e1, e2⟩ := y.1 i hi
    obtain ⟨j, hj, e3, e4⟩ := x.1 k hk
    exact ⟨j, hj, e1.trans e3, e2.trans e4⟩
  · obtain ⟨k, hk, e1, e2⟩ := x.2 j hj
    obtain ⟨i, hi, e3, e4⟩ := y.2 k hk
    exact ⟨i, hi, e3.trans e1, e4.trans e2⟩
def ms_s (i j t : Nat) : Nat := if t = j then i else if t = i then j else t
theorem ms_s2 (i j t : Nat) : ms_s i j (ms_s i j t) = t := by
  unfold ms_s
  by_cases a : t = j
  · subst a
    by_cases b : i = t
    · subst b; simp
    · simp [b]
  · by_cases b : t = i
    · subst b; simp [a]
    · simp [a, b]
theorem ms_slt {i j t m : Nat} (hi : i < m) (hj : j < m) (ht : t < m) : ms_s i j t < m := by
  unfold ms_s
  split
  · exact hi
  · split
    · exact hj
    · exact ht
/-- a swap -/
theorem ms_sw {m i j : Nat} {a a' : Nat → Nat} {b b' : Nat → β} (hi : i < m) (hj : j < m) (ha : ∀ t, t < m → a' t = a (ms_s i j t)) (hb : ∀ t, t < m → b' t = b (ms_s i j t)) : ms_P m a b a' b' := by
  refine ⟨fun t ht => ⟨ms_s i j t, ms_slt hi hj ht, ha t ht, hb t ht⟩, fun t ht => ⟨ms_s i j t, ms_slt hi hj ht, ?_, ?_⟩⟩
  · rw [ha _ (ms_slt hi hj ht), ms_s2]
  · rw [hb _ (ms_slt hi hj ht), ms_s2]
def ms_inj (m : Nat) (a : Nat → Nat) : Prop := ∀ i j, i < m → j < m → a i = a j → i = j
theorem ms_swi {m i j : Nat} {a a' : Nat → Nat} (hi : i < m) (hj : j < m) (ha : ∀ t, t < m → a' t = a (ms_s i j t)) (h : ms_inj m a) : ms_inj m a' := by
  intro x y hx hy e
  rw [ha x hx, ha y hy] at e
  have := h _ _ (ms_slt hi hj hx) (ms_slt hi hj hy) e
  have e2 := congrArg (ms_s i j) this
  rw [ms_s2, ms_s2] at e2
  exact e2
theorem ms_upup (a : Nat → Nat) (i j t : Nat) : mf_up (mf_up a i (a j)) j (a i) t = a (ms_s i j t) := by
  unfold mf_up ms_s
  by_cases h : t = j
  · simp [h]
  · by_cases h2 : t = i
    · subst h2; simp [h]
    · simp [h, h2]
/-- insertion: the row with the held one put where the hole is -/
theorem ms_ins {kr : Nat → Nat} {k key : Nat} (t : Nat) : mf_up (mf_up kr (k + 1) (kr k)) k key t = mf_up kr (k + 1) key (ms_s k (k + 1) t) := by
  unfold mf_up ms_s
  by_cases h : t = k + 1
  · subst h; simp
  · by_cases h2 : t = k
    · subst h2; simp
    · simp [h, h2]
/-- sorted up to e but for the hole at k -/
def ms_H (e k : Nat) (a : Nat → Nat) : Prop := (∀ i j, i < j → j ≤ e → i ≠ k → j ≠ k → a i < a j) ∧ (∀ j, k < j → j ≤ e → a k < a j)
theorem ms_H_step {e k : Nat} {a a' : Nat → Nat} (he : k + 1 ≤ e) (h : ms_H e (k + 1) a) (hs : ∀ t, t ≤ e → a' t = a (ms_s k (k + 1) t)) (lt : a (k + 1) < a k) : ms_H e k a' := by
  obtain ⟨h1, h2⟩ := h
  have e1 : a' (k + 1) = a k := by rw [hs _ he]; unfold ms_s; simp
  have e2 : a' k = a (k + 1) := by rw [hs _ (by omega)]; unfold ms_s; simp
  have e3 : ∀ t, t ≤ e → t ≠ k → t ≠ k + 1 → a' t = a t := by
    intro t ht n1 n2; rw [hs t ht]; unfold ms_s; simp [n1, n2]
  refine ⟨fun i j hij hj ni nj => ?_, fun j hj hje => ?_⟩
  · by_cases c : i = k + 1
    · subst c
      rw [e1, e3 j hj nj (by omega)]
      exact h1 k j (by omega) hj (by omega) (by omega)
    · by_cases d : j = k + 1
      · subst d
        rw [e1, e3 i (by omega) ni c]
        exact h1 i k (by omega) (by omega) c (by omega)
      · rw [e3 i (by omega) ni c, e3 j hj nj d]
        exact h1 i j hij hj c d
  · rw [e2]
    by_cases d : j = k + 1
    · subst d; rw [e1]; exact lt
    · rw [e3 j hje (by omega) d]
      exact h2 j (by omega) hje
theorem ms_H_end {e k : Nat} {a : Nat → Nat} (hk : k ≤ e) (h : ms_H e k a) (lt : k = 0 ∨ a (k - 1) < a k) : ml_inc (e + 1) a := by
  obtain ⟨h1, h2⟩ := h
  intro i j hij hj
  by_cases c : i = k
  · subst c; exact h2 j hij (by omega)
  · by_cases d : j = k
    · subst d
      rcases lt with z | lt
      · omega
      · by_cases e' : i = j - 1
        · subst e'; exact lt
        · have := h1 i (j - 1) (by omega) (by omega) c (by omega)
          omega
    · exact h1 i j hij (by omega) c d
theorem ms_H_0 {e : Nat} {a : Nat → Nat} (h : ml_inc e a) : ms_H e e a := ⟨fun i j hij hj ni nj => h i j hij (by omega), fun j h1 h2 => by omega⟩
end
