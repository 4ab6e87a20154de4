/-! ===== layouts: pigeonhole, uniqueness of the sorted row of places, the first wrong place ===== -/
section
theorem ml_pig : ∀ (n m : Nat) (f g : Nat → Nat), (∀ i, i < m → ∃ j, j < n ∧ g j = f i) → (∀ i j, i < m → j < m → f i = f j → i = j) → m ≤ n := by
  intro n
  induction n with
  | zero =>
    intro m f g h _
    cases m with
    | zero => omega
    | succ m => obtain ⟨j, hj, _⟩ := h 0 (by omega); omega
  | succ n ih =>
    intro m f g h inj
    by_cases hx : ∃ i, i < m ∧ f i = g n
    · obtain ⟨i0, hi0, e0⟩ := hx
      have := ih (m - 1) (fun i => if i < i0 then f i else f (i + 1)) g ?_ ?_
      · omega
      · intro i hi
        have key : ∀ i', i' < m → i' ≠ i0 → ∃ j, j < n ∧ g j = f i' := by
          intro i' hi' hne
          obtain ⟨j, hj, e⟩ := h i' hi'
          by_cases hjn : j = n
          · subst hjn; exact absurd (inj _ _ hi' hi0 (e.symm.trans e0.symm)) hne
          · exact ⟨j, by omega, e⟩
        by_cases c : i < i0
        · simp only [c, if_true]; exact key i (by omega) (by omega)
        · simp only [c, if_false]; exact key (i + 1) (by omega) (by omega)
      · intro i j hi hj
        by_cases c : i < i0 <;> by_cases d : j < i0 <;> simp only [c, d, if_true, if_false] <;> intro e
        · exact inj _ _ (by omega) (by omega) e
        · have := inj _ _ (by omega) (by omega) e; omega
        · have := inj _ _ (by omega) (by omega) e; omega
        · have := inj _ _ (by omega) (by omega) e; omega
    · have : m ≤ n := by
        refine ih m f g (fun i hi => ?_) inj
        obtain ⟨j, hj, e⟩ := h i hi
        by_cases hjn : j = n
        · subst hjn; exact absurd ⟨i, hi, e.symm⟩ hx
        · exact ⟨j, by omega, e⟩
      omega
def ml_inc (m : Nat) (P : Nat → Nat) : Prop := ∀ i j, i < j → j < m → P i < P j
theorem ml_inj {m : Nat} {P : Nat → Nat} (h : ml_inc m P) : ∀ i j, i < m → j < m → P i = P j → i = j := by
  intro i j hi hj e
  rcases Nat.lt_trichotomy i j with c | c | c
  · have := h i j c hj; omega
  · exact c
  · have := h j i c hi; omega
theorem ml_uni {m m' : Nat} {P Q : Nat → Nat} (hP : ml_inc m P) (hQ : ml_inc m' Q) (h1 : ∀ i, i < m → ∃ j, j < m' ∧ Q j = P i) (h2 : ∀ i, i < m' → ∃ j, j < m ∧ P j = Q i) : m = m' ∧ ∀ i, i < m → P i = Q i := by
  have a := ml_pig _ _ _ _ h1 (ml_inj hP)
  have b := ml_pig _ _ _ _ h2 (ml_inj hQ)
  have e : m = m' := by omega
  subst e
  refine ⟨rfl, ?_⟩
  intro i
  induction i using Nat.strongRecOn with
  | ind i ih =>
    intro hi
    obtain ⟨j, hj, ej⟩ := h1 i hi
    obtain ⟨k, hk, ek⟩ := h2 i hi
    have c1 : i ≤ j := by
      apply Nat.le_of_not_lt; intro c
      have := ih j c hj
      have := hP j i c hi
      omega
    have c2 : i ≤ k := by
      apply Nat.le_of_not_lt; intro c
      have := ih k c hk
      have := hQ k i c hi
      omega
    have d1 : Q i ≤ Q j := by
      rcases Nat.lt_or_eq_of_le c1 with c | c
      · exact Nat.le_of_lt (hQ i j c hj)
      · rw [c]; exact Nat.le_refl _
    have d2 : P i ≤ P k := by
      rcases Nat.lt_or_eq_of_le c2 with c | c
      · exact Nat.le_of_lt (hP i k c hk)
      · rw [c]; exact Nat.le_refl _
    omega
/-- a right layout: m places in order, each with its one depth -/
def ml_Y (g : md_C) (m : Nat) (P D : Nat → Nat) : Prop := m ≤ 40 ∧ ml_inc m P ∧ (∀ p h, md_R g p h ↔ ∃ k, k < m ∧ P k = p ∧ D k = h) ∧ (∀ k, k < m → md_W g (P k) (D k) = 0)
theorem ml_Yuni {g : md_C} {m m' : Nat} {P P' D D' : Nat → Nat} (a : ml_Y g m P D) (b : ml_Y g m' P' D') : m = m' ∧ ∀ i, i < m → P i = P' i ∧ D i = D' i := by
  have u := ml_uni a.2.1 b.2.1 (fun i hi => by
    obtain ⟨k, hk, e, _⟩ := (b.2.2.1 _ _).mp ((a.2.2.1 (P i) (D i)).mpr ⟨i, hi, rfl, rfl⟩)
    exact ⟨k, hk, e⟩) (fun i hi => by
    obtain ⟨k, hk, e, _⟩ := (a.2.2.1 _ _).mp ((b.2.2.1 (P' i) (D' i)).mpr ⟨i, hi, rfl, rfl⟩)
    exact ⟨k, hk, e⟩)
  obtain ⟨e, h⟩ := u
  subst e
  refine ⟨rfl, fun i hi => ⟨h i hi, ?_⟩⟩
  obtain ⟨k, hk, e1, e2⟩ := (b.2.2.1 _ _).mp ((a.2.2.1 (P i) (D i)).mpr ⟨i, hi, rfl, rfl⟩)
  have : k = i := ml_inj b.2.1 _ _ hk hi (e1.trans (h i hi))
  subst this
  exact e2.symm
/-- the least number that is wrong at p -/
def ml_B (g : md_C) (p n : Nat) : Prop := (∃ h, md_R g p h ∧ md_W g p h = n ∧ n ≠ 0 ∧ ∀ h', md_R g p h' → md_W g p h' = 0 ∨ n ≤ md_W g p h') ∨ (n = 6 ∧ (∀ h, md_R g p h → md_W g p h = 0) ∧ ∃ h h', h ≠ h' ∧ md_R g p h ∧ md_R g p h')
theorem ml_W5 (g : md_C) (p h : Nat) : md_W g p h ≤ 5 := by
  unfold md_W
  repeat' split
  all_goals omega
theorem ml_Buni {g : md_C} {p n n' : Nat} (a : ml_B g p n) (b : ml_B g p n') : n = n' := by
  rcases a with ⟨h, r, w, z, l⟩ | ⟨e, z, h, h', d, r, r'⟩ <;> rcases b with ⟨i, s, v, y, k⟩ | ⟨f, y, i, i', c, s, s'⟩
  · have := l _ s
    have := k _ r
    omega
  · have := y _ r; omega
  · have := z _ s; omega
  · omega
theorem ml_B0 {g : md_C} {p n : Nat} (a : ml_B g p n) : n ≠ 0 ∧ n ≤ 6 := by
  rcases a with ⟨h, r, w, z, l⟩ | ⟨e, _⟩
  · have := ml_W5 g p h; omega
  · omega
/-- the first wrong place -/
def ml_F (g : md_C) (p n : Nat) : Prop := ml_B g p n ∧ ∀ q n', q < p → ¬ ml_B g q n'
theorem ml_Funi {g : md_C} {p n p' n' : Nat} (a : ml_F g p n) (b : ml_F g p' n') : p = p' ∧ n = n' := by
  have e : p = p' := by
    rcases Nat.lt_trichotomy p p' with c | c | c
    · exact absurd a.1 (b.2 _ _ c)
    · exact c
    · exact absurd b.1 (a.2 _ _ c)
  subst e
  exact ⟨rfl, ml_Buni a.1 b.1⟩
/-- more than forty places -/
def ml_Many (g : md_C) : Prop := ∃ f : Nat → Nat, (∀ i, i < 41 → ∃ h, md_R g (f i) h) ∧ ∀ i j, i < 41 → j < 41 → f i = f j → i = j
theorem ml_few {g : md_C} {m : Nat} {K : Nat → Nat} (hm : m ≤ 40) (h : ∀ p h, md_R g p h → ∃ k, k < m ∧ K k = p) : ¬ ml_Many g := by
  rintro ⟨f, a, b⟩
  have := ml_pig m 41 f K (fun i hi => by obtain ⟨h', r⟩ := a i hi; exact h _ _ r) b
  omega
/-- no place is wrong: one depth each, and nothing wrong with it -/
theorem ml_right {g : md_C} (h : ∀ p n, ¬ ml_B g p n) : (∀ p d, md_R g p d → md_W g p d = 0) ∧ (∀ p d d', md_R g p d → md_R g p d' → d = d') := by
  have w : ∀ p d, md_R g p d → md_W g p d = 0 := by
    intro p d r
    apply Classical.byContradiction
    intro hw
    -- the least nonzero
    have : ∃ n, (∃ d, md_R g p d ∧ md_W g p d = n ∧ n ≠ 0) ∧ ∀ j, j < n → ¬ ∃ d, md_R g p d ∧ md_W g p d = j ∧ j ≠ 0 := by
      have : ∀ n, (∃ d, md_R g p d ∧ md_W g p d = n ∧ n ≠ 0) → ∃ n, (∃ d, md_R g p d ∧ md_W g p d = n ∧ n ≠ 0) ∧ ∀ j, j < n → ¬ ∃ d, md_R g p d ∧ md_W g p d = j ∧ j ≠ 0 := by
        intro n
        induction n using Nat.strongRecOn with
        | ind n ih =>
          intro hn
          by_cases c : ∃ j, j < n ∧ ∃ d, md_R g p d ∧ md_W g p d = j ∧ j ≠ 0
          · obtain ⟨j, hj, hd⟩ := c; exact ih j hj hd
          · exact ⟨n, hn, fun j hj hd => c ⟨j, hj, hd⟩⟩
      exact this _ ⟨d, r, rfl, hw⟩
    obtain ⟨n, ⟨d0, r0, w0, n0⟩, least⟩ := this
    refine h p n (Or.inl ⟨d0, r0, w0, n0, fun h' r' => ?_⟩)
    by_cases z : md_W g p h' = 0
    · exact Or.inl z
    · right
      apply Nat.le_of_not_lt
      intro c
      exact least _ c ⟨h', r', rfl, z⟩
  refine ⟨w, fun p d d' r r' => ?_⟩
  apply Classical.byContradiction
  intro hne
  exact h p 6 (Or.inr ⟨rfl, fun h' r'' => w _ _ r'', d, d', hne, r, r'⟩)
end
