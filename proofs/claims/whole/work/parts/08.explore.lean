/-! ===== coming to places: what holds along the way, whichever way is taken ===== -/
section
variable {g : md_C} {c m m' : Nat} {ov ov' : Prop} {E E' : Nat → Nat → Prop} {K w l D K' w' l' D' : Nat → Nat}
def me_at (m : Nat) (K w : Nat → Nat) (p h : Nat) : Prop := ∃ j, j < m ∧ K j = p ∧ (w j).testBit h = true
def me_I (g : md_C) (c : Nat) (ov : Prop) (E : Nat → Nat → Prop) (m : Nat) (K w l D : Nat → Nat) : Prop :=
  m ≤ c ∧ (∀ k, k < m → w k < 128 ∧ l k < 128) ∧ (∀ i j, i < m → j < m → K i = K j → i = j) ∧
  (∀ k d, k < m → (w k).testBit d = true → md_R g (K k) d) ∧
  (∀ k d, k < m → (l k).testBit d = true → (w k).testBit d = true) ∧
  (∀ k d, k < m → (l k).testBit d = true → md_W g (K k) d = 0 → ¬ E k d → ∀ p h, md_T g (K k) d p h → ov ∨ me_at m K w p h) ∧
  me_at m K w 0 0 ∧ (∀ k, k < m → (w k).testBit (D k) = true)
theorem me_old (I : me_I g c ov E m K w l D) {j p h : Nat} (hj : j < m) (e : K j = p) (r : md_R g p h) (hh : h ≤ 6) (hw : ∀ k, k < m → k ≠ j → w' k = w k) (hwj : w' j = w j ||| 2 ^ h) : me_I g c ov E m K w' l D ∧ me_at m K w' p h ∧ ∀ q d, me_at m K w q d → me_at m K w' q d := by
  obtain ⟨i1, i2, i3, i4, i5, i6, i7, i8⟩ := I
  have grow : ∀ k d, k < m → (w k).testBit d = true → (w' k).testBit d = true := by
    intro k d hk hb
    by_cases ek : k = j
    · subst ek; rw [hwj, mb_tb]; exact Or.inl hb
    · rw [hw k hk ek]; exact hb
  have up : ∀ q d, me_at m K w q d → me_at m K w' q d := by
    rintro q d ⟨i, hi, e1, e2⟩
    exact ⟨i, hi, e1, grow i d hi e2⟩
  refine ⟨⟨i1, ?_, i3, ?_, ?_, ?_, up _ _ i7, fun k hk => grow k _ hk (i8 k hk)⟩, ⟨j, hj, e, ?_⟩, up⟩
  · intro k hk
    by_cases ek : k = j
    · subst ek; rw [hwj]; exact ⟨mb_lt (i2 k hk).1 (by omega), (i2 k hk).2⟩
    · rw [hw k hk ek]; exact i2 k hk
  · intro k d hk hb
    by_cases ek : k = j
    · subst ek
      rw [hwj, mb_tb] at hb
      rcases hb with hb | hb
      · exact i4 k d hk hb
      · subst hb; rw [e]; exact r
    · rw [hw k hk ek] at hb; exact i4 k d hk hb
  · intro k d hk hb; exact grow k d hk (i5 k d hk hb)
  · intro k d hk hb hW hE p' h' t
    rcases i6 k d hk hb hW hE p' h' t with x | x
    · exact Or.inl x
    · exact Or.inr (up _ _ x)
  · rw [hwj, mb_tb]; exact Or.inr rfl
theorem me_new (I : me_I g c ov E m K w l D) {p h : Nat} (hm : m < c) (hn : ∀ j, j < m → K j ≠ p) (r : md_R g p h) (hh : h ≤ 6) (hs : ∀ k, k < m → K' k = K k ∧ w' k = w k ∧ l' k = l k ∧ D' k = D k) (h1 : K' m = p) (h2 : w' m = 2 ^ h) (h3 : l' m = 0) (h4 : D' m = h) (hE : ∀ d, ¬ E m d) : me_I g c ov E (m + 1) K' w' l' D' ∧ me_at (m + 1) K' w' p h ∧ ∀ q d, me_at m K w q d → me_at (m + 1) K' w' q d := by
  obtain ⟨i1, i2, i3, i4, i5, i6, i7, i8⟩ := I
  have up : ∀ q d, me_at m K w q d → me_at (m + 1) K' w' q d := by
    rintro q d ⟨i, hi, e1, e2⟩
    obtain ⟨a, b, _, _⟩ := hs i hi
    exact ⟨i, by omega, a.trans e1, by rw [b]; exact e2⟩
  have b2 : 2 ^ h < 2 ^ 7 := Nat.pow_lt_pow_right (by omega) (by omega)
  have tb : ∀ d, (2 ^ h).testBit d = true ↔ h = d := by
    intro d; rw [Nat.testBit_two_pow]; simp
  refine ⟨⟨by omega, ?_, ?_, ?_, ?_, ?_, up _ _ i7, ?_⟩, ⟨m, by omega, h1, ?_⟩, up⟩
  · intro k hk
    by_cases ek : k = m
    · subst ek; rw [h2, h3]; exact ⟨b2, by omega⟩
    · obtain ⟨_, b, d, _⟩ := hs k (by omega)
      rw [b, d]; exact i2 k (by omega)
  · intro i j hi hj e
    by_cases ei : i = m
    · by_cases ej : j = m
      · omega
      · subst ei
        rw [h1, (hs j (by omega)).1] at e
        exact absurd e.symm (hn j (by omega))
    · by_cases ej : j = m
      · subst ej
        rw [h1, (hs i (by omega)).1] at e
        exact absurd e (hn i (by omega))
      · rw [(hs i (by omega)).1, (hs j (by omega)).1] at e
        exact i3 i j (by omega) (by omega) e
  · intro k d hk hb
    by_cases ek : k = m
    · subst ek
      rw [h2, tb] at hb
      subst hb; rw [h1]; exact r
    · obtain ⟨a, b, _, _⟩ := hs k (by omega)
      rw [b] at hb; rw [a]; exact i4 k d (by omega) hb
  · intro k d hk hb
    by_cases ek : k = m
    · subst ek; rw [h3, Nat.zero_testBit] at hb; cases hb
    · obtain ⟨_, b, e, _⟩ := hs k (by omega)
      rw [e] at hb; rw [b]; exact i5 k d (by omega) hb
  · intro k d hk hb hW hE' p' h' t
    by_cases ek : k = m
    · subst ek; rw [h3, Nat.zero_testBit] at hb; cases hb
    · obtain ⟨a, b, e, _⟩ := hs k (by omega)
      rw [e] at hb; rw [a] at hW t
      rcases i6 k d (by omega) hb hW hE' p' h' t with x | x
      · exact Or.inl x
      · exact Or.inr (up _ _ x)
  · intro k hk
    by_cases ek : k = m
    · subst ek; rw [h2, h4, tb]
    · obtain ⟨_, b, _, e⟩ := hs k (by omega)
      rw [b, e]; exact i8 k (by omega)
  · rw [h2, tb]
theorem me_ov (I : me_I g c ov E m K w l D) (h : ov → ov') : me_I g c ov' E m K w l D := by
  obtain ⟨i1, i2, i3, i4, i5, i6, i7, i8⟩ := I
  refine ⟨i1, i2, i3, i4, i5, fun k d hk hb hW hE p' h' t => ?_, i7, i8⟩
  rcases i6 k d hk hb hW hE p' h' t with x | x
  · exact Or.inl (h x)
  · exact Or.inr x
theorem me_mark (I : me_I g c ov (fun _ _ => False) m K w l D) {k0 d0 : Nat} (hk : k0 < m) (hb : (w k0).testBit d0 = true) (hl : ∀ k, k < m → k ≠ k0 → l' k = l k) (hl0 : l' k0 = l k0 ||| 2 ^ d0) : me_I g c ov (fun k d => k = k0 ∧ d = d0) m K w l' D := by
  obtain ⟨i1, i2, i3, i4, i5, i6, i7, i8⟩ := I
  have hd : d0 < 7 := mb_ext (i2 k0 hk).1 hb
  refine ⟨i1, ?_, i3, i4, ?_, ?_, i7, i8⟩
  · intro k h
    by_cases ek : k = k0
    · subst ek; rw [hl0]; exact ⟨(i2 k h).1, mb_lt (i2 k h).2 hd⟩
    · rw [hl k h ek]; exact i2 k h
  · intro k d h hb'
    by_cases ek : k = k0
    · subst ek
      rw [hl0, mb_tb] at hb'
      rcases hb' with x | x
      · exact i5 k d h x
      · subst x; exact hb
    · rw [hl k h ek] at hb'; exact i5 k d h hb'
  · intro k d h hb' hW hE p' h' t
    by_cases ek : k = k0
    · subst ek
      rw [hl0, mb_tb] at hb'
      rcases hb' with x | x
      · exact i6 k d h x hW (fun z => z) p' h' t
      · exact absurd ⟨rfl, x.symm⟩ hE
    · rw [hl k h ek] at hb'; exact i6 k d h hb' hW (fun z => z) p' h' t
theorem me_close {k0 d0 : Nat} (I : me_I g c ov (fun k d => k = k0 ∧ d = d0) m K w l D) (h : md_W g (K k0) d0 = 0 → ∀ p h, md_T g (K k0) d0 p h → ov ∨ me_at m K w p h) : me_I g c ov (fun _ _ => False) m K w l D := by
  obtain ⟨i1, i2, i3, i4, i5, i6, i7, i8⟩ := I
  refine ⟨i1, i2, i3, i4, i5, ?_, i7, i8⟩
  intro k d hk hb hW _ p' h' t
  by_cases e : k = k0 ∧ d = d0
  · obtain ⟨rfl, rfl⟩ := e
    exact h hW p' h' t
  · exact i6 k d hk hb hW e p' h' t
/-- the end: all that came led on, nothing left out -/
theorem me_fin (I : me_I g c ov (fun _ _ => False) m K w l D) (ho : ¬ ov) (hl : ∀ k d, k < m → (w k).testBit d = true → (l k).testBit d = true) (p h : Nat) : md_R g p h ↔ me_at m K w p h := by
  obtain ⟨i1, i2, i3, i4, i5, i6, i7, i8⟩ := I
  constructor
  · intro r
    refine md_Ri r (fun p h => me_at m K w p h) i7 ?_
    rintro q d q' d' rq ⟨j, hj, rfl, hb⟩ s
    rcases i6 j d hj (hl j d hj hb) s.1 (fun z => z) q' d' s.2 with x | x
    · exact absurd x ho
    · exact x
  · rintro ⟨j, hj, rfl, hb⟩
    exact i4 j h hj hb
/-- how many pairs have not led on -/
def me_c1 (x : Nat) : Nat := mf_sum (fun d => if x.testBit d = true then 0 else 1) 7
def me_mu (c m : Nat) (l : Nat → Nat) : Nat := mf_sum (fun k => if k < m then me_c1 (l k) else 7) c
theorem me_c1_7 (x : Nat) : me_c1 x ≤ 7 := by
  have := mf_sum_c (f := fun d => if x.testBit d = true then 0 else 1) (c := 1) 7 (fun s _ => by
    split <;> omega)
  unfold me_c1; omega
theorem me_c1_0 : me_c1 0 = 7 := by decide
theorem me_c1_lt {x d : Nat} (hd : d < 7) (h : ¬ x.testBit d = true) : me_c1 (x ||| 2 ^ d) < me_c1 x := by
  unfold me_c1
  refine mf_sum_lt 7 (fun s _ => ?_) ⟨d, hd, ?_⟩
  · by_cases a : x.testBit s = true
    · have : (x ||| 2 ^ d).testBit s = true := mb_tb.mpr (Or.inl a)
      rw [if_pos this]; omega
    · rw [if_neg a]; split <;> omega
  · rw [if_pos (mb_tb.mpr (Or.inr rfl)), if_neg h]; omega
theorem me_mu_b (c m : Nat) (l : Nat → Nat) : me_mu c m l ≤ c * 7 := by
  refine mf_sum_c c (fun k _ => ?_)
  split
  · exact me_c1_7 _
  · omega
theorem me_mu_new {c m : Nat} {l l' : Nat → Nat} (hs : ∀ k, k < m → l' k = l k) (h0 : l' m = 0) : me_mu c (m + 1) l' ≤ me_mu c m l := by
  refine mf_sum_le c (fun k _ => ?_)
  by_cases a : k < m
  · rw [if_pos (by omega), if_pos a, hs k a]; exact Nat.le_refl _
  · rw [if_neg a]
    split
    · exact me_c1_7 _
    · omega
theorem me_mu_mark {c m : Nat} {l l' : Nat → Nat} {k0 d0 : Nat} (hc : m ≤ c) (hk : k0 < m) (hd : d0 < 7) (h : ¬ (l k0).testBit d0 = true) (hl : ∀ k, k < m → k ≠ k0 → l' k = l k) (hl0 : l' k0 = l k0 ||| 2 ^ d0) : me_mu c m l' < me_mu c m l := by
  refine mf_sum_lt c (fun k _ => ?_) ⟨k0, by omega, ?_⟩
  · by_cases a : k < m
    · rw [if_pos a, if_pos a]
      by_cases e : k = k0
      · subst e; rw [hl0]; exact Nat.le_of_lt (me_c1_lt hd h)
      · rw [hl k a e]; exact Nat.le_refl _
    · rw [if_neg a, if_neg a]; exact Nat.le_refl _
  · rw [if_pos hk, if_pos hk, hl0]
    exact me_c1_lt hd h
end
