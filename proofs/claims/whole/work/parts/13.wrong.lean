/-! ===== the first wrong place, from bits and from least numbers ===== -/
section
variable {g : md_C} {p : Nat}
theorem mw_1 {h : Nat} (a : md_f1 g p) : md_W g p h = 1 := by unfold md_W; rw [if_pos a]
theorem mw_2 {h : Nat} (a : ¬ md_f1 g p) (b : md_f2 g p h) : md_W g p h = 2 := by unfold md_W; rw [if_neg a, if_pos b]
theorem mw_3 {h : Nat} (a : ¬ md_f1 g p) (b : ¬ md_f2 g p h) (c : md_f3 g p h) : md_W g p h = 3 := by unfold md_W; rw [if_neg a, if_neg b, if_pos c]
theorem mw_4 {h : Nat} (a : ¬ md_f1 g p) (b : ¬ md_f2 g p h) (c : ¬ md_f3 g p h) (d : md_f4 g p) : md_W g p h = 4 := by unfold md_W; rw [if_neg a, if_neg b, if_neg c, if_pos d]
theorem mw_5 {h : Nat} (a : ¬ md_f1 g p) (b : ¬ md_f2 g p h) (c : ¬ md_f3 g p h) (d : ¬ md_f4 g p) (e : md_f5 g p) : md_W g p h = 5 := by unfold md_W; rw [if_neg a, if_neg b, if_neg c, if_neg d, if_pos e]
theorem mw_0 {h : Nat} (a : ¬ md_f1 g p) (b : ¬ md_f2 g p h) (c : ¬ md_f3 g p h) (d : ¬ md_f4 g p) (e : ¬ md_f5 g p) : md_W g p h = 0 := by unfold md_W; rw [if_neg a, if_neg b, if_neg c, if_neg d, if_neg e]
theorem mw_g2 {h : Nat} (a : ¬ md_f1 g p) : md_W g p h = 0 ∨ 2 ≤ md_W g p h := by
  unfold md_W; rw [if_neg a]
  repeat' split
  all_goals omega
theorem mw_g3 {h : Nat} (a : ¬ md_f1 g p) (b : ¬ md_f2 g p h) : md_W g p h = 0 ∨ 3 ≤ md_W g p h := by
  unfold md_W; rw [if_neg a, if_neg b]
  repeat' split
  all_goals omega
theorem mw_g4 {h : Nat} (a : ¬ md_f1 g p) (b : ¬ md_f2 g p h) (c : ¬ md_f3 g p h) : md_W g p h = 0 ∨ 4 ≤ md_W g p h := by
  unfold md_W; rw [if_neg a, if_neg b, if_neg c]
  repeat' split
  all_goals omega
theorem mw_g5 {h : Nat} (a : ¬ md_f1 g p) (b : ¬ md_f2 g p h) (c : ¬ md_f3 g p h) (d : ¬ md_f4 g p) : md_W g p h = 0 ∨ 5 ≤ md_W g p h := by
  unfold md_W; rw [if_neg a, if_neg b, if_neg c, if_neg d]
  repeat' split
  all_goals omega
/-- the lowest bit -/
def mw_low (a b c d e : Bool) : Nat := if a = true then 1 else if b = true then 2 else if c = true then 3 else if d = true then 4 else if e = true then 5 else 6
theorem mw_bits {a b c d e : Bool} {d0 : Nat} (r : md_R g p d0) (ha : a = true ↔ ∃ h, md_R g p h ∧ md_f1 g p) (hb : b = true ↔ ∃ h, md_R g p h ∧ md_f2 g p h) (hc : c = true ↔ ∃ h, md_R g p h ∧ md_f3 g p h) (hd : d = true ↔ ∃ h, md_R g p h ∧ md_f4 g p) (he : e = true ↔ ∃ h, md_R g p h ∧ md_f5 g p) (h : (a = true ∨ b = true ∨ c = true ∨ d = true ∨ e = true) ∨ ∃ h h', h ≠ h' ∧ md_R g p h ∧ md_R g p h') : ml_B g p (mw_low a b c d e) := by
  unfold mw_low
  have na : ¬ a = true → ¬ md_f1 g p := fun n f => n (ha.mpr ⟨_, r, f⟩)
  have nb : ¬ b = true → ∀ h, md_R g p h → ¬ md_f2 g p h := fun n h r f => n (hb.mpr ⟨_, r, f⟩)
  have nc : ¬ c = true → ∀ h, md_R g p h → ¬ md_f3 g p h := fun n h r f => n (hc.mpr ⟨_, r, f⟩)
  have nd : ¬ d = true → ¬ md_f4 g p := fun n f => n (hd.mpr ⟨_, r, f⟩)
  have ne : ¬ e = true → ¬ md_f5 g p := fun n f => n (he.mpr ⟨_, r, f⟩)
  by_cases xa : a = true
  · rw [if_pos xa]
    obtain ⟨h, rh, f⟩ := ha.mp xa
    exact Or.inl ⟨h, rh, mw_1 f, by omega, fun h' _ => Or.inr (by rw [mw_1 f]; omega)⟩
  rw [if_neg xa]
  by_cases xb : b = true
  · rw [if_pos xb]
    obtain ⟨h, rh, f⟩ := hb.mp xb
    exact Or.inl ⟨h, rh, mw_2 (na xa) f, by omega, fun h' _ => mw_g2 (na xa)⟩
  rw [if_neg xb]
  by_cases xc : c = true
  · rw [if_pos xc]
    obtain ⟨h, rh, f⟩ := hc.mp xc
    exact Or.inl ⟨h, rh, mw_3 (na xa) (nb xb h rh) f, by omega, fun h' r' => mw_g3 (na xa) (nb xb h' r')⟩
  rw [if_neg xc]
  by_cases xd : d = true
  · rw [if_pos xd]
    obtain ⟨h, rh, f⟩ := hd.mp xd
    exact Or.inl ⟨h, rh, mw_4 (na xa) (nb xb h rh) (nc xc h rh) f, by omega, fun h' r' => mw_g4 (na xa) (nb xb h' r') (nc xc h' r')⟩
  rw [if_neg xd]
  by_cases xe : e = true
  · rw [if_pos xe]
    obtain ⟨h, rh, f⟩ := he.mp xe
    exact Or.inl ⟨h, rh, mw_5 (na xa) (nb xb h rh) (nc xc h rh) (nd xd) f, by omega, fun h' r' => mw_g5 (na xa) (nb xb h' r') (nc xc h' r') (nd xd)⟩
  rw [if_neg xe]
  rcases h with (x | x | x | x | x) | x
  · exact absurd x xa
  · exact absurd x xb
  · exact absurd x xc
  · exact absurd x xd
  · exact absurd x xe
  · exact Or.inr ⟨rfl, fun h r' => mw_0 (na xa) (nb xb h r') (nc xc h r') (nd xd) (ne xe), x⟩
theorem mw_none {a b c d e : Bool} {d0 : Nat} (r : md_R g p d0) (ha : a = true ↔ ∃ h, md_R g p h ∧ md_f1 g p) (hb : b = true ↔ ∃ h, md_R g p h ∧ md_f2 g p h) (hc : c = true ↔ ∃ h, md_R g p h ∧ md_f3 g p h) (hd : d = true ↔ ∃ h, md_R g p h ∧ md_f4 g p) (he : e = true ↔ ∃ h, md_R g p h ∧ md_f5 g p) (h : ¬ ((a = true ∨ b = true ∨ c = true ∨ d = true ∨ e = true) ∨ ∃ h h', h ≠ h' ∧ md_R g p h ∧ md_R g p h')) : ∀ n, ¬ ml_B g p n := by
  intro n
  have xa : ¬ a = true := fun x => h (Or.inl (Or.inl x))
  have xb : ¬ b = true := fun x => h (Or.inl (Or.inr (Or.inl x)))
  have xc : ¬ c = true := fun x => h (Or.inl (Or.inr (Or.inr (Or.inl x))))
  have xd : ¬ d = true := fun x => h (Or.inl (Or.inr (Or.inr (Or.inr (Or.inl x)))))
  have xe : ¬ e = true := fun x => h (Or.inl (Or.inr (Or.inr (Or.inr (Or.inr x)))))
  have na : ¬ md_f1 g p := fun f => xa (ha.mpr ⟨_, r, f⟩)
  have nb : ∀ h, md_R g p h → ¬ md_f2 g p h := fun h r f => xb (hb.mpr ⟨_, r, f⟩)
  have nc : ∀ h, md_R g p h → ¬ md_f3 g p h := fun h r f => xc (hc.mpr ⟨_, r, f⟩)
  have nd : ¬ md_f4 g p := fun f => xd (hd.mpr ⟨_, r, f⟩)
  have ne : ¬ md_f5 g p := fun f => xe (he.mpr ⟨_, r, f⟩)
  rintro (⟨h', r', w, z, _⟩ | ⟨_, _, k⟩)
  · rw [mw_0 na (nb _ r') (nc _ r') nd ne] at w; omega
  · exact h (Or.inr k)
/-- the reference's least number -/
theorem mw_least {w : Nat} (h1 : ∀ h, md_R g p h → md_W g p h = 0 ∨ w ≤ md_W g p h) (h2 : w = 9 ∨ ∃ h, md_R g p h ∧ md_W g p h = w ∧ w ≠ 0) : (w ≠ 9 → ml_B g p w) ∧ (w = 9 → (∃ h h', h ≠ h' ∧ md_R g p h ∧ md_R g p h') → ml_B g p 6) ∧ (w = 9 → ¬ (∃ h h', h ≠ h' ∧ md_R g p h ∧ md_R g p h') → ∀ n, ¬ ml_B g p n) ∧ (w = 9 ∨ w ≤ 5) := by
  have z : w = 9 → ∀ h, md_R g p h → md_W g p h = 0 := by
    intro e h r
    have := h1 h r
    have := ml_W5 g p h
    omega
  refine ⟨fun n => ?_, fun e x => Or.inr ⟨rfl, z e, x⟩, fun e x n => ?_, ?_⟩
  · rcases h2 with x | ⟨h, r, a, b⟩
    · exact absurd x n
    · exact Or.inl ⟨h, r, a, b, h1⟩
  · rintro (⟨h', r', a, b, _⟩ | ⟨_, _, k⟩)
    · rw [z e _ r'] at a; omega
    · exact x k
  · rcases h2 with x | ⟨h, r, a, b⟩
    · exact Or.inl x
    · have := ml_W5 g p h
      right; omega
end
