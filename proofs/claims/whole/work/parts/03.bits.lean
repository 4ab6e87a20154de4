/-! ===== sets of numbers as bits ===== -/
section
theorem mb_sh : ∀ d, d < 8 → (1 : Int32) <<< (nI d &&& 31) = nI (2 ^ d) := by decide +kernel
theorem mb_or {w d : Nat} (hd : d < 8) : nI w ||| ((1 : Int32) <<< (nI d &&& 31)) = nI (w ||| 2 ^ d) := by
  rw [mb_sh d hd, nx_or]
theorem mb_lt {w d : Nat} (hw : w < 128) (hd : d < 7) : w ||| 2 ^ d < 128 := Nat.or_lt_two_pow (n := 7) hw (Nat.pow_lt_pow_right (by omega) hd)
theorem mb_tb {w d e : Nat} : (w ||| 2 ^ d).testBit e = true ↔ w.testBit e = true ∨ d = e := by
  rw [Nat.testBit_or, Nat.testBit_two_pow]; simp
theorem mb_M : ∀ d, d < 7 → Nat.testBit 4294967295 d = true := by decide +kernel
/-- what is in a and not in b -/
def mb_dif (a b : Nat) : Nat := a &&& (b ^^^ 4294967295)
theorem mb_difI (a b : Nat) : nI a &&& (nI b ^^^ (-1)) = nI (mb_dif a b) := by
  have : (-1 : Int32) = nI 4294967295 := by decide
  rw [this, nx_xor, nx_and]; rfl
theorem mb_difT {a b d : Nat} (hd : d < 7) : (mb_dif a b).testBit d = true ↔ a.testBit d = true ∧ ¬ b.testBit d = true := by
  unfold mb_dif
  rw [Nat.testBit_and, Nat.testBit_xor, mb_M d hd]
  cases a.testBit d <;> cases b.testBit d <;> simp
theorem mb_difL {a b : Nat} (ha : a < 128) : mb_dif a b < 128 := by
  unfold mb_dif
  exact Nat.lt_of_le_of_lt Nat.and_le_left ha
theorem mb_bit : ∀ w, w < 128 → ∀ d, d < 7 → (nI w &&& nI (2 ^ d) = 0 ↔ ¬ w.testBit d = true) := by decide +kernel
theorem mb_shb : ∀ w, w < 128 → ∀ d, d < 7 → (nI w >>> (nI d &&& 31) &&& 1 = 0 ↔ ¬ w.testBit d = true) := by decide +kernel
theorem mb_z : ∀ w, w < 128 → (nI w = 0 ↔ ∀ d, d < 7 → ¬ w.testBit d = true) := by decide +kernel
theorem mb_one : ∀ w, w < 128 → (nI w &&& (nI w - 1) = 0 ↔ ∀ d, d < 7 → ∀ e, e < 7 → w.testBit d = true → w.testBit e = true → d = e) := by decide +kernel
theorem mb_ext {w d : Nat} (hw : w < 128) (h : w.testBit d = true) : d < 7 := by
  apply Classical.byContradiction
  intro c
  have : w < 2 ^ d := Nat.lt_of_lt_of_le hw (Nat.pow_le_pow_right (n := 2) (i := 7) (by omega) (by omega))
  rw [Nat.testBit_lt_two_pow this] at h
  cases h
theorem mb_open {a b d : Nat} (ha : a < 128) (hd : d < 7) : (nI a &&& (nI b ^^^ (-1))) &&& ((1 : Int32) <<< (nI d &&& 31)) = 0 ↔ ¬ (a.testBit d = true ∧ ¬ b.testBit d = true) := by
  rw [mb_difI, mb_sh d (by omega), mb_bit _ (mb_difL ha) d hd, mb_difT hd]
/-- the five faults as bits 1 to 5 -/
def mb_fm (a b c d e : Bool) : Nat := 2 * a.toNat + 4 * b.toNat + 8 * c.toNat + 16 * d.toNat + 32 * e.toNat
theorem mb_fmor : ∀ a b c d e a' b' c' d' e' : Bool, nI (mb_fm a b c d e) ||| nI (mb_fm a' b' c' d' e') = nI (mb_fm (a || a') (b || b') (c || c') (d || d') (e || e')) := by decide +kernel
theorem mb_fm0 : ∀ a b c d e : Bool, nI (mb_fm a b c d e) = 0 ↔ a = false ∧ b = false ∧ c = false ∧ d = false ∧ e = false := by decide +kernel
end
