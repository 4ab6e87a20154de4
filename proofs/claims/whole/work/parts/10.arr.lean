/-! ===== arrays of naturals; small differences ===== -/
section
def ar (w : Nat → Nat) : Nat → Int32 := fun k => nI (w k)
theorem ar_ex (a : Nat → Int32) : ∃ w : Nat → Nat, a = ar w := by
  refine ⟨fun k => (a k).toBitVec.toNat, ?_⟩
  funext k
  apply Int32.toBitVec_inj.mp
  apply BitVec.eq_of_toNat_eq
  show _ = (nI (a k).toBitVec.toNat).toBitVec.toNat
  rw [pk_tn (a k).toBitVec.isLt]
theorem ar_at (w : Nat → Nat) {j : Nat} (h : j < 2 ^ 31) : ar w (nI j).toNatClampNeg = nI (w j) := by
  rw [nI_clamp h]; rfl
theorem ar_up (w : Nat → Nat) (k v : Nat) : upd (ar w) k (nI v) = ar (mf_up w k v) := by
  funext j
  unfold upd ar mf_up
  split <;> rfl
theorem ar_ui (w : Nat → Nat) {k : Nat} (v : Nat) (h : k < 2 ^ 31) : upd (ar w) (nI k).toNatClampNeg (nI v) = ar (mf_up w k v) := by
  rw [nI_clamp h, ar_up]
theorem ar_0 : (fun _ => 0 : Nat → Int32) = ar (fun _ => 0) := rfl
theorem up_s {f : Nat → Nat} {i v : Nat} : mf_up f i v i = v := if_pos rfl
theorem up_n {f : Nat → Nat} {i v j : Nat} (h : j ≠ i) : mf_up f i v j = f j := if_neg h
theorem mi_lt0 : ∀ a, a < 7 → ∀ b, b < 3 → (nI a - nI b < 0 ↔ a < b) := by decide +kernel
theorem mi_le6 : ∀ a, a < 7 → ∀ b, b < 3 → ∀ c, c < 3 → (nI a - nI b + nI c ≤ 6 ↔ a + c ≤ 6 + b) := by decide +kernel
theorem mi_add : ∀ a, a < 7 → ∀ b, b < 3 → ∀ c, c < 3 → b ≤ a → nI a - nI b + nI c = nI (a - b + c) := by decide +kernel
theorem mi_n1 : vp_nar .boolean 1 = 1 := by decide
theorem mi_n0 : vp_nar .boolean 0 = 0 := by decide
end
