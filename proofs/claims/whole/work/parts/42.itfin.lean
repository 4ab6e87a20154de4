/-! ===== the end of finding types ===== -/
section
variable {g : md_C} {m : Nat} {P D : Nat → Nat}
theorem mi_rd90 (hG : md_G g) (hm : m ≤ 40) : ∀ k z y, k ≤ m → mf_rd g m P D k z = some y → mn_90 z.1 → mn_90 y.1 := by
  intro k
  induction k with
  | zero => intro z y _ h hz; cases h; exact hz
  | succ k ih =>
    intro z y hk h hz
    simp only [mf_rd] at h
    cases e : mf_rd g m P D k z with
    | none => rw [e] at h; cases h
    | some w =>
      rw [e] at h
      dsimp only at h
      have a := ih z w (by omega) e hz
      split at h
      · exact mn_st90 hG (by omega) h a
      · cases h; exact a
theorem mi_rdn : ∀ d k z, mf_rd g m P D k z = none → mf_rd g m P D (k + d) z = none := by
  intro d
  induction d with
  | zero => intro k z h; exact h
  | succ d ih =>
    intro k z h
    show mf_rd g m P D ((k + d) + 1) z = none
    simp only [mf_rd]
    rw [ih k z h]
theorem mi_fin (hG : md_G g) (Y : ml_Y g m P D) : ∀ n T T', mf_mu m T < n → T.1 0 = true → mn_90 T → mf_it g m P D n T = some T' → (∀ k, k < m → T'.1 k = true) ∧ mn_90 T' := by
  intro n
  induction n with
  | zero => intro T T' h; omega
  | succ n ih =>
    intro T T' hmu h0 h90 h
    simp only [mf_it] at h
    cases e : mf_rd g m P D m (T, false) with
    | none => rw [e] at h; cases h
    | some y =>
      rw [e] at h
      dsimp only at h
      have y90 := mi_rd90 hG Y.1 m _ y (Nat.le_refl _) e h90
      have y0 := mn_rdk (q := 0) m _ y e h0
      have Q := mg_Qrd hG.2.2.2.2.2.1 Y m _ y (Nat.le_refl _) e
      split at h
      · rename_i f
        rcases Q.2 f with z | z
        · cases z
        · have z' : mf_mu m y.1 < mf_mu m T := z
          exact ih y.1 T' (by omega) y0 y90 h
      · rename_i f
        cases h
        have f' : y.2 = false := by
          cases q : y.2
          · rfl
          · exact absurd q f
        obtain ⟨N1, N2⟩ := mn_Nrd m _ y e
        have eq := (N1 f').2
        refine ⟨?_, y90⟩
        have K := N2 f'
        rw [eq]
        exact mn_all Y h0 K
end
