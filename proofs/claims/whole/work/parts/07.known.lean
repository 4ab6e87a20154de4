/-! ===== at the end every place is known; types stay types; the one pass ===== -/
section
variable {g : md_C} {m : Nat} {P D : Nat → Nat}
/-- nothing new: the flag stays down only if no place became known -/
def mn_N (z y : mf_Z) : Prop := y.2 = false → z.2 = false ∧ y.1.1 = z.1.1
theorem mn_Nr (z : mf_Z) : mn_N z z := fun h => ⟨h, rfl⟩
theorem mn_Nt {z y x : mf_Z} (a : mn_N z y) (b : mn_N y x) : mn_N z x := fun h => ⟨(a (b h).1).1, (b h).2.trans (a (b h).1).2⟩
theorem mn_N1 {z : mf_Z} {p n : Nat} {f : Nat → Nat} (h : (mf_g1 g z p n f).2 = false) : z.2 = false ∧ z.1.1 p = true ∧ (mf_g1 g z p n f).1.1 = z.1.1 := by
  unfold mf_g1 at h ⊢
  dsimp only at h ⊢
  rw [Bool.or_eq_false_iff] at h
  obtain ⟨h1, h2⟩ := h
  unfold mf_fl at h2
  rw [Bool.or_eq_false_iff] at h2
  have k : z.1.1 p = true := by
    have := h2.1
    cases e : z.1.1 p
    · rw [e] at this; cases this
    · rfl
  refine ⟨h1, k, ?_⟩
  funext q
  unfold mf_gv
  dsimp only
  by_cases e : q = p
  · subst e; rw [if_pos rfl, k]
  · rw [if_neg e]
theorem mn_N1' {z : mf_Z} {p n : Nat} {f : Nat → Nat} : mn_N z (mf_g1 g z p n f) := fun h => ⟨(mn_N1 h).1, (mn_N1 h).2.2⟩
theorem mn_Nh (k : Nat) (f : Nat → Nat) (z : mf_Z) : ∀ x, mn_N z (mf_hs g m P k f x z) ∧ ((mf_hs g m P k f x z).2 = false → ∀ i, i < x → md_cv g i (P k) → z.1.1 (mf_ix P m (md_at (P k) (mc_g g i))) = true) := by
  intro x
  induction x with
  | zero => exact ⟨mn_Nr z, fun _ i hi => by omega⟩
  | succ x ih =>
    simp only [mf_hs]
    split
    · rename_i c
      refine ⟨mn_Nt ih.1 mn_N1', fun h i hi ci => ?_⟩
      have a := mn_N1 h
      by_cases e : i = x
      · subst e
        rw [(ih.1 a.1).2] at a
        exact a.2.1
      · exact ih.2 a.1 i (by omega) ci
    · rename_i c
      refine ⟨ih.1, fun h i hi ci => ?_⟩
      by_cases e : i = x
      · subst e; exact absurd ci c
      · exact ih.2 h i (by omega) ci
/-- what place k leads to is known -/
def mn_K (g : md_C) (m : Nat) (P : Nat → Nat) (k : Nat) (kn : Nat → Bool) : Prop := (∀ i, i < mc_hc g → md_cv g i (P k) → kn (mf_ix P m (md_at (P k) (mc_g g i))) = true) ∧ (md_gb (mc_o g (P k % 24)) → kn (k + 1) = true) ∧ (∀ p, md_L g (P k) = some p → kn (mf_ix P m p) = true)
theorem mn_Ns {k : Nat} {z y : mf_Z} (h : mf_st g m P D k z = some y) : mn_N z y ∧ (y.2 = false → mn_K g m P k z.1.1) := by
  unfold mf_st at h
  split at h
  · cases h
    have hh := mn_Nh (g := g) (m := m) (P := P) k (z.1.2 k) z (mc_hc g)
    generalize mf_hs g m P k (z.1.2 k) (mc_hc g) z = w at hh ⊢
    generalize mf_cg g P k (D k) (w.1.2 k) = f
    generalize 4 + md_th g (P k) (D k) = n
    have a : mn_N w (mf_gb g P k n f w) ∧ ((mf_gb g P k n f w).2 = false → md_gb (mc_o g (P k % 24)) → w.1.1 (k + 1) = true) := by
      unfold mf_gb
      split
      · exact ⟨mn_N1', fun h _ => (mn_N1 h).2.1⟩
      · rename_i c
        exact ⟨mn_Nr w, fun _ b => absurd b c⟩
    generalize mf_gb g P k n f w = v at a ⊢
    have b : mn_N v (mf_gj g m P k n f v) ∧ ((mf_gj g m P k n f v).2 = false → ∀ p, md_L g (P k) = some p → v.1.1 (mf_ix P m p) = true) := by
      unfold mf_gj
      cases e : md_L g (P k) with
      | none => exact ⟨mn_Nr v, fun _ p hp => by cases hp⟩
      | some q => exact ⟨mn_N1', fun h p hp => by cases hp; exact (mn_N1 h).2.1⟩
    refine ⟨mn_Nt hh.1 (mn_Nt a.1 b.1), fun h => ?_⟩
    have v2 := b.1 h
    have w2 := a.1 v2.1
    have z2 := hh.1 w2.1
    refine ⟨fun i hi ci => hh.2 w2.1 i hi ci, fun c => ?_, fun p hp => ?_⟩
    · have := a.2 v2.1 c
      rw [z2.2] at this; exact this
    · have := b.2 h p hp
      rw [w2.2, z2.2] at this; exact this
  · cases h
theorem mn_Nrd : ∀ k z y, mf_rd g m P D k z = some y → mn_N z y ∧ (y.2 = false → ∀ i, i < k → z.1.1 i = true → mn_K g m P i z.1.1) := by
  intro k
  induction k with
  | zero => intro z y h; cases h; exact ⟨mn_Nr z, fun _ i hi => by omega⟩
  | succ k ih =>
    intro z y h
    simp only [mf_rd] at h
    cases e : mf_rd g m P D k z with
    | none => rw [e] at h; cases h
    | some w =>
      rw [e] at h
      dsimp only at h
      obtain ⟨a1, a2⟩ := ih z w e
      split at h
      · obtain ⟨b1, b2⟩ := mn_Ns h
        refine ⟨mn_Nt a1 b1, fun hf i hi ki => ?_⟩
        have wf := (b1 hf).1
        by_cases c : i = k
        · subst c
          have := b2 hf
          rw [(a1 wf).2] at this; exact this
        · exact a2 wf i (by omega) ki
      · rename_i nk
        cases h
        refine ⟨a1, fun hf i hi ki => ?_⟩
        by_cases c : i = k
        · subst c
          rw [(a1 hf).2] at nk
          exact absurd ki nk
        · exact a2 hf i (by omega) ki
theorem mn_g1k {z : mf_Z} {p n q : Nat} {f : Nat → Nat} (h : z.1.1 q = true) : (mf_g1 g z p n f).1.1 q = true := by
  unfold mf_g1 mf_gv
  dsimp only
  split
  · rfl
  · exact h
theorem mn_hsk {k q : Nat} {f : Nat → Nat} {z : mf_Z} (h : z.1.1 q = true) : ∀ x, (mf_hs g m P k f x z).1.1 q = true := by
  intro x
  induction x with
  | zero => exact h
  | succ x ih =>
    simp only [mf_hs]
    split
    · exact mn_g1k ih
    · exact ih
theorem mn_stk {k q : Nat} {z y : mf_Z} (h : mf_st g m P D k z = some y) (hq : z.1.1 q = true) : y.1.1 q = true := by
  unfold mf_st at h
  split at h
  · cases h
    have a := mn_hsk (g := g) (m := m) (P := P) (k := k) (f := z.1.2 k) hq (mc_hc g)
    generalize mf_hs g m P k (z.1.2 k) (mc_hc g) z = w at a ⊢
    unfold mf_gj mf_gb
    split
    · split
      · exact mn_g1k (mn_g1k a)
      · exact mn_g1k a
    · split
      · exact mn_g1k a
      · exact a
  · cases h
theorem mn_rdk {q : Nat} : ∀ k z y, mf_rd g m P D k z = some y → z.1.1 q = true → y.1.1 q = true := by
  intro k
  induction k with
  | zero => intro z y h hq; cases h; exact hq
  | succ k ih =>
    intro z y h hq
    simp only [mf_rd] at h
    cases e : mf_rd g m P D k z with
    | none => rw [e] at h; cases h
    | some w =>
      rw [e] at h
      dsimp only at h
      have := ih z w e hq
      split at h
      · exact mn_stk h this
      · cases h; exact this
/-- closed and begun: every place is known -/
theorem mn_all (Y : ml_Y g m P D) {kn : Nat → Bool} (h0 : kn 0 = true) (hK : ∀ k, k < m → kn k = true → mn_K g m P k kn) : ∀ k, k < m → kn k = true := by
  have key : ∀ p h, md_R g p h → ∀ k, k < m → P k = p → kn k = true := by
    intro p h r
    refine md_Ri r (fun p _ => ∀ k, k < m → P k = p → kn k = true) ?_ ?_
    · intro k hk e
      obtain ⟨a, b, _⟩ := mg_0 Y
      have : k = 0 := ml_inj Y.2.1 _ _ hk a (e.trans b.symm)
      subst this; exact h0
    · intro q d q' d' rq I s k hk e
      obtain ⟨j, hj, e1, e2⟩ := (Y.2.2.1 _ _).mp rq
      have kj := I j hj e1
      have K := hK j hj kj
      subst e1
      rcases s.2 with ⟨b, e3, _⟩ | ⟨l, _⟩ | ⟨x, hx, c, e3, _⟩
      · have := mg_next Y hj hk (e.trans e3)
        subst this
        exact K.2.1 b
      · have := K.2.2 _ l
        rw [← e, mf_ix_eq m k Y.2.1 hk] at this
        exact this
      · have := K.1 x hx c
        rw [← e3, ← e, mf_ix_eq m k Y.2.1 hk] at this
        exact this
  intro k hk
  exact key _ _ (mg_R Y hk) k hk rfl
/-- types stay types -/
def mn_90 (T : mf_T) : Prop := ∀ p s, T.2 p s ≤ 90
theorem mn_g90 (hp : ∀ c, mc_p g c ≤ c - 1) {z : mf_Z} {p n : Nat} {f : Nat → Nat} (h : mn_90 z.1) (hf : ∀ s, f s ≤ 90) : mn_90 (mf_g1 g z p n f).1 := by
  intro q s
  unfold mf_g1 mf_gv mf_nw
  dsimp only
  split
  · split
    · exact mt_j90 hp (h _ _) (hf _)
    · exact hf _
  · exact h _ _
theorem mn_up90 {f : Nat → Nat} {i v : Nat} (hf : ∀ s, f s ≤ 90) (hv : v ≤ 90) : ∀ s, mf_up f i v s ≤ 90 := by
  intro s; unfold mf_up; split
  · exact hv
  · exact hf s
theorem mn_h90 (hG : md_G g) {f : Nat → Nat} (hf : ∀ s, f s ≤ 90) (x : Nat) : ∀ s, mf_hf g f x s ≤ 90 := by
  have := (hG.2.2.2.2.1 x).2.2.2
  exact mn_up90 hf (by omega)
theorem mn_hs90 (hG : md_G g) {k : Nat} {f : Nat → Nat} {z : mf_Z} (h : mn_90 z.1) (hf : ∀ s, f s ≤ 90) : ∀ x, mn_90 (mf_hs g m P k f x z).1 := by
  intro x
  induction x with
  | zero => exact h
  | succ x ih =>
    simp only [mf_hs]
    split
    · exact mn_g90 hG.2.2.2.2.2.1 ih (mn_h90 hG hf x)
    · exact ih
theorem mn_lim8 (hG : md_G g) {i : Nat} (h : mc_o g i = 8 ∨ mc_o g i = 10 ∨ mc_o g i = 11 ∨ mc_o g i = 18) : mc_a g i < 8 ∧ mc_r g i = nI (mc_a g i) := by
  have := hG.2.2.2.1 i
  have e : md_lim (mc_o g i) = 8 := by
    unfold md_lim
    rw [if_neg (by omega), if_pos h]
  rw [e] at this
  exact this (by omega)
theorem mn_lim4 (hG : md_G g) {i : Nat} (h : mc_o g i = 2 ∨ mc_o g i = 3 ∨ mc_o g i = 16) : mc_a g i < 4 ∧ mc_r g i = nI (mc_a g i) := by
  have := hG.2.2.2.1 i
  have e : md_lim (mc_o g i) = 4 := by
    unfold md_lim
    rw [if_pos h]
  rw [e] at this
  exact this (by omega)
theorem mn_lim24 (hG : md_G g) {i : Nat} (h : 12 ≤ mc_o g i ∧ mc_o g i ≤ 15) : mc_a g i < 24 ∧ mc_r g i = nI (mc_a g i) := by
  have := hG.2.2.2.1 i
  have e : md_lim (mc_o g i) = 24 := by
    unfold md_lim
    rw [if_neg (by omega), if_neg (by omega), if_pos h]
  rw [e] at this
  exact this (by omega)
theorem mn_cg90 (hG : md_G g) {k d : Nat} {f : Nat → Nat} (hk : k < 40) (hf : ∀ s, f s ≤ 90) (nd : mf_nd g m P k d f) : ∀ s, mf_cg g P k d f s ≤ 90 := by
  unfold mf_cg
  split
  · exact mn_up90 hf (by omega)
  split
  · exact mn_up90 hf (by omega)
  split
  · exact mn_up90 hf (hf _)
  split
  · exact mn_up90 hf (hf _)
  split
  · exact mn_up90 hf (hf _)
  split
  · exact mn_up90 (mn_up90 hf (hf _)) (hf _)
  split
  · refine mn_up90 (fun s => ?_) (by omega)
    split
    · omega
    · exact hf s
  split
  · rename_i o9
    intro s
    have m9 := nd.2.2.2.1 o9
    have := (mn_lim8 hG (i := P (f (3 + d) - 11) % 24) (Or.inl m9.2.2)).1
    unfold mf_mc
    dsimp only
    split
    · omega
    · exact hf s
  split
  · rename_i o10
    have := (mn_lim8 hG (Or.inr (Or.inl o10))).1
    exact mn_up90 hf (by omega)
  split
  · exact mn_up90 hf (by omega)
  · exact hf
theorem mn_st90 (hG : md_G g) {k : Nat} (hk : k < 40) {z y : mf_Z} (h : mf_st g m P D k z = some y) (hz : mn_90 z.1) : mn_90 y.1 := by
  unfold mf_st at h
  split at h
  · rename_i nd
    cases h
    have a := mn_hs90 (m := m) (P := P) (k := k) hG hz (hz k) (mc_hc g)
    have c := mn_cg90 (P := P) hG hk (a k) nd
    generalize mf_hs g m P k (z.1.2 k) (mc_hc g) z = w at a c ⊢
    generalize mf_cg g P k (D k) (w.1.2 k) = f at c ⊢
    have b : mn_90 (mf_gb g P k (4 + md_th g (P k) (D k)) f w).1 := by
      unfold mf_gb
      split
      · exact mn_g90 hG.2.2.2.2.2.1 a c
      · exact a
    unfold mf_gj
    split
    · exact mn_g90 hG.2.2.2.2.2.1 b c
    · exact b
  · cases h
/-- the one pass -/
def mk_fr (M : Nat → Bool) (K : Nat → Nat → Nat) (k : Nat) (f : Nat → Nat) : Nat → Nat := if M k = true then K k else f
abbrev mk_ft (g : md_C) (K : Nat → Nat → Nat) (j n : Nat) (f : Nat → Nat) : Prop := ∀ s, s < n → mt_fit g (f s) (K j s)
def mk_hok (g : md_C) (m : Nat) (P : Nat → Nat) (K : Nat → Nat → Nat) (k : Nat) (f : Nat → Nat) : Prop := ∀ x, x < mc_hc g → md_cv g x (P k) → mk_ft g K (mf_ix P m (md_at (P k) (mc_g g x))) 5 (mf_hf g f x)
noncomputable def mk_rs (g : md_C) (m : Nat) (P D : Nat → Nat) (M : Nat → Bool) (K : Nat → Nat → Nat) (k : Nat) (b : Bool) (f : Nat → Nat) : Nat :=
  if M k = true ∧ b = true ∧ ¬ mk_ft g K k (4 + D k) f then 1
  else @ite Nat (¬ mk_hok g m P K k (mk_fr M K k f)) (Classical.propDecidable _) 2 (if ¬ mf_nd g m P k (D k) (mk_fr M K k f) then 3
  else match md_L g (P k) with
    | some p => if mk_ft g K (mf_ix P m p) (4 + md_th g (P k) (D k)) (mf_cg g P k (D k) (mk_fr M K k f)) then 0 else 4
    | none => 0)
noncomputable def mk_ck (g : md_C) (m : Nat) (P D : Nat → Nat) (M : Nat → Bool) (K : Nat → Nat → Nat) : Nat → Nat → Bool → (Nat → Nat) → Option (Nat × Nat)
  | 0, _, _, _ => none
  | r + 1, k, b, f => if mk_rs g m P D M K k b f = 0 then mk_ck g m P D M K r (k + 1) (decide (md_gb (mc_o g (P k % 24)))) (mf_cg g P k (D k) (mk_fr M K k f)) else some (k, mk_rs g m P D M K k b f)
end
