/-! ===== classes and types ===== -/
section
def mt_cl (g : md_C) : Nat → Nat → Nat → Nat
  | 0, _, e => e
  | n + 1, c, e => if c < e then mt_cl g n c (mc_p g e) else e
/-- class c is class d or above it -/
abbrev mt_ab (g : md_C) (c d : Nat) : Prop := mt_cl g 8 c d = c
abbrev mt_C (t : Nat) : Prop := 3 ≤ t ∧ t ≤ 10
abbrev mt_fit (g : md_C) (t o : Nat) : Prop := t = o ∨ o = 0 ∨ (mt_C o ∧ (t = 2 ∨ (mt_C t ∧ mt_ab g (o - 3) (t - 3))))
def mt_lca (g : md_C) : Nat → Nat → Nat → Nat
  | 0, c, _ => c
  | n + 1, c, d => if c = d then c else if d < c then mt_lca g n (mc_p g c) d else mt_lca g n c (mc_p g d)
def mt_j (g : md_C) (t o : Nat) : Nat := if t = o then t else if t = 2 ∧ mt_C o then o else if o = 2 ∧ mt_C t then t else if ¬ mt_C t ∨ ¬ mt_C o then 0 else 3 + mt_lca g 16 (t - 3) (o - 3)
theorem mt_cl_le {g : md_C} (hp : ∀ c, mc_p g c ≤ c - 1) : ∀ n c e, e ≤ n → mt_cl g n c e ≤ c ∨ mt_cl g n c e = e ∧ e ≤ c := by
  intro n
  induction n with
  | zero => intro c e he; left; show e ≤ c; omega
  | succ n ih =>
    intro c e he
    by_cases h : c < e
    · simp only [mt_cl, h, if_true]
      have := hp e
      rcases ih c (mc_p g e) (by omega) with x | ⟨x, y⟩
      · exact Or.inl x
      · left; omega
    · simp only [mt_cl, h, if_false]; right; exact ⟨by trivial, by omega⟩
/-- climbing further changes nothing -/
theorem mt_cl_st {g : md_C} (hp : ∀ c, mc_p g c ≤ c - 1) : ∀ n m c e, e ≤ n → e ≤ m → mt_cl g n c e = mt_cl g m c e := by
  intro n
  induction n with
  | zero =>
    intro m c e he hm
    cases m with
    | zero => rfl
    | succ m => simp only [mt_cl]; rw [if_neg (by omega)]
  | succ n ih =>
    intro m c e he hm
    cases m with
    | zero => simp only [mt_cl]; rw [if_neg (by omega)]
    | succ m =>
      simp only [mt_cl]
      by_cases h : c < e
      · rw [if_pos h, if_pos h]
        have := hp e
        exact ih m c _ (by omega) (by omega)
      · rw [if_neg h, if_neg h]
theorem mt_ab_s {g : md_C} (hp : ∀ c, mc_p g c ≤ c - 1) {c d : Nat} (hd : d ≤ 8) (h : c < d) : mt_ab g c d ↔ mt_ab g c (mc_p g d) := by
  have := hp d
  unfold mt_ab
  rw [mt_cl_st hp 8 9 c d (by omega) (by omega)]
  show (if c < d then mt_cl g 8 c (mc_p g d) else d) = c ↔ _
  rw [if_pos h]
theorem mt_ab_r (g : md_C) (c : Nat) : mt_ab g c c := by
  show (if c < c then _ else c) = c
  rw [if_neg (by omega)]
theorem mt_ab_le {g : md_C} (hp : ∀ c, mc_p g c ≤ c - 1) {c d : Nat} (h : mt_ab g c d) : c ≤ d := by
  apply Classical.byContradiction
  intro hn
  have : mt_cl g 8 c d = d := by
    show (if c < d then _ else d) = d
    rw [if_neg (by omega)]
  have h' : mt_cl g 8 c d = c := h
  omega
theorem mt_ab_0 {g : md_C} (hp : ∀ c, mc_p g c ≤ c - 1) : ∀ d, d ≤ 8 → mt_ab g 0 d := by
  intro d
  induction d using Nat.strongRecOn with
  | ind d ih =>
    intro hd
    by_cases h : 0 < d
    · rw [mt_ab_s hp hd h]
      have := hp d
      exact ih _ (by omega) (by omega)
    · have : d = 0 := by omega
      subst this; exact mt_ab_r g 0
/-- the lowest common ancestor -/
theorem mt_lca_ok {g : md_C} (hp : ∀ c, mc_p g c ≤ c - 1) : ∀ n c d, c ≤ 8 → d ≤ 8 → c + d ≤ n → mt_ab g (mt_lca g n c d) c ∧ mt_ab g (mt_lca g n c d) d ∧ ∀ q, mt_ab g q c → mt_ab g q d → q ≤ mt_lca g n c d := by
  intro n
  induction n with
  | zero =>
    intro c d hc hd h
    have e1 : c = 0 := by omega
    have e2 : d = 0 := by omega
    subst e1 e2
    exact ⟨mt_ab_r g 0, mt_ab_r g 0, fun q a _ => mt_ab_le hp a⟩
  | succ n ih =>
    intro c d hc hd h
    simp only [mt_lca]
    by_cases e : c = d
    · subst e
      simp only [if_true]
      exact ⟨mt_ab_r g c, mt_ab_r g c, fun q a _ => mt_ab_le hp a⟩
    · rw [if_neg e]
      by_cases l : d < c
      · rw [if_pos l]
        have := hp c
        obtain ⟨a, b, m⟩ := ih (mc_p g c) d (by omega) hd (by omega)
        have a1 := mt_ab_le hp a
        refine ⟨?_, b, fun q x y => m q ?_ y⟩
        · rw [mt_ab_s hp hc (by omega)]; exact a
        · have := mt_ab_le hp y
          rw [← mt_ab_s hp hc (by omega)]; exact x
      · rw [if_neg l]
        have := hp d
        obtain ⟨a, b, m⟩ := ih c (mc_p g d) hc (by omega) (by omega)
        have b1 := mt_ab_le hp b
        refine ⟨a, ?_, fun q x y => m q x ?_⟩
        · rw [mt_ab_s hp hd (by omega)]; exact b
        · have := mt_ab_le hp x
          rw [← mt_ab_s hp hd (by omega)]; exact y
theorem mt_lca_fit {g : md_C} (hp : ∀ c, mc_p g c ≤ c - 1) {c d : Nat} (hc : c < 8) (hd : d < 8) (h : mt_ab g d c) : mt_lca g 16 c d = d := by
  obtain ⟨a, b, m⟩ := mt_lca_ok hp 16 c d (by omega) (by omega) (by omega)
  have := mt_ab_le hp b
  have := m d h (mt_ab_r g d)
  omega
theorem mt_lca_fit' {g : md_C} (hp : ∀ c, mc_p g c ≤ c - 1) {c d : Nat} (hc : c < 8) (hd : d < 8) (h : mt_ab g c d) : mt_lca g 16 c d = c := by
  obtain ⟨a, b, m⟩ := mt_lca_ok hp 16 c d (by omega) (by omega) (by omega)
  have := mt_ab_le hp a
  have := m c (mt_ab_r g c) h
  omega
theorem mt_lca_top {g : md_C} (hp : ∀ c, mc_p g c ≤ c - 1) {c d r : Nat} (hc : c < 8) (hd : d < 8) (h1 : mt_ab g r c) (h2 : mt_ab g r d) (h3 : ∀ q, r < q → q < 8 → ¬ (mt_ab g q c ∧ mt_ab g q d)) : mt_lca g 16 c d = r := by
  obtain ⟨a, b, m⟩ := mt_lca_ok hp 16 c d (by omega) (by omega) (by omega)
  have l1 := m r h1 h2
  have l2 := mt_ab_le hp a
  apply Classical.byContradiction
  intro hne
  exact h3 (mt_lca g 16 c d) (by omega) (by omega) ⟨a, b⟩
/-- join as the reference makes it -/
theorem mt_j_up {g : md_C} (hp : ∀ c, mc_p g c ≤ c - 1) {t o : Nat} (h : mt_fit g t o) : mt_j g t o = o := by
  unfold mt_j
  by_cases e : t = o
  · rw [if_pos e]; exact e
  · rw [if_neg e]
    by_cases h1 : t = 2 ∧ mt_C o
    · rw [if_pos h1]
    · rw [if_neg h1]
      by_cases h2 : o = 2 ∧ mt_C t
      · rw [if_pos h2]; unfold mt_fit mt_C at *; omega
      · rw [if_neg h2]
        by_cases h3 : ¬ mt_C t ∨ ¬ mt_C o
        · rw [if_pos h3]; unfold mt_fit at h; unfold mt_C at *; omega
        · rw [if_neg h3]
          rcases h with x | x | ⟨x, y | ⟨y, z⟩⟩
          · exact absurd x e
          · unfold mt_C at *; omega
          · unfold mt_C at *; omega
          · unfold mt_C at x y
            rw [mt_lca_fit hp (by omega) (by omega) z]; omega
theorem mt_j_down {g : md_C} (hp : ∀ c, mc_p g c ≤ c - 1) {t o : Nat} (h : mt_fit g o t) : mt_j g t o = t := by
  unfold mt_j
  by_cases e : t = o
  · rw [if_pos e]
  · rw [if_neg e]
    by_cases h1 : t = 2 ∧ mt_C o
    · rw [if_pos h1]; unfold mt_fit mt_C at *; omega
    · rw [if_neg h1]
      by_cases h2 : o = 2 ∧ mt_C t
      · rw [if_pos h2]
      · rw [if_neg h2]
        by_cases h3 : ¬ mt_C t ∨ ¬ mt_C o
        · rw [if_pos h3]; unfold mt_fit at h; unfold mt_C at *; omega
        · rw [if_neg h3]
          rcases h with x | x | ⟨x, y | ⟨y, z⟩⟩
          · exact absurd x.symm e
          · unfold mt_C at *; omega
          · unfold mt_C at *; omega
          · unfold mt_C at x y
            rw [mt_lca_fit' hp (by omega) (by omega) z]; omega
theorem mt_j_no {g : md_C} {t o : Nat} (h1 : ¬ mt_fit g t o) (h2 : ¬ mt_fit g o t) (h : ¬ mt_C t ∨ ¬ mt_C o) : mt_j g t o = 0 := by
  unfold mt_j
  have a : ¬ t = o := fun e => h1 (Or.inl e)
  have b : ¬ (t = 2 ∧ mt_C o) := fun e => h1 (Or.inr (Or.inr ⟨e.2, Or.inl e.1⟩))
  have c : ¬ (o = 2 ∧ mt_C t) := fun e => h2 (Or.inr (Or.inr ⟨e.2, Or.inl e.1⟩))
  rw [if_neg a, if_neg b, if_neg c, if_pos h]
theorem mt_j_lca {g : md_C} (hp : ∀ c, mc_p g c ≤ c - 1) {t o r : Nat} (h1 : ¬ mt_fit g t o) (h2 : ¬ mt_fit g o t) (ht : mt_C t) (ho : mt_C o) (a : mt_ab g r (t - 3)) (b : mt_ab g r (o - 3)) (m : ∀ q, r < q → q < 8 → ¬ (mt_ab g q (t - 3) ∧ mt_ab g q (o - 3))) : mt_j g t o = 3 + r := by
  unfold mt_j
  have a' : ¬ t = o := fun e => h1 (Or.inl e)
  have b' : ¬ (t = 2 ∧ mt_C o) := by unfold mt_C at *; omega
  have c' : ¬ (o = 2 ∧ mt_C t) := by unfold mt_C at *; omega
  have d' : ¬ (¬ mt_C t ∨ ¬ mt_C o) := by
    rintro (x | x)
    · exact x ht
    · exact x ho
  rw [if_neg a', if_neg b', if_neg c', if_neg d']
  unfold mt_C at ht ho
  rw [mt_lca_top hp (by omega) (by omega) a b m]
/-- heights of types: a join that changes goes down -/
def mt_h (t : Nat) : Nat := if t = 0 then 0 else if t = 2 then 9 else if mt_C t then t - 2 else 1
theorem mt_h9 (t : Nat) : mt_h t ≤ 9 := by
  unfold mt_h mt_C
  repeat' split
  all_goals omega
theorem mt_jh {g : md_C} (hp : ∀ c, mc_p g c ≤ c - 1) (t o : Nat) : mt_j g t o = t ∨ mt_h (mt_j g t o) < mt_h t := by
  unfold mt_j
  split
  · exact Or.inl rfl
  · split
    · right
      rename_i h
      unfold mt_h; unfold mt_C at *
      rw [if_neg (by omega), if_neg (by omega), if_pos (by omega), if_neg (by omega), if_pos (by omega)]
      omega
    · split
      · exact Or.inl rfl
      · split
        · by_cases z : t = 0
          · left; exact z.symm
          · right
            unfold mt_h; unfold mt_C at *
            rw [if_pos rfl, if_neg z]
            repeat' split
            all_goals omega
        · rename_i h
          have h' : mt_C t ∧ mt_C o := by
            refine ⟨Classical.byContradiction fun x => h (Or.inl x), Classical.byContradiction fun x => h (Or.inr x)⟩
          unfold mt_C at h'
          obtain ⟨a, b, m⟩ := mt_lca_ok hp 16 (t - 3) (o - 3) (by omega) (by omega) (by omega)
          have l := mt_ab_le hp a
          by_cases e : mt_lca g 16 (t - 3) (o - 3) = t - 3
          · left; omega
          · right
            unfold mt_h mt_C
            rw [if_neg (by omega), if_neg (by omega), if_pos (by omega), if_neg (by omega), if_neg (by omega), if_pos (by omega)]
            omega
theorem mt_j90 {g : md_C} (hp : ∀ c, mc_p g c ≤ c - 1) {t o : Nat} (ht : t ≤ 90) (ho : o ≤ 90) : mt_j g t o ≤ 90 := by
  unfold mt_j
  split
  · exact ht
  · split
    · exact ho
    · split
      · exact ht
      · split
        · omega
        · rename_i h
          have h' : mt_C t ∧ mt_C o := by
            refine ⟨Classical.byContradiction fun x => h (Or.inl x), Classical.byContradiction fun x => h (Or.inr x)⟩
          unfold mt_C at h'
          obtain ⟨a, b, m⟩ := mt_lca_ok hp 16 (t - 3) (o - 3) (by omega) (by omega) (by omega)
          have l := mt_ab_le hp a
          omega
end
