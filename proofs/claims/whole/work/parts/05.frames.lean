/-! ===== finding types: one pure round, its measure ===== -/
section
def mf_b (b : Bool) : Int32 := if b = true then 1 else 0
def mf_sum (f : Nat → Nat) : Nat → Nat
  | 0 => 0
  | n + 1 => mf_sum f n + f n
theorem mf_sum_le {f h : Nat → Nat} : ∀ n, (∀ s, s < n → f s ≤ h s) → mf_sum f n ≤ mf_sum h n := by
  intro n
  induction n with
  | zero => intro _; exact Nat.le_refl _
  | succ n ih =>
    intro a
    have := ih (fun s hs => a s (by omega))
    have := a n (by omega)
    simp only [mf_sum]; omega
theorem mf_sum_lt {f h : Nat → Nat} : ∀ n, (∀ s, s < n → f s ≤ h s) → (∃ s, s < n ∧ f s < h s) → mf_sum f n < mf_sum h n := by
  intro n
  induction n with
  | zero => rintro _ ⟨s, hs, _⟩; omega
  | succ n ih =>
    rintro a ⟨s, hs, e⟩
    have l := mf_sum_le n (fun s hs => a s (by omega))
    have := a n (by omega)
    simp only [mf_sum]
    by_cases c : s = n
    · subst c; omega
    · have := ih (fun s hs => a s (by omega)) ⟨s, by omega, e⟩
      omega
theorem mf_sum_c {f : Nat → Nat} {c : Nat} : ∀ n, (∀ s, s < n → f s ≤ c) → mf_sum f n ≤ n * c := by
  intro n
  induction n with
  | zero => intro _; simp [mf_sum]
  | succ n ih =>
    intro a
    have := ih (fun s hs => a s (by omega))
    have := a n (by omega)
    simp only [mf_sum]
    rw [Nat.add_mul]; omega
/-- known, and the types found -/
abbrev mf_T : Type := (Nat → Bool) × (Nat → Nat → Nat)
def mf_nw (g : md_C) (T : mf_T) (p : Nat) (f : Nat → Nat) (s : Nat) : Nat := if T.1 p = true then mt_j g (T.2 p s) (f s) else f s
def mf_gv (g : md_C) (T : mf_T) (p n : Nat) (f : Nat → Nat) : mf_T := (fun q => if q = p then true else T.1 q, fun q s => if q = p ∧ s < n then mf_nw g T p f s else T.2 q s)
def mf_ch (g : md_C) (T : mf_T) (p : Nat) (f : Nat → Nat) : Nat → Bool
  | 0 => false
  | s + 1 => mf_ch g T p f s || decide (mf_nw g T p f s ≠ T.2 p s)
def mf_fl (g : md_C) (T : mf_T) (p n : Nat) (f : Nat → Nat) : Bool := !(T.1 p) || mf_ch g T p f n
theorem mf_ch_iff {g : md_C} {T : mf_T} {p : Nat} {f : Nat → Nat} : ∀ n, mf_ch g T p f n = true ↔ ∃ s, s < n ∧ mf_nw g T p f s ≠ T.2 p s := by
  intro n
  induction n with
  | zero => simp [mf_ch]
  | succ n ih =>
    simp only [mf_ch, Bool.or_eq_true, ih, decide_eq_true_eq]
    constructor
    · rintro (⟨s, hs, e⟩ | e)
      · exact ⟨s, by omega, e⟩
      · exact ⟨n, by omega, e⟩
    · rintro ⟨s, hs, e⟩
      by_cases c : s = n
      · subst c; exact Or.inr e
      · exact Or.inl ⟨s, by omega, e⟩
def mf_mp (T : mf_T) (p : Nat) : Nat := if T.1 p = true then mf_sum (fun s => mt_h (T.2 p s)) 10 else 91
def mf_mu (m : Nat) (T : mf_T) : Nat := mf_sum (mf_mp T) m
theorem mf_mp_gv {g : md_C} (hp : ∀ c, mc_p g c ≤ c - 1) (T : mf_T) (p n : Nat) (f : Nat → Nat) (q : Nat) : mf_mp (mf_gv g T p n f) q ≤ mf_mp T q := by
  unfold mf_mp mf_gv
  by_cases e : q = p
  · subst e
    simp only [if_true, true_and]
    by_cases k : T.1 q = true
    · rw [if_pos k]
      refine mf_sum_le _ (fun s hs => ?_)
      by_cases c : s < n
      · simp only [c, if_true, mf_nw, k]
        rcases mt_jh hp (T.2 q s) (f s) with x | x
        · rw [x]; exact Nat.le_refl _
        · omega
      · simp only [c, if_false]; exact Nat.le_refl _
    · rw [if_neg k]
      have := mf_sum_c (f := fun s => mt_h (if s < n then mf_nw g T q f s else T.2 q s)) (c := 9) 10 (fun s hs => mt_h9 _)
      omega
  · simp only [e, if_false, false_and]; exact Nat.le_refl _
theorem mf_mu_gv {g : md_C} (hp : ∀ c, mc_p g c ≤ c - 1) (m : Nat) (T : mf_T) (p n : Nat) (f : Nat → Nat) : mf_mu m (mf_gv g T p n f) ≤ mf_mu m T :=
  mf_sum_le _ (fun q _ => mf_mp_gv hp T p n f q)
theorem mf_mu_fl {g : md_C} (hp : ∀ c, mc_p g c ≤ c - 1) {m : Nat} {T : mf_T} {p n : Nat} {f : Nat → Nat} (hm : p < m) (hn : n ≤ 10) (h : mf_fl g T p n f = true) : mf_mu m (mf_gv g T p n f) < mf_mu m T := by
  refine mf_sum_lt _ (fun q _ => mf_mp_gv hp T p n f q) ⟨p, hm, ?_⟩
  unfold mf_mp mf_gv
  simp only [if_true, true_and]
  by_cases k : T.1 p = true
  · rw [if_pos k]
    have : mf_ch g T p f n = true := by
      unfold mf_fl at h; rw [k] at h; simpa using h
    obtain ⟨s, hs, e⟩ := (mf_ch_iff n).mp this
    refine mf_sum_lt _ (fun s hs => ?_) ⟨s, by omega, ?_⟩
    · by_cases c : s < n
      · simp only [c, if_true, mf_nw, k]
        rcases mt_jh hp (T.2 p s) (f s) with x | x
        · rw [x]; exact Nat.le_refl _
        · omega
      · simp only [c, if_false]; exact Nat.le_refl _
    · simp only [hs, if_true]
      unfold mf_nw at e ⊢
      rw [if_pos k] at e ⊢
      rcases mt_jh hp (T.2 p s) (f s) with x | x
      · exact absurd x e
      · exact x
  · rw [if_neg k]
    have := mf_sum_c (f := fun s => mt_h (if s < n then mf_nw g T p f s else T.2 p s)) (c := 9) 10 (fun s hs => mt_h9 _)
    omega
theorem mf_mu_b (m : Nat) (T : mf_T) (hm : m ≤ 40) : mf_mu m T ≤ 3640 := by
  have := mf_sum_c (f := mf_mp T) (c := 91) m (fun q _ => by
    unfold mf_mp
    split
    · have := mf_sum_c (f := fun s => mt_h (T.2 q s)) (c := 9) 10 (fun s _ => mt_h9 _)
      omega
    · omega)
  have : m * 91 ≤ 40 * 91 := Nat.mul_le_mul_right _ hm
  unfold mf_mu; omega
/-- gives to different places commute -/
theorem mf_gv_comm {g : md_C} {T : mf_T} {p q n n' : Nat} {f f' : Nat → Nat} (h : p ≠ q) : mf_gv g (mf_gv g T p n f) q n' f' = mf_gv g (mf_gv g T q n' f') p n f := by
  unfold mf_gv mf_nw
  refine Prod.ext ?_ ?_
  · funext r
    dsimp only
    by_cases a : r = p <;> by_cases b : r = q <;> simp [a, b]
  · funext r s
    dsimp only
    have h' : ¬ q = p := fun e => h e.symm
    by_cases a : r = p
    · subst a
      have : ¬ r = q := h
      simp [this, h']
    · by_cases b : r = q
      · subst b
        simp [a]
      · simp [a, b]
theorem mf_fl_other {g : md_C} {T : mf_T} {p q n n' : Nat} {f f' : Nat → Nat} (h : p ≠ q) : mf_fl g (mf_gv g T p n f) q n' f' = mf_fl g T q n' f' := by
  have h' : ¬ q = p := fun e => h e.symm
  have e1 : (mf_gv g T p n f).1 q = T.1 q := by unfold mf_gv; simp [h']
  have e2 : ∀ s, (mf_gv g T p n f).2 q s = T.2 q s := by intro s; unfold mf_gv; simp [h']
  have e3 : ∀ k, mf_ch g (mf_gv g T p n f) q f' k = mf_ch g T q f' k := by
    intro k
    induction k with
    | zero => rfl
    | succ k ih =>
      have e4 : mf_nw g (mf_gv g T p n f) q f' k = mf_nw g T q f' k := by unfold mf_nw; rw [e1, e2]
      show (mf_ch g (mf_gv g T p n f) q f' k || decide (mf_nw g (mf_gv g T p n f) q f' k ≠ (mf_gv g T p n f).2 q k)) = (mf_ch g T q f' k || decide (mf_nw g T q f' k ≠ T.2 q k))
      rw [ih, e4, e2]
  unfold mf_fl; rw [e1, e3]
/-- which place a key is -/
def mf_ix (P : Nat → Nat) : Nat → Nat → Nat
  | 0, _ => 0
  | n + 1, p => if P n = p then n else mf_ix P n p
theorem mf_ix_eq {P : Nat → Nat} : ∀ m k, ml_inc m P → k < m → mf_ix P m (P k) = k := by
  intro m
  induction m with
  | zero => intro k _ hk; omega
  | succ m ih =>
    intro k hi hk
    simp only [mf_ix]
    by_cases e : P m = P k
    · rw [if_pos e]; exact ml_inj hi _ _ (by omega) hk e
    · rw [if_neg e]
      have : k ≠ m := fun z => e (by rw [z])
      exact ih k (fun i j a b => hi i j a (by omega)) (by omega)
abbrev mf_isM (g : md_C) (m : Nat) (P : Nat → Nat) (t : Nat) : Prop := 11 ≤ t ∧ t - 11 < m ∧ mc_o g (P (t - 11) % 24) = 8
def mf_mc (g : md_C) (P : Nat → Nat) (t : Nat) : Nat := mc_a g (P (t - 11) % 24)
/-- what the instruction of place k needs of a frame with d values -/
abbrev mf_nd (g : md_C) (m : Nat) (P : Nat → Nat) (k d : Nat) (f : Nat → Nat) : Prop :=
  (mc_o g (P k % 24) = 2 → f (mc_a g (P k % 24)) ≠ 0 ∧ f (mc_a g (P k % 24)) < 51) ∧
  (mc_o g (P k % 24) = 7 → f (3 + d) = 1 ∧ f (2 + d) = 1) ∧
  (mc_o g (P k % 24) = 8 → ∀ i, i < d → f (4 + i) ≠ 11 + k) ∧
  (mc_o g (P k % 24) = 9 → mf_isM g m P (f (3 + d))) ∧
  (mc_o g (P k % 24) = 10 ∨ mc_o g (P k % 24) = 14 ∨ mc_o g (P k % 24) = 19 → 2 ≤ f (3 + d) ∧ f (3 + d) ≤ 10) ∧
  (mc_o g (P k % 24) = 11 ∨ mc_o g (P k % 24) = 18 → mt_fit g (f (3 + d)) (3 + mc_a g (P k % 24))) ∧
  (mc_o g (P k % 24) = 13 → f (3 + d) = 1) ∧
  (mc_o g (P k % 24) = 16 → f (mc_a g (P k % 24)) = 51 + mf_ix P m (md_cl (P k)))
def mf_up (f : Nat → Nat) (i v : Nat) : Nat → Nat := fun s => if s = i then v else f s
/-- what it makes of the frame -/
def mf_cg (g : md_C) (P : Nat → Nat) (k d : Nat) (f : Nat → Nat) : Nat → Nat :=
  if mc_o g (P k % 24) = 0 then mf_up f (4 + d) 1
  else if mc_o g (P k % 24) = 1 then mf_up f (4 + d) 2
  else if mc_o g (P k % 24) = 2 then mf_up f (4 + d) (f (mc_a g (P k % 24)))
  else if mc_o g (P k % 24) = 3 then mf_up f (mc_a g (P k % 24)) (f (3 + d))
  else if mc_o g (P k % 24) = 5 then mf_up f (4 + d) (f (3 + d))
  else if mc_o g (P k % 24) = 6 then mf_up (mf_up f (3 + d) (f (2 + d))) (2 + d) (f (3 + d))
  else if mc_o g (P k % 24) = 8 then mf_up (fun s => if f s = 11 + k then 0 else f s) (4 + d) (11 + k)
  else if mc_o g (P k % 24) = 9 then fun s => if f s = f (3 + d) then 3 + mf_mc g P (f (3 + d)) else f s
  else if mc_o g (P k % 24) = 10 then mf_up f (3 + d) (3 + mc_a g (P k % 24))
  else if mc_o g (P k % 24) = 15 then mf_up f (4 + d) (51 + k)
  else f
abbrev mf_Z : Type := mf_T × Bool
def mf_g1 (g : md_C) (z : mf_Z) (p n : Nat) (f : Nat → Nat) : mf_Z := (mf_gv g z.1 p n f, z.2 || mf_fl g z.1 p n f)
/-- the frame that a handler is given -/
def mf_hf (g : md_C) (f : Nat → Nat) (x : Nat) : Nat → Nat := mf_up f 4 (3 + mc_k g x)
def mf_hs (g : md_C) (m : Nat) (P : Nat → Nat) (k : Nat) (f : Nat → Nat) : Nat → mf_Z → mf_Z
  | 0, z => z
  | x + 1, z => if md_cv g x (P k) then mf_g1 g (mf_hs g m P k f x z) (mf_ix P m (md_at (P k) (mc_g g x))) 5 (mf_hf g f x) else mf_hs g m P k f x z
/-- giving on behind the handlers: behind, then the jump -/
def mf_gb (g : md_C) (P : Nat → Nat) (k n : Nat) (f : Nat → Nat) (z : mf_Z) : mf_Z := if md_gb (mc_o g (P k % 24)) then mf_g1 g z (k + 1) n f else z
def mf_gj (g : md_C) (m : Nat) (P : Nat → Nat) (k n : Nat) (f : Nat → Nat) (z : mf_Z) : mf_Z := match md_L g (P k) with
  | some p => mf_g1 g z (mf_ix P m p) n f
  | none => z
theorem mf_g1_comm {g : md_C} {z : mf_Z} {p q n : Nat} {f : Nat → Nat} : mf_g1 g (mf_g1 g z p n f) q n f = mf_g1 g (mf_g1 g z q n f) p n f := by
  by_cases e : p = q
  · subst e; rfl
  · unfold mf_g1
    dsimp only
    rw [mf_gv_comm e, mf_fl_other e, mf_fl_other (fun h => e h.symm), Bool.or_assoc, Bool.or_assoc, Bool.or_comm (mf_fl g z.1 p n f)]
theorem mf_jb {g : md_C} {m : Nat} {P : Nat → Nat} {k n : Nat} {f : Nat → Nat} {z : mf_Z} : mf_gb g P k n f (mf_gj g m P k n f z) = mf_gj g m P k n f (mf_gb g P k n f z) := by
  unfold mf_gb mf_gj
  cases md_L g (P k) with
  | none => rfl
  | some p =>
    dsimp only
    by_cases b : md_gb (mc_o g (P k % 24))
    · rw [if_pos b, if_pos b]; exact mf_g1_comm
    · rw [if_neg b, if_neg b]
def mf_st (g : md_C) (m : Nat) (P D : Nat → Nat) (k : Nat) (z : mf_Z) : Option mf_Z :=
  if mf_nd g m P k (D k) ((mf_hs g m P k (z.1.2 k) (mc_hc g) z).1.2 k) then
    some (mf_gj g m P k (4 + md_th g (P k) (D k)) (mf_cg g P k (D k) ((mf_hs g m P k (z.1.2 k) (mc_hc g) z).1.2 k)) (mf_gb g P k (4 + md_th g (P k) (D k)) (mf_cg g P k (D k) ((mf_hs g m P k (z.1.2 k) (mc_hc g) z).1.2 k)) (mf_hs g m P k (z.1.2 k) (mc_hc g) z)))
  else none
def mf_rd (g : md_C) (m : Nat) (P D : Nat → Nat) : Nat → mf_Z → Option mf_Z
  | 0, z => some z
  | k + 1, z => match mf_rd g m P D k z with
    | none => none
    | some y => if y.1.1 k = true then mf_st g m P D k y else some y
def mf_it (g : md_C) (m : Nat) (P D : Nat → Nat) : Nat → mf_T → Option mf_T
  | 0, T => some T
  | n + 1, T => match mf_rd g m P D m (T, false) with
    | none => none
    | some y => if y.2 = true then mf_it g m P D n y.1 else some y.1
end
