/-! ===== the pure picture: instructions, keys of places, what a method reaches ===== -/
section
def md_tk (o : Nat) : Nat := if o = 6 ∨ o = 7 then 2 else if (3 ≤ o ∧ o ≤ 5) ∨ (9 ≤ o ∧ o ≤ 11) ∨ o = 13 ∨ o = 14 ∨ 18 ≤ o then 1 else 0
def md_pu (o : Nat) : Nat := if o = 5 ∨ o = 6 then 2 else if o ≤ 2 ∨ o = 7 ∨ o = 8 ∨ o = 10 ∨ o = 15 then 1 else 0
abbrev md_gb (o : Nat) : Prop := o < 12 ∨ o = 13 ∨ o = 14
def md_lim (o : Nat) : Nat := if o = 2 ∨ o = 3 ∨ o = 16 then 4 else if o = 8 ∨ o = 10 ∨ o = 11 ∨ o = 18 then 8 else if 12 ≤ o ∧ o ≤ 15 then 24 else 0
theorem md_tk2 (o : Nat) : md_tk o ≤ 2 := by
  unfold md_tk; split
  · omega
  · split <;> omega
theorem md_pu2 (o : Nat) : md_pu o ≤ 2 := by
  unfold md_pu; split
  · omega
  · split <;> omega
/-- code count, handler count, instruction, raw operand, from, to, target, caught class, parent, entry -/
abbrev md_C : Type := Nat × Nat × (Nat → Nat) × (Nat → Int32) × (Nat → Nat) × (Nat → Nat) × (Nat → Nat) × (Nat → Nat) × (Nat → Nat) × (Nat → Nat)
def mc_cc (g : md_C) : Nat := g.1
def mc_hc (g : md_C) : Nat := g.2.1
def mc_o (g : md_C) : Nat → Nat := g.2.2.1
def mc_r (g : md_C) : Nat → Int32 := g.2.2.2.1
def mc_f (g : md_C) : Nat → Nat := g.2.2.2.2.1
def mc_t (g : md_C) : Nat → Nat := g.2.2.2.2.2.1
def mc_g (g : md_C) : Nat → Nat := g.2.2.2.2.2.2.1
def mc_k (g : md_C) : Nat → Nat := g.2.2.2.2.2.2.2.1
def mc_p (g : md_C) : Nat → Nat := g.2.2.2.2.2.2.2.2.1
def mc_e (g : md_C) : Nat → Nat := g.2.2.2.2.2.2.2.2.2
def mc_a (g : md_C) (i : Nat) : Nat := (mc_r g i).toNatClampNeg
/-- what every configuration keeps -/
def md_G (g : md_C) : Prop := mc_cc g ≤ 24 ∧ mc_hc g ≤ 4 ∧ (∀ i, mc_o g i < 20) ∧ (∀ i, 0 < md_lim (mc_o g i) → mc_a g i < md_lim (mc_o g i) ∧ mc_r g i = nI (mc_a g i)) ∧ (∀ x, mc_f g x < 24 ∧ mc_t g x ≤ 24 ∧ mc_g g x < 24 ∧ mc_k g x < 8) ∧ (∀ c, mc_p g c ≤ c - 1) ∧ (∀ s, mc_e g s ≤ 10)
/-- nothing leads outside -/
def md_M (g : md_C) : Prop := 0 < mc_cc g ∧ (∀ i, i < mc_cc g → 12 ≤ mc_o g i → mc_o g i ≤ 15 → mc_a g i < mc_cc g) ∧ (∀ x, x < mc_hc g → mc_g g x < mc_cc g)
def md_y (n a b c i : Nat) : Nat := n * 331776 + a * 13824 + b * 576 + c * 24 + i
def md_x (n a b c i : Nat) : Nat := n * 1048576 + a * 32768 + b * 1024 + c * 32 + i
def md_n (p : Nat) : Nat := p / 331776
def md_c (p j : Nat) : Nat := if j = 0 then p / 13824 % 24 else if j = 1 then p / 576 % 24 else p / 24 % 24
def md_w (j : Nat) : Nat := if j = 0 then 13824 else if j = 1 then 576 else 24
def md_at (p i : Nat) : Nat := p - p % 24 + i
def md_dp (p i : Nat) : Nat := p - p % 24 + i + 331776 + p % 24 * md_w (md_n p)
def md_cl (p : Nat) : Nat := md_at p (md_c p (md_n p - 1)) - 331776 - md_c p (md_n p - 1) * md_w (md_n p - 1)
def md_kx (p : Nat) : Nat := md_x (p / 331776) (p / 13824 % 24) (p / 576 % 24) (p / 24 % 24) (p % 24)
theorem my_n {n a b c i : Nat} (ha : a < 24) (hb : b < 24) (hc : c < 24) (hi : i < 24) : md_y n a b c i / 331776 = n := by unfold md_y; omega
theorem my_a {n a b c i : Nat} (ha : a < 24) (hb : b < 24) (hc : c < 24) (hi : i < 24) : md_y n a b c i / 13824 % 24 = a := by unfold md_y; omega
theorem my_b {n a b c i : Nat} (hb : b < 24) (hc : c < 24) (hi : i < 24) : md_y n a b c i / 576 % 24 = b := by unfold md_y; omega
theorem my_c {n a b c i : Nat} (hc : c < 24) (hi : i < 24) : md_y n a b c i / 24 % 24 = c := by unfold md_y; omega
theorem my_i {n a b c i : Nat} (hi : i < 24) : md_y n a b c i % 24 = i := by unfold md_y; omega
theorem my_kx {n a b c i : Nat} (ha : a < 24) (hb : b < 24) (hc : c < 24) (hi : i < 24) : md_kx (md_y n a b c i) = md_x n a b c i := by
  unfold md_kx; rw [my_n ha hb hc hi, my_a ha hb hc hi, my_b hb hc hi, my_c hc hi, my_i hi]
theorem my_at {n a b c i j : Nat} (hi : i < 24) : md_at (md_y n a b c i) j = md_y n a b c j := by
  unfold md_at; rw [my_i hi]; unfold md_y; omega
/-- valid keys -/
def md_V (g : md_C) (p : Nat) : Prop := ∃ n a b c i, p = md_y n a b c i ∧ n ≤ 3 ∧ a < mc_cc g ∧ b < mc_cc g ∧ c < mc_cc g ∧ i < mc_cc g ∧ (n = 0 → a = 0) ∧ (n ≤ 1 → b = 0) ∧ (n ≤ 2 → c = 0)
theorem md_V4 {g : md_C} {p : Nat} (h : md_V g p) : (∃ i, i < mc_cc g ∧ p = md_y 0 0 0 0 i) ∨ (∃ a i, a < mc_cc g ∧ i < mc_cc g ∧ p = md_y 1 a 0 0 i) ∨ (∃ a b i, a < mc_cc g ∧ b < mc_cc g ∧ i < mc_cc g ∧ p = md_y 2 a b 0 i) ∨ (∃ a b c i, a < mc_cc g ∧ b < mc_cc g ∧ c < mc_cc g ∧ i < mc_cc g ∧ p = md_y 3 a b c i) := by
  obtain ⟨n, a, b, c, i, e, hn, ha, hb, hc, hi, h0, h1, h2⟩ := h
  have : n = 0 ∨ n = 1 ∨ n = 2 ∨ n = 3 := by omega
  rcases this with rfl | rfl | rfl | rfl
  · left; refine ⟨i, hi, ?_⟩; rw [e, h0 rfl, h1 (by omega), h2 (by omega)]
  · right; left; refine ⟨a, i, ha, hi, ?_⟩; rw [e, h1 (by omega), h2 (by omega)]
  · right; right; left; refine ⟨a, b, i, ha, hb, hi, ?_⟩; rw [e, h2 (by omega)]
  · right; right; right; exact ⟨a, b, c, i, ha, hb, hc, hi, e⟩
theorem md_V0 {g : md_C} {i : Nat} (h : i < mc_cc g) : md_V g (md_y 0 0 0 0 i) := ⟨0, 0, 0, 0, i, rfl, by omega, by omega, by omega, by omega, h, fun _ => rfl, fun _ => rfl, fun _ => rfl⟩
theorem md_V1 {g : md_C} {a i : Nat} (ha : a < mc_cc g) (h : i < mc_cc g) : md_V g (md_y 1 a 0 0 i) := ⟨1, a, 0, 0, i, rfl, by omega, ha, by omega, by omega, h, fun h => by omega, fun _ => rfl, fun _ => rfl⟩
theorem md_V2 {g : md_C} {a b i : Nat} (ha : a < mc_cc g) (hb : b < mc_cc g) (h : i < mc_cc g) : md_V g (md_y 2 a b 0 i) := ⟨2, a, b, 0, i, rfl, by omega, ha, hb, by omega, h, fun h => by omega, fun h => by omega, fun _ => rfl⟩
theorem md_V3 {g : md_C} {a b c i : Nat} (ha : a < mc_cc g) (hb : b < mc_cc g) (hc : c < mc_cc g) (h : i < mc_cc g) : md_V g (md_y 3 a b c i) := ⟨3, a, b, c, i, rfl, by omega, ha, hb, hc, h, fun h => by omega, fun h => by omega, fun h => by omega⟩
theorem md_Vi {g : md_C} {p : Nat} (hG : mc_cc g ≤ 24) (h : md_V g p) : p % 24 < mc_cc g := by
  obtain ⟨n, a, b, c, i, rfl, hn, ha, hb, hc, hi, _⟩ := h
  rw [my_i (by omega)]; exact hi
theorem md_Vn {g : md_C} {p : Nat} (hG : mc_cc g ≤ 24) (h : md_V g p) : md_n p ≤ 3 := by
  obtain ⟨n, a, b, c, i, rfl, hn, ha, hb, hc, hi, _⟩ := h
  unfold md_n; rw [my_n (by omega) (by omega) (by omega) (by omega)]; exact hn
theorem md_Vlt {g : md_C} {p : Nat} (hG : mc_cc g ≤ 24) (h : md_V g p) : p < 1327104 := by
  obtain ⟨n, a, b, c, i, rfl, hn, ha, hb, hc, hi, _⟩ := h
  unfold md_y; omega
theorem md_kxlt (p : Nat) (h : p < 1327104) : md_kx p < 4194304 := by
  unfold md_kx md_x; omega
def md_e (G : Nat → Nat) (p : Nat) : Nat := 32 * G (p / 24) + p % 24
theorem md_e_lt {G : Nat → Nat} (h : ∀ x y, x < y → G x < G y) : ∀ x y, x < y → md_e G x < md_e G y := by
  intro x y hxy
  unfold md_e
  rcases Nat.lt_or_ge (x / 24) (y / 24) with c | c
  · have := h _ _ c
    have := Nat.mod_lt x (show 24 > 0 by omega)
    omega
  · have e : x / 24 = y / 24 := Nat.le_antisymm (Nat.div_le_div_right (Nat.le_of_lt hxy)) c
    have h1 := Nat.div_add_mod x 24
    have h2 := Nat.div_add_mod y 24
    rw [e] at h1 ⊢
    omega
theorem md_d2 (p : Nat) : p / 24 / 24 = p / 576 := Nat.div_div_eq_div_mul p 24 24
theorem md_d3 (p : Nat) : p / 24 / 24 / 24 = p / 13824 := by rw [md_d2, Nat.div_div_eq_div_mul]
theorem md_d4 (p : Nat) : p / 24 / 24 / 24 / 24 = p / 331776 := by rw [md_d3, Nat.div_div_eq_div_mul]
theorem md_kx_e (p : Nat) : md_kx p = md_e (md_e (md_e (md_e (fun x => x)))) p := by
  unfold md_kx md_x md_e
  rw [md_d4, md_d3, md_d2]
  generalize p / 331776 = n
  generalize p / 13824 % 24 = a
  generalize p / 576 % 24 = b
  generalize p / 24 % 24 = c
  generalize p % 24 = i
  dsimp only
  omega
theorem md_kx_l {p q : Nat} (h : p < q) : md_kx p < md_kx q := by
  rw [md_kx_e, md_kx_e]
  exact md_e_lt (md_e_lt (md_e_lt (md_e_lt (fun _ _ h => h)))) p q h
theorem md_kx_lt {p q : Nat} : md_kx p < md_kx q ↔ p < q := by
  constructor
  · intro h
    apply Classical.byContradiction
    intro c
    rcases Nat.lt_or_eq_of_le (Nat.le_of_not_lt c) with d | d
    · have := md_kx_l d; omega
    · subst d; omega
  · exact md_kx_l
theorem md_kx_eq {p q : Nat} : md_kx p = md_kx q ↔ p = q := by
  constructor
  · intro h
    have a := @md_kx_lt p q
    have b := @md_kx_lt q p
    omega
  · rintro rfl; rfl
theorem md_V_at {g : md_C} {p j : Nat} (hG : mc_cc g ≤ 24) (h : md_V g p) (hj : j < mc_cc g) : md_V g (md_at p j) := by
  obtain ⟨n, a, b, c, i, rfl, hn, ha, hb, hc, hi, h0, h1, h2⟩ := h
  rw [my_at (by omega)]
  exact ⟨n, a, b, c, j, rfl, hn, ha, hb, hc, hj, h0, h1, h2⟩
theorem md_V_1 {g : md_C} {p : Nat} (hG : mc_cc g ≤ 24) (h : md_V g p) (hj : p % 24 + 1 < mc_cc g) : md_V g (p + 1) := by
  have : p + 1 = md_at p (p % 24 + 1) := by unfold md_at; omega
  rw [this]; exact md_V_at hG h hj
theorem md_dp0 {i j : Nat} (hi : i < 24) : md_dp (md_y 0 0 0 0 i) j = md_y 1 i 0 0 j := by
  unfold md_dp md_n; rw [my_i hi, my_n (by omega) (by omega) (by omega) hi]; unfold md_w md_y; simp; omega
theorem md_dp1 {a i j : Nat} (ha : a < 24) (hi : i < 24) : md_dp (md_y 1 a 0 0 i) j = md_y 2 a i 0 j := by
  unfold md_dp md_n; rw [my_i hi, my_n ha (by omega) (by omega) hi]; unfold md_w md_y; simp; omega
theorem md_dp2 {a b i j : Nat} (ha : a < 24) (hb : b < 24) (hi : i < 24) : md_dp (md_y 2 a b 0 i) j = md_y 3 a b i j := by
  unfold md_dp md_n; rw [my_i hi, my_n ha hb (by omega) hi]; unfold md_w md_y; simp; omega
theorem md_c1 {a i : Nat} (ha : a < 24) (hi : i < 24) : md_c (md_y 1 a 0 0 i) (1 - 1) = a := by
  unfold md_c; rw [my_a ha (by omega) (by omega) hi]; simp
theorem md_c2 {a b i : Nat} (hb : b < 24) (hi : i < 24) : md_c (md_y 2 a b 0 i) (2 - 1) = b := by
  unfold md_c; rw [my_b hb (by omega) hi]; simp
theorem md_c3 {a b c i : Nat} (hc : c < 24) (hi : i < 24) : md_c (md_y 3 a b c i) (3 - 1) = c := by
  unfold md_c; rw [my_c hc hi]; simp
theorem md_cl1 {a i : Nat} (ha : a < 24) (hi : i < 24) : md_cl (md_y 1 a 0 0 i) = md_y 0 0 0 0 a := by
  unfold md_cl md_n; rw [my_n ha (by omega) (by omega) hi, md_c1 ha hi, my_at hi]; unfold md_w md_y; simp; omega
theorem md_cl2 {a b i : Nat} (ha : a < 24) (hb : b < 24) (hi : i < 24) : md_cl (md_y 2 a b 0 i) = md_y 1 a 0 0 b := by
  unfold md_cl md_n; rw [my_n ha hb (by omega) hi, md_c2 hb hi, my_at hi]; unfold md_w md_y; simp; omega
theorem md_cl3 {a b c i : Nat} (ha : a < 24) (hb : b < 24) (hc : c < 24) (hi : i < 24) : md_cl (md_y 3 a b c i) = md_y 2 a b 0 c := by
  unfold md_cl md_n; rw [my_n ha hb hc hi, md_c3 hc hi, my_at hi]; unfold md_w md_y; simp; omega
end
