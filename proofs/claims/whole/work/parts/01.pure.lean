/-! ===== the pure picture: instructions, keys of places, what a method reaches ===== -/
section
def md_tk (o : Nat) : Nat := if o = 6 ∨ o = 7 then 2 else if (3 ≤ o ∧ o ≤ 5) ∨ (9 ≤ o ∧ o ≤ 11) ∨ o = 13 ∨ o = 14 ∨ 18 ≤ o then 1 else 0
def md_pu (o : Nat) : Nat := if o = 5 ∨ o = 6 then 2 else if o ≤ 2 ∨ o = 7 ∨ o = 8 ∨ o = 10 ∨ o = 15 then 1 else 0
abbrev md_gb (o : Nat) : Prop := o < 12 ∨ o = 13 ∨ o = 14
def md_lim (o : Nat) : Nat := if o = 2 ∨ o = 3 ∨ o = 16 then 4 else if o = 8 ∨ o = 10 ∨ o = 11 ∨ o = 18 then 8 else if 12 ≤ o ∧ o ≤ 15 then 24 else 0
theorem md_tk2 (o : Nat) : md_tk o ≤ 2 := by
  unfold md_tk; split
  · omega
  · split <;> omega
theorem md_pu2 (o : Nat) : md_pu o ≤ 2 := by
  unfold md_pu; split
  · omega
  · split <;> omega
/-- code count, handler count, instruction, raw operand, from, to, target, caught class, parent, entry -/
abbrev md_C : Type := Nat × Nat × (Nat → Nat) × (Nat → Int32) × (Nat → Nat) × (Nat → Nat) × (Nat → Nat) × (Nat → Nat) × (Nat → Nat) × (Nat → Nat)
def mc_cc (g : md_C) : Nat := g.1
def mc_hc (g : md_C) : Nat := g.2.1
def mc_o (g : md_C) : Nat → Nat := g.2.2.1
def mc_r (g : md_C) : Nat → Int32 := g.2.2.2.1
def mc_f (g : md_C) : Nat → Nat := g.2.2.2.2.1
def mc_t (g : md_C) : Nat → Nat := g.2.2.2.2.2.1
def mc_g (g : md_C) : Nat → Nat := g.2.2.2.2.2.2.1
def mc_k (g : md_C) : Nat → Nat := g.2.2.2.2.2.2.2.1
def mc_p (g : md_C) : Nat → Nat := g.2.2.2.2.2.2.2.2.1
def mc_e (g : md_C) : Nat → Nat := g.2.2.2.2.2.2.2.2.2
def mc_a (g : md_C) (i : Nat) : Nat := (mc_r g i).toNatClampNeg
/-- what every configuration keeps -/
def md_G (g : md_C) : Prop := mc_cc g ≤ 24 ∧ mc_hc g ≤ 4 ∧ (∀ i, mc_o g i < 20) ∧ (∀ i, 0 < md_lim (mc_o g i) → mc_a g i < md_lim (mc_o g i) ∧ mc_r g i = nI (mc_a g i)) ∧ (∀ x, mc_f g x < 24 ∧ mc_t g x ≤ 24 ∧ mc_g g x < 24 ∧ mc_k g x < 8) ∧ (∀ c, mc_p g c ≤ c - 1) ∧ (∀ s, mc_e g s ≤ 10)
/-- nothing leads outside -/
def md_M (g : md_C) : Prop := 0 < mc_cc g ∧ (∀ i, i < mc_cc g → 12 ≤ mc_o g i → mc_o g i ≤ 15 → mc_a g i < mc_cc g) ∧ (∀ x, x < mc_hc g → mc_g g x < mc_cc g)
def md_y (n a b c i : Nat) : Nat := n * 331776 + a * 13824 + b * 576 + c * 24 + i
def md_x (n a b c i : Nat) : Nat := n * 1048576 + a * 32768 + b * 1024 + c * 32 + i
def md_n (p : Nat) : Nat := p / 331776
def md_c (p j : Nat) : Nat := if j = 0 then p / 13824 % 24 else if j = 1 then p / 576 % 24 else p / 24 % 24
def md_w (j : Nat) : Nat := if j = 0 then 13824 else if j = 1 then 576 else 24
def md_at (p i : Nat) : Nat := p - p % 24 + i
def md_dp (p i : Nat) : Nat := p - p % 24 + i + 331776 + p % 24 * md_w (md_n p)
def md_cl (p : Nat) : Nat := md_at p (md_c p (md_n p - 1)) - 331776 - md_c p (md_n p - 1) * md_w (md_n p - 1)
def md_kx (p : Nat) : Nat := md_x (p / 331776) (p / 13824 % 24) (p / 576 % 24) (p / 24 % 24) (p % 24)
theorem my_n {n a b c i : Nat} (ha : a < 24) (hb : b < 24) (hc : c < 24) (hi : i < 24) : md_y n a b c i / 331776 = n := by unfold md_y; omega
theorem my_a {n a b c i : Nat} (ha : a < 24) (hb : b < 24) (hc : c < 24) (hi : i < 24) : md_y n a b c i / 13824 % 24 = a := by unfold md_y; omega
theorem my_b {n a b c i : Nat} (hb : b < 24) (hc : c < 24) (hi : i < 24) : md_y n a b c i / 576 % 24 = b := by unfold md_y; omega
theorem my_c {n a b c i : Nat} (hc : c < 24) (hi : i < 24) : md_y n a b c i / 24 % 24 = c := by unfold md_y; omega
theorem my_i {n a b c i : Nat} (hi : i < 24) : md_y n a b c i % 24 = i := by unfold md_y; omega
theorem my_kx {n a b c i : Nat} (ha : a < 24) (hb : b < 24) (hc : c < 24) (hi : i < 24) : md_kx (md_y n a b c i) = md_x n a b c i := by
  unfold md_kx; rw [my_n ha hb hc hi, my_a ha hb hc hi, my_b hb hc hi, my_c hc hi, my_i hi]
theorem my_at {n a b c i j : Nat} (hi : i < 24) : md_at (md_y n a b c i) j = md_y n a b c j := by
  unfold md_at; rw [my_i hi]; unfold md_y; omega
/-- valid keys -/
def md_V (g : md_C) (p : Nat) : Prop := ∃ n a b c i, p = md_y n a b c i ∧ n ≤ 3 ∧ a < mc_cc g ∧ b < mc_cc g ∧ c < mc_cc g ∧ i < mc_cc g ∧ (n = 0 → a = 0) ∧ (n ≤ 1 → b = 0) ∧ (n ≤ 2 → c = 0)
theorem md_V4 {g : md_C} {p : Nat} (h : md_V g p) : (∃ i, i < mc_cc g ∧ p = md_y 0 0 0 0 i) ∨ (∃ a i, a < mc_cc g ∧ i < mc_cc g ∧ p = md_y 1 a 0 0 i) ∨ (∃ a b i, a < mc_cc g ∧ b < mc_cc g ∧ i < mc_cc g ∧ p = md_y 2 a b 0 i) ∨ (∃ a b c i, a < mc_cc g ∧ b < mc_cc g ∧ c < mc_cc g ∧ i < mc_cc g ∧ p = md_y 3 a b c i) := by
  obtain ⟨n, a, b, c, i, e, hn, ha, hb, hc, hi, h0, h1, h2⟩ := h
  have : n = 0 ∨ n = 1 ∨ n = 2 ∨ n = 3 := by omega
  rcases this with rfl | rfl | rfl | rfl
  · left; refine ⟨i, hi, ?_⟩; rw [e, h0 rfl, h1 (by omega), h2 (by omega)]
  · right; left; refine ⟨a, i, ha, hi, ?_⟩; rw [e, h1 (by omega), h2 (by omega)]
  · right; right; left; refine ⟨a, b, i, ha, hb, hi, ?_⟩; rw [e, h2 (by omega)]
  · right; right; right; exact ⟨a, b, c, i, ha, hb, hc, hi, e⟩
theorem md_V0 {g : md_C} {i : Nat} (h : i < mc_cc g) : md_V g (md_y 0 0 0 0 i) := ⟨0, 0, 0, 0, i, rfl, by omega, by omega, by omega, by omega, h, fun _ => rfl, fun _ => rfl, fun _ => rfl⟩
theorem md_V1 {g : md_C} {a i : Nat} (ha : a < mc_cc g) (h : i < mc_cc g) : md_V g (md_y 1 a 0 0 i) := ⟨1, a, 0, 0, i, rfl, by omega, ha, by omega, by omega, h, fun h => by omega, fun _ => rfl, fun _ => rfl⟩
theorem md_V2 {g : md_C} {a b i : Nat} (ha : a < mc_cc g) (hb : b < mc_cc g) (h : i < mc_cc g) : md_V g (md_y 2 a b 0 i) := ⟨2, a, b, 0, i, rfl, by omega, ha, hb, by omega, h, fun h => by omega, fun h => by omega, fun _ => rfl⟩
theorem md_V3 {g : md_C} {a b c i : Nat} (ha : a < mc_cc g) (hb : b < mc_cc g) (hc : c < mc_cc g) (h : i < mc_cc g) : md_V g (md_y 3 a b c i) := ⟨3, a, b, c, i, rfl, by omega, ha, hb, hc, h, fun h => by omega, fun h => by omega, fun h => by omega⟩
theorem md_Vi {g : md_C} {p : Nat} (hG : mc_cc g ≤ 24) (h : md_V g p) : p % 24 < mc_cc g := by
  obtain ⟨n, a, b, c, i, rfl, hn, ha, hb, hc, hi, _⟩ := h
  rw [my_i (by omega)]; exact hi
theorem md_Vn {g : md_C} {p : Nat} (hG : mc_cc g ≤ 24) (h : md_V g p) : md_n p ≤ 3 := by
  obtain ⟨n, a, b, c, i, rfl, hn, ha, hb, hc, hi, _⟩ := h
  unfold md_n; rw [my_n (by omega) (by omega) (by omega) (by omega)]; exact hn
theorem md_Vlt {g : md_C} {p : Nat} (hG : mc_cc g ≤ 24) (h : md_V g p) : p < 1327104 := by
  obtain ⟨n, a, b, c, i, rfl, hn, ha, hb, hc, hi, _⟩ := h
  unfold md_y; omega
theorem md_kxlt (p : Nat) (h : p < 1327104) : md_kx p < 4194304 := by
  unfold md_kx md_x; omega
theorem md_kx_lt {p q : Nat} : md_kx p < md_kx q ↔ p < q := by
  unfold md_kx md_x
  have h1 := Nat.div_add_mod p 24
  have h2 := Nat.div_add_mod q 24
  constructor <;> intro h <;> omega
theorem md_kx_eq {p q : Nat} : md_kx p = md_kx q ↔ p = q := by
  constructor
  · intro h
    have a := @md_kx_lt p q
    have b := @md_kx_lt q p
    omega
  · rintro rfl; rfl
theorem md_V_at {g : md_C} {p j : Nat} (hG : mc_cc g ≤ 24) (h : md_V g p) (hj : j < mc_cc g) : md_V g (md_at p j) := by
  obtain ⟨n, a, b, c, i, rfl, hn, ha, hb, hc, hi, h0, h1, h2⟩ := h
  rw [my_at (by omega)]
  exact ⟨n, a, b, c, j, rfl, hn, ha, hb, hc, hj, h0, h1, h2⟩
theorem md_V_1 {g : md_C} {p : Nat} (hG : mc_cc g ≤ 24) (h : md_V g p) (hj : p % 24 + 1 < mc_cc g) : md_V g (p + 1) := by
  have : p + 1 = md_at p (p % 24 + 1) := by unfold md_at; omega
  rw [this]; exact md_V_at hG h hj
theorem md_dp0 {i j : Nat} (hi : i < 24) : md_dp (md_y 0 0 0 0 i) j = md_y 1 i 0 0 j := by
  unfold md_dp md_n; rw [my_i hi, my_n (by omega) (by omega) (by omega) hi]; unfold md_w md_y; simp; omega
theorem md_dp1 {a i j : Nat} (ha : a < 24) (hi : i < 24) : md_dp (md_y 1 a 0 0 i) j = md_y 2 a i 0 j := by
  unfold md_dp md_n; rw [my_i hi, my_n ha (by omega) (by omega) hi]; unfold md_w md_y; simp; omega
theorem md_dp2 {a b i j : Nat} (ha : a < 24) (hb : b < 24) (hi : i < 24) : md_dp (md_y 2 a b 0 i) j = md_y 3 a b i j := by
  unfold md_dp md_n; rw [my_i hi, my_n ha hb (by omega) hi]; unfold md_w md_y; simp; omega
theorem md_c1 {a i : Nat} (ha : a < 24) (hi : i < 24) : md_c (md_y 1 a 0 0 i) (1 - 1) = a := by
  unfold md_c; rw [my_a ha (by omega) (by omega) hi]; simp
theorem md_c2 {a b i : Nat} (hb : b < 24) (hi : i < 24) : md_c (md_y 2 a b 0 i) (2 - 1) = b := by
  unfold md_c; rw [my_b hb (by omega) hi]; simp
theorem md_c3 {a b c i : Nat} (hc : c < 24) (hi : i < 24) : md_c (md_y 3 a b c i) (3 - 1) = c := by
  unfold md_c; rw [my_c hc hi]; simp
theorem md_cl1 {a i : Nat} (ha : a < 24) (hi : i < 24) : md_cl (md_y 1 a 0 0 i) = md_y 0 0 0 0 a := by
  unfold md_cl md_n; rw [my_n ha (by omega) (by omega) hi, md_c1 ha hi, my_at hi]; unfold md_w md_y; simp; omega
theorem md_cl2 {a b i : Nat} (ha : a < 24) (hb : b < 24) (hi : i < 24) : md_cl (md_y 2 a b 0 i) = md_y 1 a 0 0 b := by
  unfold md_cl md_n; rw [my_n ha hb (by omega) hi, md_c2 hb hi, my_at hi]; unfold md_w md_y; simp; omega
theorem md_cl3 {a b c i : Nat} (ha : a < 24) (hb : b < 24) (hc : c < 24) (hi : i < 24) : md_cl (md_y 3 a b c i) = md_y 2 a b 0 c := by
  unfold md_cl md_n; rw [my_n ha hb hc hi, md_c3 hc hi, my_at hi]; unfold md_w md_y; simp; omega
/-- what is wrong with h values, and the least number -/
abbrev md_f1 (g : md_C) (p : Nat) : Prop := (md_gb (mc_o g (p % 24)) ∧ p % 24 + 1 = mc_cc g) ∨ (mc_o g (p % 24) = 16 ∧ 0 < md_n p ∧ md_c p (md_n p - 1) + 1 = mc_cc g)
abbrev md_f2 (g : md_C) (p h : Nat) : Prop := h < md_tk (mc_o g (p % 24))
abbrev md_f3 (g : md_C) (p h : Nat) : Prop := 6 + md_tk (mc_o g (p % 24)) < h + md_pu (mc_o g (p % 24))
abbrev md_ag (p : Nat) : Prop := md_n p = 3 ∨ (1 ≤ md_n p ∧ md_c p 0 = p % 24) ∨ (2 ≤ md_n p ∧ md_c p 1 = p % 24) ∨ (3 ≤ md_n p ∧ md_c p 2 = p % 24)
abbrev md_f4 (g : md_C) (p : Nat) : Prop := mc_o g (p % 24) = 15 ∧ md_ag p
abbrev md_f5 (g : md_C) (p : Nat) : Prop := mc_o g (p % 24) = 16 ∧ md_n p = 0
def md_W (g : md_C) (p h : Nat) : Nat := if md_f1 g p then 1 else if md_f2 g p h then 2 else if md_f3 g p h then 3 else if md_f4 g p then 4 else if md_f5 g p then 5 else 0
theorem md_W0 {g : md_C} {p h : Nat} (w : md_W g p h = 0) : ¬ md_f1 g p ∧ ¬ md_f2 g p h ∧ ¬ md_f3 g p h ∧ ¬ md_f4 g p ∧ ¬ md_f5 g p := by
  unfold md_W at w
  split at w
  · omega
  · split at w
    · omega
    · split at w
      · omega
      · split at w
        · omega
        · split at w
          · omega
          · refine ⟨?_, ?_, ?_, ?_, ?_⟩ <;> assumption
/-- where a place leads by its jump -/
def md_L (g : md_C) (p : Nat) : Option Nat := if mc_o g (p % 24) = 15 then some (md_dp p (mc_a g (p % 24))) else if mc_o g (p % 24) = 16 then some (md_cl p + 1) else if mc_o g (p % 24) = 12 ∨ mc_o g (p % 24) = 13 ∨ mc_o g (p % 24) = 14 then some (md_at p (mc_a g (p % 24))) else none
abbrev md_cv (g : md_C) (x p : Nat) : Prop := mc_f g x ≤ p % 24 ∧ p % 24 < mc_t g x
def md_th (g : md_C) (p h : Nat) : Nat := h - md_tk (mc_o g (p % 24)) + md_pu (mc_o g (p % 24))
def md_T (g : md_C) (p h p' h' : Nat) : Prop := (md_gb (mc_o g (p % 24)) ∧ p' = p + 1 ∧ h' = md_th g p h) ∨ (md_L g p = some p' ∧ h' = md_th g p h) ∨ (∃ x, x < mc_hc g ∧ md_cv g x p ∧ p' = md_at p (mc_g g x) ∧ h' = 1)
def md_S (g : md_C) (p h p' h' : Nat) : Prop := md_W g p h = 0 ∧ md_T g p h p' h'
def md_R (g : md_C) (p h : Nat) : Prop := ∀ S : Nat → Nat → Prop, S 0 0 → (∀ q k q' k', S q k → md_S g q k q' k' → S q' k') → S p h
theorem md_R0 (g : md_C) : md_R g 0 0 := fun _ h _ => h
theorem md_Rs {g : md_C} {p h p' h' : Nat} (r : md_R g p h) (s : md_S g p h p' h') : md_R g p' h' := fun S h0 hs => hs _ _ _ _ (r S h0 hs) s
theorem md_Ri {g : md_C} {p h : Nat} (r : md_R g p h) (I : Nat → Nat → Prop) (h0 : I 0 0) (hs : ∀ q k q' k', md_R g q k → I q k → md_S g q k q' k' → I q' k') : I p h := by
  have := r (fun q k => md_R g q k ∧ I q k) ⟨md_R0 g, h0⟩ (fun q k q' k' a s => ⟨md_Rs a.1 s, hs _ _ _ _ a.1 a.2 s⟩)
  exact this.2
/-- the key of the caller, in digits -/
theorem md_Vcl {g : md_C} {p : Nat} (hG : mc_cc g ≤ 24) (h : md_V g p) (hn : 0 < md_n p) : md_V g (md_cl p) ∧ md_cl p % 24 = md_c p (md_n p - 1) ∧ md_n (md_cl p) + 1 = md_n p := by
  rcases md_V4 h with ⟨i, hi, rfl⟩ | ⟨a, i, ha, hi, rfl⟩ | ⟨a, b, i, ha, hb, hi, rfl⟩ | ⟨a, b, c, i, ha, hb, hc, hi, rfl⟩
  · unfold md_n at hn; rw [my_n (by omega) (by omega) (by omega) (by omega)] at hn; omega
  · rw [md_cl1 (by omega) (by omega)]
    have e : md_n (md_y 1 a 0 0 i) = 1 := my_n (by omega) (by omega) (by omega) (by omega)
    have e' : md_n (md_y 0 0 0 0 a) = 0 := my_n (by omega) (by omega) (by omega) (by omega)
    rw [e, e', md_c1 (by omega) (by omega), my_i (by omega)]
    exact ⟨md_V0 ha, rfl, rfl⟩
  · rw [md_cl2 (by omega) (by omega) (by omega)]
    have e : md_n (md_y 2 a b 0 i) = 2 := my_n (by omega) (by omega) (by omega) (by omega)
    have e' : md_n (md_y 1 a 0 0 b) = 1 := my_n (by omega) (by omega) (by omega) (by omega)
    rw [e, e', md_c2 (by omega) (by omega), my_i (by omega)]
    exact ⟨md_V1 ha hb, rfl, rfl⟩
  · rw [md_cl3 (by omega) (by omega) (by omega) (by omega)]
    have e : md_n (md_y 3 a b c i) = 3 := my_n (by omega) (by omega) (by omega) (by omega)
    have e' : md_n (md_y 2 a b 0 c) = 2 := my_n (by omega) (by omega) (by omega) (by omega)
    rw [e, e', md_c3 (by omega) (by omega), my_i (by omega)]
    exact ⟨md_V2 ha hb hc, rfl, rfl⟩
theorem md_Vdp {g : md_C} {p j : Nat} (hG : mc_cc g ≤ 24) (h : md_V g p) (hn : ¬ md_n p = 3) (hj : j < mc_cc g) : md_V g (md_dp p j) ∧ md_cl (md_dp p j) = p ∧ md_n (md_dp p j) = md_n p + 1 := by
  rcases md_V4 h with ⟨i, hi, rfl⟩ | ⟨a, i, ha, hi, rfl⟩ | ⟨a, b, i, ha, hb, hi, rfl⟩ | ⟨a, b, c, i, ha, hb, hc, hi, rfl⟩
  · rw [md_dp0 (by omega), md_cl1 (by omega) (by omega)]
    unfold md_n; rw [my_n (by omega) (by omega) (by omega) (by omega), my_n (by omega) (by omega) (by omega) (by omega)]
    exact ⟨md_V1 hi hj, rfl, rfl⟩
  · rw [md_dp1 (by omega) (by omega), md_cl2 (by omega) (by omega) (by omega)]
    unfold md_n; rw [my_n (by omega) (by omega) (by omega) (by omega), my_n (by omega) (by omega) (by omega) (by omega)]
    exact ⟨md_V2 ha hi hj, rfl, rfl⟩
  · rw [md_dp2 (by omega) (by omega) (by omega), md_cl3 (by omega) (by omega) (by omega) (by omega)]
    unfold md_n; rw [my_n (by omega) (by omega) (by omega) (by omega), my_n (by omega) (by omega) (by omega) (by omega)]
    exact ⟨md_V3 ha hb hi hj, rfl, rfl⟩
  · exact absurd (my_n (by omega) (by omega) (by omega) (by omega)) hn
theorem md_nat {p j : Nat} (hj : j < 24) : md_n (md_at p j) = md_n p := by unfold md_n md_at; omega
theorem md_cat {p j : Nat} (k : Nat) (hj : j < 24) : md_c (md_at p j) k = md_c p k := by
  unfold md_c md_at
  split
  · omega
  · split <;> omega
theorem md_clat {p j : Nat} (hj : j < 24) : md_cl (md_at p j) = md_cl p := by
  unfold md_cl
  rw [md_nat hj, md_cat _ hj]
  have : md_at (md_at p j) (md_c p (md_n p - 1)) = md_at p (md_c p (md_n p - 1)) := by unfold md_at; omega
  rw [this]
/-- one step from a valid place leads to a valid place -/
theorem md_VS {g : md_C} {p h p' h' : Nat} (hG : md_G g) (hM : md_M g) (hV : md_V g p) (hh : h ≤ 6) (s : md_S g p h p' h') : md_V g p' ∧ h' ≤ 6 := by
  obtain ⟨w, t⟩ := s
  obtain ⟨f1, f2, f3, f4, f5⟩ := md_W0 w
  obtain ⟨hcc, hhc, ho, ha, hx, -, -⟩ := hG
  have hi := md_Vi hcc hV
  have hth : md_th g p h ≤ 6 := by unfold md_th; omega
  rcases t with ⟨b, rfl, rfl⟩ | ⟨l, rfl⟩ | ⟨x, hx1, -, rfl, rfl⟩
  · refine ⟨md_V_1 hcc hV ?_, hth⟩
    have : ¬ p % 24 + 1 = mc_cc g := fun e => f1 (Or.inl ⟨b, e⟩)
    omega
  · refine ⟨?_, hth⟩
    unfold md_L at l
    split at l
    · rename_i o15
      cases l
      have : mc_a g (p % 24) < mc_cc g := hM.2.1 _ hi (by omega) (by omega)
      refine (md_Vdp hcc hV (fun n3 => f4 ⟨o15, Or.inl n3⟩) this).1
    · split at l
      · rename_i o16
        cases l
        have hn : 0 < md_n p := Nat.pos_of_ne_zero (fun z => f5 ⟨o16, z⟩)
        obtain ⟨v, e, -⟩ := md_Vcl hcc hV hn
        have hlt := md_Vi hcc v
        refine md_V_1 hcc v ?_
        have : ¬ md_c p (md_n p - 1) + 1 = mc_cc g := fun z => f1 (Or.inr ⟨o16, hn, z⟩)
        omega
      · split at l
        · rename_i o3
          cases l
          exact md_V_at hcc hV (hM.2.1 _ hi (by omega) (by omega))
        · cases l
  · exact ⟨md_V_at hcc hV (hM.2.2 _ hx1), by omega⟩
theorem md_RV {g : md_C} {p h : Nat} (hG : md_G g) (hM : md_M g) (r : md_R g p h) : md_V g p ∧ h ≤ 6 :=
  md_Ri r (fun p h => md_V g p ∧ h ≤ 6) ⟨md_V0 (i := 0) hM.1, by omega⟩ (fun _ _ _ _ _ I s => md_VS hG hM I.1 I.2 s)
/-- a reached place other than the first was come to -/
theorem md_Rpre {g : md_C} {p h : Nat} (r : md_R g p h) : (p = 0 ∧ h = 0) ∨ ∃ q k, md_R g q k ∧ md_S g q k p h :=
  md_Ri r (fun p h => (p = 0 ∧ h = 0) ∨ ∃ q k, md_R g q k ∧ md_S g q k p h) (Or.inl ⟨rfl, rfl⟩) (fun q k _ _ r' _ s => Or.inr ⟨q, k, r', s⟩)
/-- the callers of a reached place are reached -/
def md_A (g : md_C) (p : Nat) : Prop := (1 ≤ md_n p → ∃ h, md_R g (md_cl p) h) ∧ (2 ≤ md_n p → ∃ h, md_R g (md_cl (md_cl p)) h) ∧ (3 ≤ md_n p → ∃ h, md_R g (md_cl (md_cl (md_cl p))) h)
theorem md_Aat {g : md_C} {p j : Nat} (hj : j < 24) (h : md_A g p) : md_A g (md_at p j) := by
  unfold md_A; rw [md_nat hj, md_clat hj]; exact h
theorem md_RA {g : md_C} {p h : Nat} (hG : md_G g) (hM : md_M g) (r : md_R g p h) : md_A g p := by
  refine md_Ri r (fun p _ => md_A g p) ⟨fun h => ?_, fun h => ?_, fun h => ?_⟩ (fun q k q' k' rq I s => ?_)
  · unfold md_n at h; omega
  · unfold md_n at h; omega
  · unfold md_n at h; omega
  · obtain ⟨vq, hk⟩ := md_RV hG hM rq
    obtain ⟨w, t⟩ := s
    obtain ⟨f1, f2, f3, f4, f5⟩ := md_W0 w
    obtain ⟨hcc, hhc, ho, ha, hx, -, -⟩ := hG
    have hi := md_Vi hcc vq
    rcases t with ⟨b, rfl, rfl⟩ | ⟨l, rfl⟩ | ⟨x, hx1, -, rfl, rfl⟩
    · have hlt : q % 24 + 1 < mc_cc g := by
        have : ¬ q % 24 + 1 = mc_cc g := fun e => f1 (Or.inl ⟨b, e⟩)
        omega
      have e : q + 1 = md_at q (q % 24 + 1) := by unfold md_at; omega
      rw [e]; exact md_Aat (by omega) I
    · unfold md_L at l
      split at l
      · rename_i o15
        cases l
        have : mc_a g (q % 24) < mc_cc g := hM.2.1 _ hi (by omega) (by omega)
        obtain ⟨-, e1, e2⟩ := md_Vdp hcc vq (fun n3 => f4 ⟨o15, Or.inl n3⟩) this
        unfold md_A; rw [e1, e2]
        exact ⟨fun _ => ⟨_, rq⟩, fun h => I.1 (by omega), fun h => I.2.1 (by omega)⟩
      · split at l
        · rename_i o16
          cases l
          have hq : 0 < md_n q := Nat.pos_of_ne_zero (fun z => f5 ⟨o16, z⟩)
          obtain ⟨v, e, en⟩ := md_Vcl hcc vq hq
          have hlt : md_cl q % 24 + 1 < mc_cc g := by
            have : ¬ md_c q (md_n q - 1) + 1 = mc_cc g := fun z => f1 (Or.inr ⟨o16, hq, z⟩)
            have := md_Vi hcc v
            omega
          have e3 : md_cl q + 1 = md_at (md_cl q) (md_cl q % 24 + 1) := by unfold md_at; omega
          rw [e3]
          refine md_Aat (by omega) ⟨fun h => I.2.1 (by omega), fun h => I.2.2 (by omega), fun h => ?_⟩
          have := md_Vn hcc vq
          omega
        · split at l
          · rename_i o3
            cases l
            have : mc_a g (q % 24) < mc_cc g := hM.2.1 _ hi (by omega) (by omega)
            exact md_Aat (by omega) I
          · cases l
    · have := hM.2.2 _ hx1
      exact md_Aat (by omega) I
theorem md_Rcl {g : md_C} {p h : Nat} (hG : md_G g) (hM : md_M g) (r : md_R g p h) (hn : 0 < md_n p) : ∃ h', md_R g (md_cl p) h' := (md_RA hG hM r).1 hn
end
