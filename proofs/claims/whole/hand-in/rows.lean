section
/-! rows of the kit, pasted -/
section
theorem pk_us {f : Nat → Int32} {k : Nat} {x : Int32} : upd f k x k = x := if_pos rfl
theorem pk_un {f : Nat → Int32} {k j : Nat} {x : Int32} (h : j ≠ k) : upd f k x j = f j := if_neg h
theorem pk_sub {a b : Nat} (h : b ≤ a) : nI a - nI b = nI (a - b) := by
  obtain ⟨c, rfl⟩ : ∃ c, a = c + b := ⟨a - b, by omega⟩
  rw [← nI_add, Int32.add_sub_cancel, Nat.add_sub_cancel]
theorem pk_m1 (n : Nat) : nI (n + 1) + (-1) = nI n := by
  rw [← nI_1, Int32.add_assoc, show (1 : Int32) + (-1) = 0 from rfl, Int32.add_zero]
theorem pk_mul (a b : Nat) : nI a * nI b = nI (a * b) := (Int32.ofNat_mul a b).symm
theorem pk_div {a d : Nat} (ha : a < 2 ^ 31) (h0 : 0 < d) (hd : d < 2 ^ 31) : nI a / nI d = nI (a / d) := by
  apply Int32.toInt_inj.mp
  rw [lg_idiv_nonneg (by rw [nI_toInt ha]; omega) (by rw [nI_toInt hd]; omega), nI_toInt ha, nI_toInt hd, nI_toInt (Nat.lt_of_le_of_lt (Nat.div_le_self a d) ha)]
  first | rfl | exact (Int.natCast_ediv _ _).symm
theorem pk_rem {a d : Nat} (ha : a < 2 ^ 31) (h0 : 0 < d) (hd : d < 2 ^ 31) : nI a - nI a / nI d * nI d = nI (a % d) := by
  rw [pk_div ha h0 hd, pk_mul, pk_sub (Nat.div_mul_le_self a d)]
  exact congrArg nI (by have := Nat.div_add_mod' a d; omega)
theorem pk_sub_toInt {a b : Nat} (ha : a < 2 ^ 30) (hb : b < 2 ^ 30) : (nI a - nI b).toInt = (a : Int) - b := by
  rw [Int32.toInt_sub, nI_toInt (by omega), nI_toInt (by omega)]
  exact Int.bmod_eq_of_le (by omega) (by omega)
theorem pk_sneg {a b : Nat} (hb : b < 2 ^ 30) (h : a < b) : nI a - nI b < 0 := by
  rw [Int32.lt_iff_toInt_lt, pk_sub_toInt (by omega) hb, show (0 : Int32).toInt = 0 from by decide]
  omega
theorem pk_ix (x : Int32) {n : Nat} (hn : n < 2 ^ 31) : x < 0 ∨ nI n ≤ x ∨ ∃ j : Nat, j < n ∧ x = nI j := by
  by_cases h : x < 0
  · exact Or.inl h
  · obtain ⟨j, hj, rfl⟩ := nI_of h
    by_cases h2 : j < n
    · exact Or.inr (Or.inr ⟨j, h2, rfl⟩)
    · exact Or.inr (Or.inl (nI_le (by omega) hj))
theorem pk_le {x y : Int32} {A B : Prop} (a b : Nat) (f : a ≤ b → A) (g : b < a → B) (hx : x = nI a := by rfl) (hy : y = nI b := by rfl) (ha : a < 2 ^ 31 := by omega) (hb : b < 2 ^ 31 := by omega) : (x ≤ y → A) ∧ (¬ x ≤ y → B) := by
  subst hx hy
  rw [nI_leI ha hb]
  exact ⟨f, fun z => g (by omega)⟩
theorem pk_lt {x y : Int32} {A B : Prop} (a b : Nat) (f : a < b → A) (g : b ≤ a → B) (hx : x = nI a := by rfl) (hy : y = nI b := by rfl) (ha : a < 2 ^ 31 := by omega) (hb : b < 2 ^ 31 := by omega) : (x < y → A) ∧ (¬ x < y → B) := by
  subst hx hy
  rw [nI_ltI ha hb]
  exact ⟨f, fun z => g (by omega)⟩
theorem pk_eq {x y : Int32} {A B : Prop} (a b : Nat) (f : a = b → A) (g : a ≠ b → B) (hx : x = nI a := by rfl) (hy : y = nI b := by rfl) (ha : a < 2 ^ 31 := by omega) (hb : b < 2 ^ 31 := by omega) : (x = y → A) ∧ (¬ x = y → B) := by
  subst hx hy
  rw [nI_eq ha hb]
  exact ⟨f, g⟩
theorem pk_in {x : Int32} (n N : Nat) (h : n < N) (hx : x = nI n := by rfl) (hN : N < 2 ^ 31 := by omega) : vp_in x N := by
  subst hx
  exact vp_in_nI h hN
theorem pk_cl {x : Int32} (n : Nat) (hx : x = nI n := by rfl) (h : n < 2 ^ 31 := by omega) : x.toNatClampNeg = n := by
  subst hx
  exact nI_clamp h
theorem pk_tn {n : Nat} (h : n < 2 ^ 32) : (nI n).toBitVec.toNat = n := Nat.mod_eq_of_lt h
theorem pk_and (x : Int32) {m : Int32} (k : Nat) (hm : m.toBitVec.toNat = 2 ^ k - 1) : x &&& m = nI (x.toBitVec.toNat % 2 ^ k) := by
  apply Int32.toBitVec_inj.mp
  apply BitVec.eq_of_toNat_eq
  rw [Int32.toBitVec_and, BitVec.toNat_and, hm, Nat.and_two_pow_sub_one_eq_mod]
  show _ = (BitVec.ofNat 32 _).toNat
  rw [BitVec.toNat_ofNat]
  exact (Nat.mod_eq_of_lt (Nat.lt_of_le_of_lt (Nat.mod_le _ _) x.toBitVec.isLt)).symm
theorem pk_andN {n : Nat} (h : n < 2 ^ 32) {m : Int32} (k : Nat) (hm : m.toBitVec.toNat = 2 ^ k - 1) : nI n &&& m = nI (n % 2 ^ k) := by
  rw [pk_and _ k hm, pk_tn h]
theorem pk_shl (a s : Int32) (k : Nat) (hs : (s.toBitVec.smod 32).toNat = k) : (a <<< s).toBitVec.toNat = a.toBitVec.toNat * 2 ^ k % 2 ^ 32 := by
  show (a.toBitVec <<< (s.toBitVec.smod 32).toNat).toNat = _
  rw [hs, BitVec.toNat_shiftLeft, Nat.shiftLeft_eq]
theorem pk_shlN {n : Nat} (s : Int32) (k : Nat) (hs : (s.toBitVec.smod 32).toNat = k) (h : n * 2 ^ k < 2 ^ 32) : nI n <<< s = nI (n * 2 ^ k) := by
  apply Int32.toBitVec_inj.mp
  apply BitVec.eq_of_toNat_eq
  have hn : n < 2 ^ 32 := Nat.lt_of_le_of_lt (Nat.le_mul_of_pos_right n (Nat.two_pow_pos k)) h
  rw [pk_shl _ _ k hs, pk_tn hn, pk_tn h, Nat.mod_eq_of_lt h]
theorem pk_shr (a s : Int32) (k : Nat) (hs : (s.toBitVec.smod 32).toNat = k) : (a >>> s).toInt = a.toInt >>> k := by
  show (a.toBitVec.sshiftRight (s.toBitVec.smod 32).toNat).toInt = _
  rw [hs, BitVec.toInt_sshiftRight]
  rfl
theorem pk_shrN {n : Nat} (h : n < 2 ^ 31) (s : Int32) (k : Nat) (hs : (s.toBitVec.smod 32).toNat = k) : nI n >>> s = nI (n / 2 ^ k) := by
  apply Int32.toInt_inj.mp
  have h2 : n / 2 ^ k ≤ n := Nat.div_le_self _ _
  rw [pk_shr _ _ k hs, nI_toInt h, nI_toInt (by omega), Int.shiftRight_eq_div_pow]
  rfl
theorem pk_loop {σ : Type} (W : Nat → Nat → σ → Prop) (I : Nat → σ → Prop) (e i0 : Nat) (s : σ) (hi : i0 ≤ e) (h0 : I i0 s) (hx : ∀ n s, I e s → W (n + 1) e s)
    (hs : ∀ n i s, i < e → I i s → (∀ s', I (i + 1) s' → W n (i + 1) s') → W (n + 1) i s) : ∃ n, W n i0 s :=
  ⟨e + 1, loop_i W I e hx hs (e + 1) i0 s hi (by omega) h0⟩
theorem pk_least (P : Nat → Prop) (h : ∃ k, P k) : ∃ k, P k ∧ ∀ j, j < k → ¬ P j := by
  obtain ⟨k, hk⟩ := h
  induction k using Nat.strongRecOn with
  | ind k ih =>
    by_cases e : ∃ j, j < k ∧ P j
    · obtain ⟨j, hj, pj⟩ := e
      exact ih j hj pj
    · exact ⟨k, hk, fun j hj pj => e ⟨j, hj, pj⟩⟩
def bt (x : Int32) (i : Nat) : Bool := x.toBitVec.getLsbD i
theorem b_ext {x y : Int32} (h : ∀ i, i < 32 → bt x i = bt y i) : x = y := Int32.toBitVec_inj.mp (BitVec.eq_of_getLsbD_eq (fun i hi => h i hi))
theorem b_or (x y : Int32) (i : Nat) : bt (x ||| y) i = (bt x i || bt y i) := by unfold bt; rw [Int32.toBitVec_or, BitVec.getLsbD_or]
theorem b_and (x y : Int32) (i : Nat) : bt (x &&& y) i = (bt x i && bt y i) := by unfold bt; rw [Int32.toBitVec_and, BitVec.getLsbD_and]
theorem b_xor (x y : Int32) (i : Nat) : bt (x ^^^ y) i = (bt x i ^^ bt y i) := by unfold bt; rw [Int32.toBitVec_xor, BitVec.getLsbD_xor]
theorem b_big {x : Int32} {i : Nat} (h : 32 ≤ i) : bt x i = false := BitVec.getLsbD_of_ge _ _ h
theorem b_m1 : ∀ i, i < 32 → bt (-1) i = true := by decide +kernel
theorem b_0 (i : Nat) : bt 0 i = false := BitVec.getLsbD_zero
theorem s_l : ∀ n, n < 32 → ((nI n &&& 31).toBitVec.smod 32).toNat = n := by decide +kernel
theorem nx_and (a b : Nat) : nI a &&& nI b = nI (a &&& b) := by
  apply Int32.toBitVec_inj.1
  show BitVec.ofNat 32 a &&& BitVec.ofNat 32 b = BitVec.ofNat 32 (a &&& b)
  apply BitVec.eq_of_getLsbD_eq
  intro i hi
  simp [hi]
theorem nx_xor (a b : Nat) : nI a ^^^ nI b = nI (a ^^^ b) := by
  apply Int32.toBitVec_inj.1
  show BitVec.ofNat 32 a ^^^ BitVec.ofNat 32 b = BitVec.ofNat 32 (a ^^^ b)
  apply BitVec.eq_of_getLsbD_eq
  intro i hi
  simp [hi]
theorem nx_or (a b : Nat) : nI a ||| nI b = nI (a ||| b) := by
  apply Int32.toBitVec_inj.1
  show BitVec.ofNat 32 a ||| BitVec.ofNat 32 b = BitVec.ofNat 32 (a ||| b)
  apply BitVec.eq_of_getLsbD_eq
  intro i hi
  simp [hi]
end
end
section
/-! ===== the pure picture: instructions, keys of places, what a method reaches ===== -/
section
def md_tk (o : Nat) : Nat := if o = 6 ∨ o = 7 then 2 else if (3 ≤ o ∧ o ≤ 5) ∨ (9 ≤ o ∧ o ≤ 11) ∨ o = 13 ∨ o = 14 ∨ 18 ≤ o then 1 else 0
def md_pu (o : Nat) : Nat := if o = 5 ∨ o = 6 then 2 else if o ≤ 2 ∨ o = 7 ∨ o = 8 ∨ o = 10 ∨ o = 15 then 1 else 0
abbrev md_gb (o : Nat) : Prop := o < 12 ∨ o = 13 ∨ o = 14
def md_lim (o : Nat) : Nat := if o = 2 ∨ o = 3 ∨ o = 16 then 4 else if o = 8 ∨ o = 10 ∨ o = 11 ∨ o = 18 then 8 else if 12 ≤ o ∧ o ≤ 15 then 24 else 0
theorem md_tk2 (o : Nat) : md_tk o ≤ 2 := by
  unfold md_tk; split
  · omega
  · split <;> omega
theorem md_pu2 (o : Nat) : md_pu o ≤ 2 := by
  unfold md_pu; split
  · omega
  · split <;> omega
/-- code count, handler count, instruction, raw operand, from, to, target, caught class, parent, entry -/
abbrev md_C : Type := Nat × Nat × (Nat → Nat) × (Nat → Int32) × (Nat → Nat) × (Nat → Nat) × (Nat → Nat) × (Nat → Nat) × (Nat → Nat) × (Nat → Nat)
def mc_cc (g : md_C) : Nat := g.1
def mc_hc (g : md_C) : Nat := g.2.1
def mc_o (g : md_C) : Nat → Nat := g.2.2.1
def mc_r (g : md_C) : Nat → Int32 := g.2.2.2.1
def mc_f (g : md_C) : Nat → Nat := g.2.2.2.2.1
def mc_t (g : md_C) : Nat → Nat := g.2.2.2.2.2.1
def mc_g (g : md_C) : Nat → Nat := g.2.2.2.2.2.2.1
def mc_k (g : md_C) : Nat → Nat := g.2.2.2.2.2.2.2.1
def mc_p (g : md_C) : Nat → Nat := g.2.2.2.2.2.2.2.2.1
def mc_e (g : md_C) : Nat → Nat := g.2.2.2.2.2.2.2.2.2
def mc_a (g : md_C) (i : Nat) : Nat := (mc_r g i).toNatClampNeg
/-- what every configuration keeps -/
def md_G (g : md_C) : Prop := mc_cc g ≤ 24 ∧ mc_hc g ≤ 4 ∧ (∀ i, mc_o g i < 20) ∧ (∀ i, 0 < md_lim (mc_o g i) → mc_a g i < md_lim (mc_o g i) ∧ mc_r g i = nI (mc_a g i)) ∧ (∀ x, mc_f g x < 24 ∧ mc_t g x ≤ 24 ∧ mc_g g x < 24 ∧ mc_k g x < 8) ∧ (∀ c, mc_p g c ≤ c - 1) ∧ (∀ s, mc_e g s ≤ 10)
/-- nothing leads outside -/
def md_M (g : md_C) : Prop := 0 < mc_cc g ∧ (∀ i, i < mc_cc g → 12 ≤ mc_o g i → mc_o g i ≤ 15 → mc_a g i < mc_cc g) ∧ (∀ x, x < mc_hc g → mc_g g x < mc_cc g)
def md_y (n a b c i : Nat) : Nat := n * 331776 + a * 13824 + b * 576 + c * 24 + i
def md_x (n a b c i : Nat) : Nat := n * 1048576 + a * 32768 + b * 1024 + c * 32 + i
def md_n (p : Nat) : Nat := p / 331776
def md_c (p j : Nat) : Nat := if j = 0 then p / 13824 % 24 else if j = 1 then p / 576 % 24 else p / 24 % 24
def md_w (j : Nat) : Nat := if j = 0 then 13824 else if j = 1 then 576 else 24
def md_at (p i : Nat) : Nat := p - p % 24 + i
def md_dp (p i : Nat) : Nat := p - p % 24 + i + 331776 + p % 24 * md_w (md_n p)
def md_cl (p : Nat) : Nat := md_at p (md_c p (md_n p - 1)) - 331776 - md_c p (md_n p - 1) * md_w (md_n p - 1)
def md_kx (p : Nat) : Nat := md_x (p / 331776) (p / 13824 % 24) (p / 576 % 24) (p / 24 % 24) (p % 24)
theorem my_n {n a b c i : Nat} (ha : a < 24) (hb : b < 24) (hc : c < 24) (hi : i < 24) : md_y n a b c i / 331776 = n := by unfold md_y; omega
theorem my_a {n a b c i : Nat} (ha : a < 24) (hb : b < 24) (hc : c < 24) (hi : i < 24) : md_y n a b c i / 13824 % 24 = a := by unfold md_y; omega
theorem my_b {n a b c i : Nat} (hb : b < 24) (hc : c < 24) (hi : i < 24) : md_y n a b c i / 576 % 24 = b := by unfold md_y; omega
theorem my_c {n a b c i : Nat} (hc : c < 24) (hi : i < 24) : md_y n a b c i / 24 % 24 = c := by unfold md_y; omega
theorem my_i {n a b c i : Nat} (hi : i < 24) : md_y n a b c i % 24 = i := by unfold md_y; omega
theorem my_kx {n a b c i : Nat} (ha : a < 24) (hb : b < 24) (hc : c < 24) (hi : i < 24) : md_kx (md_y n a b c i) = md_x n a b c i := by
  unfold md_kx; rw [my_n ha hb hc hi, my_a ha hb hc hi, my_b hb hc hi, my_c hc hi, my_i hi]
theorem my_at {n a b c i j : Nat} (hi : i < 24) : md_at (md_y n a b c i) j = md_y n a b c j := by
  unfold md_at; rw [my_i hi]; unfold md_y; omega
/-- valid keys -/
def md_V (g : md_C) (p : Nat) : Prop := ∃ n a b c i, p = md_y n a b c i ∧ n ≤ 3 ∧ a < mc_cc g ∧ b < mc_cc g ∧ c < mc_cc g ∧ i < mc_cc g ∧ (n = 0 → a = 0) ∧ (n ≤ 1 → b = 0) ∧ (n ≤ 2 → c = 0)
theorem md_V4 {g : md_C} {p : Nat} (h : md_V g p) : (∃ i, i < mc_cc g ∧ p = md_y 0 0 0 0 i) ∨ (∃ a i, a < mc_cc g ∧ i < mc_cc g ∧ p = md_y 1 a 0 0 i) ∨ (∃ a b i, a < mc_cc g ∧ b < mc_cc g ∧ i < mc_cc g ∧ p = md_y 2 a b 0 i) ∨ (∃ a b c i, a < mc_cc g ∧ b < mc_cc g ∧ c < mc_cc g ∧ i < mc_cc g ∧ p = md_y 3 a b c i) := by
  obtain ⟨n, a, b, c, i, e, hn, ha, hb, hc, hi, h0, h1, h2⟩ := h
  have : n = 0 ∨ n = 1 ∨ n = 2 ∨ n = 3 := by omega
  rcases this with rfl | rfl | rfl | rfl
  · left; refine ⟨i, hi, ?_⟩; rw [e, h0 rfl, h1 (by omega), h2 (by omega)]
  · right; left; refine ⟨a, i, ha, hi, ?_⟩; rw [e, h1 (by omega), h2 (by omega)]
  · right; right; left; refine ⟨a, b, i, ha, hb, hi, ?_⟩; rw [e, h2 (by omega)]
  · right; right; right; exact ⟨a, b, c, i, ha, hb, hc, hi, e⟩
theorem md_V0 {g : md_C} {i : Nat} (h : i < mc_cc g) : md_V g (md_y 0 0 0 0 i) := ⟨0, 0, 0, 0, i, rfl, by omega, by omega, by omega, by omega, h, fun _ => rfl, fun _ => rfl, fun _ => rfl⟩
theorem md_V1 {g : md_C} {a i : Nat} (ha : a < mc_cc g) (h : i < mc_cc g) : md_V g (md_y 1 a 0 0 i) := ⟨1, a, 0, 0, i, rfl, by omega, ha, by omega, by omega, h, fun h => by omega, fun _ => rfl, fun _ => rfl⟩
theorem md_V2 {g : md_C} {a b i : Nat} (ha : a < mc_cc g) (hb : b < mc_cc g) (h : i < mc_cc g) : md_V g (md_y 2 a b 0 i) := ⟨2, a, b, 0, i, rfl, by omega, ha, hb, by omega, h, fun h => by omega, fun h => by omega, fun _ => rfl⟩
theorem md_V3 {g : md_C} {a b c i : Nat} (ha : a < mc_cc g) (hb : b < mc_cc g) (hc : c < mc_cc g) (h : i < mc_cc g) : md_V g (md_y 3 a b c i) := ⟨3, a, b, c, i, rfl, by omega, ha, hb, hc, h, fun h => by omega, fun h => by omega, fun h => by omega⟩
theorem md_Vi {g : md_C} {p : Nat} (hG : mc_cc g ≤ 24) (h : md_V g p) : p % 24 < mc_cc g := by
  obtain ⟨n, a, b, c, i, rfl, hn, ha, hb, hc, hi, _⟩ := h
  rw [my_i (by omega)]; exact hi
theorem md_Vn {g : md_C} {p : Nat} (hG : mc_cc g ≤ 24) (h : md_V g p) : md_n p ≤ 3 := by
  obtain ⟨n, a, b, c, i, rfl, hn, ha, hb, hc, hi, _⟩ := h
  unfold md_n; rw [my_n (by omega) (by omega) (by omega) (by omega)]; exact hn
theorem md_Vlt {g : md_C} {p : Nat} (hG : mc_cc g ≤ 24) (h : md_V g p) : p < 1327104 := by
  obtain ⟨n, a, b, c, i, rfl, hn, ha, hb, hc, hi, _⟩ := h
  unfold md_y; omega
theorem md_kxlt (p : Nat) (h : p < 1327104) : md_kx p < 4194304 := by
  unfold md_kx md_x; omega
def md_e (G : Nat → Nat) (p : Nat) : Nat := 32 * G (p / 24) + p % 24
theorem md_e_lt {G : Nat → Nat} (h : ∀ x y, x < y → G x < G y) : ∀ x y, x < y → md_e G x < md_e G y := by
  intro x y hxy
  unfold md_e
  rcases Nat.lt_or_ge (x / 24) (y / 24) with c | c
  · have := h _ _ c
    have := Nat.mod_lt x (show 24 > 0 by omega)
    omega
  · have e : x / 24 = y / 24 := Nat.le_antisymm (Nat.div_le_div_right (Nat.le_of_lt hxy)) c
    have h1 := Nat.div_add_mod x 24
    have h2 := Nat.div_add_mod y 24
    rw [e] at h1 ⊢
    omega
theorem md_d2 (p : Nat) : p / 24 / 24 = p / 576 := Nat.div_div_eq_div_mul p 24 24
theorem md_d3 (p : Nat) : p / 24 / 24 / 24 = p / 13824 := by rw [md_d2, Nat.div_div_eq_div_mul]
theorem md_d4 (p : Nat) : p / 24 / 24 / 24 / 24 = p / 331776 := by rw [md_d3, Nat.div_div_eq_div_mul]
theorem md_kx_e (p : Nat) : md_kx p = md_e (md_e (md_e (md_e (fun x => x)))) p := by
  unfold md_kx md_x md_e
  rw [md_d4, md_d3, md_d2]
  generalize p / 331776 = n
  generalize p / 13824 % 24 = a
  generalize p / 576 % 24 = b
  generalize p / 24 % 24 = c
  generalize p % 24 = i
  dsimp only
  omega
theorem md_kx_l {p q : Nat} (h : p < q) : md_kx p < md_kx q := by
  rw [md_kx_e, md_kx_e]
  exact md_e_lt (md_e_lt (md_e_lt (md_e_lt (fun _ _ h => h)))) p q h
theorem md_kx_lt {p q : Nat} : md_kx p < md_kx q ↔ p < q := by
  constructor
  · intro h
    apply Classical.byContradiction
    intro c
    rcases Nat.lt_or_eq_of_le (Nat.le_of_not_lt c) with d | d
    · have := md_kx_l d; omega
    · subst d; omega
  · exact md_kx_l
theorem md_kx_eq {p q : Nat} : md_kx p = md_kx q ↔ p = q := by
  constructor
  · intro h
    have a := @md_kx_lt p q
    have b := @md_kx_lt q p
    omega
  · rintro rfl; rfl
theorem md_V_at {g : md_C} {p j : Nat} (hG : mc_cc g ≤ 24) (h : md_V g p) (hj : j < mc_cc g) : md_V g (md_at p j) := by
  obtain ⟨n, a, b, c, i, rfl, hn, ha, hb, hc, hi, h0, h1, h2⟩ := h
  rw [my_at (by omega)]
  exact ⟨n, a, b, c, j, rfl, hn, ha, hb, hc, hj, h0, h1, h2⟩
theorem md_V_1 {g : md_C} {p : Nat} (hG : mc_cc g ≤ 24) (h : md_V g p) (hj : p % 24 + 1 < mc_cc g) : md_V g (p + 1) := by
  have : p + 1 = md_at p (p % 24 + 1) := by unfold md_at; omega
  rw [this]; exact md_V_at hG h hj
theorem md_dp0 {i j : Nat} (hi : i < 24) : md_dp (md_y 0 0 0 0 i) j = md_y 1 i 0 0 j := by
  unfold md_dp md_n; rw [my_i hi, my_n (by omega) (by omega) (by omega) hi]; unfold md_w md_y; simp; omega
theorem md_dp1 {a i j : Nat} (ha : a < 24) (hi : i < 24) : md_dp (md_y 1 a 0 0 i) j = md_y 2 a i 0 j := by
  unfold md_dp md_n; rw [my_i hi, my_n ha (by omega) (by omega) hi]; unfold md_w md_y; simp; omega
theorem md_dp2 {a b i j : Nat} (ha : a < 24) (hb : b < 24) (hi : i < 24) : md_dp (md_y 2 a b 0 i) j = md_y 3 a b i j := by
  unfold md_dp md_n; rw [my_i hi, my_n ha hb (by omega) hi]; unfold md_w md_y; simp; omega
theorem md_c1 {a i : Nat} (ha : a < 24) (hi : i < 24) : md_c (md_y 1 a 0 0 i) (1 - 1) = a := by
  unfold md_c; rw [my_a ha (by omega) (by omega) hi]; simp
theorem md_c2 {a b i : Nat} (hb : b < 24) (hi : i < 24) : md_c (md_y 2 a b 0 i) (2 - 1) = b := by
  unfold md_c; rw [my_b hb (by omega) hi]; simp
theorem md_c3 {a b c i : Nat} (hc : c < 24) (hi : i < 24) : md_c (md_y 3 a b c i) (3 - 1) = c := by
  unfold md_c; rw [my_c hc hi]; simp
theorem md_cl1 {a i : Nat} (ha : a < 24) (hi : i < 24) : md_cl (md_y 1 a 0 0 i) = md_y 0 0 0 0 a := by
  unfold md_cl md_n; rw [my_n ha (by omega) (by omega) hi, md_c1 ha hi, my_at hi]; unfold md_w md_y; simp; omega
theorem md_cl2 {a b i : Nat} (ha : a < 24) (hb : b < 24) (hi : i < 24) : md_cl (md_y 2 a b 0 i) = md_y 1 a 0 0 b := by
  unfold md_cl md_n; rw [my_n ha hb (by omega) hi, md_c2 hb hi, my_at hi]; unfold md_w md_y; simp; omega
theorem md_cl3 {a b c i : Nat} (ha : a < 24) (hb : b < 24) (hc : c < 24) (hi : i < 24) : md_cl (md_y 3 a b c i) = md_y 2 a b 0 c := by
  unfold md_cl md_n; rw [my_n ha hb hc hi, md_c3 hc hi, my_at hi]; unfold md_w md_y; simp; omega
end
end
section
/-! ===== what is wrong, and what is reached ===== -/
section
/-- what is wrong with h values, and the least number -/
abbrev md_f1 (g : md_C) (p : Nat) : Prop := (md_gb (mc_o g (p % 24)) ∧ p % 24 + 1 = mc_cc g) ∨ (mc_o g (p % 24) = 16 ∧ 0 < md_n p ∧ md_c p (md_n p - 1) + 1 = mc_cc g)
abbrev md_f2 (g : md_C) (p h : Nat) : Prop := h < md_tk (mc_o g (p % 24))
abbrev md_f3 (g : md_C) (p h : Nat) : Prop := 6 + md_tk (mc_o g (p % 24)) < h + md_pu (mc_o g (p % 24))
abbrev md_ag (p : Nat) : Prop := md_n p = 3 ∨ (1 ≤ md_n p ∧ md_c p 0 = p % 24) ∨ (2 ≤ md_n p ∧ md_c p 1 = p % 24) ∨ (3 ≤ md_n p ∧ md_c p 2 = p % 24)
abbrev md_f4 (g : md_C) (p : Nat) : Prop := mc_o g (p % 24) = 15 ∧ md_ag p
abbrev md_f5 (g : md_C) (p : Nat) : Prop := mc_o g (p % 24) = 16 ∧ md_n p = 0
def md_W (g : md_C) (p h : Nat) : Nat := if md_f1 g p then 1 else if md_f2 g p h then 2 else if md_f3 g p h then 3 else if md_f4 g p then 4 else if md_f5 g p then 5 else 0
theorem md_W0 {g : md_C} {p h : Nat} (w : md_W g p h = 0) : ¬ md_f1 g p ∧ ¬ md_f2 g p h ∧ ¬ md_f3 g p h ∧ ¬ md_f4 g p ∧ ¬ md_f5 g p := by
  unfold md_W at w
  split at w
  · omega
  · split at w
    · omega
    · split at w
      · omega
      · split at w
        · omega
        · split at w
          · omega
          · refine ⟨?_, ?_, ?_, ?_, ?_⟩ <;> assumption
/-- where a place leads by its jump -/
def md_L (g : md_C) (p : Nat) : Option Nat := if mc_o g (p % 24) = 15 then some (md_dp p (mc_a g (p % 24))) else if mc_o g (p % 24) = 16 then some (md_cl p + 1) else if mc_o g (p % 24) = 12 ∨ mc_o g (p % 24) = 13 ∨ mc_o g (p % 24) = 14 then some (md_at p (mc_a g (p % 24))) else none
abbrev md_cv (g : md_C) (x p : Nat) : Prop := mc_f g x ≤ p % 24 ∧ p % 24 < mc_t g x
def md_th (g : md_C) (p h : Nat) : Nat := h - md_tk (mc_o g (p % 24)) + md_pu (mc_o g (p % 24))
def md_T (g : md_C) (p h p' h' : Nat) : Prop := (md_gb (mc_o g (p % 24)) ∧ p' = p + 1 ∧ h' = md_th g p h) ∨ (md_L g p = some p' ∧ h' = md_th g p h) ∨ (∃ x, x < mc_hc g ∧ md_cv g x p ∧ p' = md_at p (mc_g g x) ∧ h' = 1)
def md_S (g : md_C) (p h p' h' : Nat) : Prop := md_W g p h = 0 ∧ md_T g p h p' h'
def md_R (g : md_C) (p h : Nat) : Prop := ∀ S : Nat → Nat → Prop, S 0 0 → (∀ q k q' k', S q k → md_S g q k q' k' → S q' k') → S p h
theorem md_R0 (g : md_C) : md_R g 0 0 := fun _ h _ => h
theorem md_Rs {g : md_C} {p h p' h' : Nat} (r : md_R g p h) (s : md_S g p h p' h') : md_R g p' h' := fun S h0 hs => hs _ _ _ _ (r S h0 hs) s
theorem md_Ri {g : md_C} {p h : Nat} (r : md_R g p h) (I : Nat → Nat → Prop) (h0 : I 0 0) (hs : ∀ q k q' k', md_R g q k → I q k → md_S g q k q' k' → I q' k') : I p h := by
  have := r (fun q k => md_R g q k ∧ I q k) ⟨md_R0 g, h0⟩ (fun q k q' k' a s => ⟨md_Rs a.1 s, hs _ _ _ _ a.1 a.2 s⟩)
  exact this.2
/-- the key of the caller, in digits -/
theorem md_Vcl {g : md_C} {p : Nat} (hG : mc_cc g ≤ 24) (h : md_V g p) (hn : 0 < md_n p) : md_V g (md_cl p) ∧ md_cl p % 24 = md_c p (md_n p - 1) ∧ md_n (md_cl p) + 1 = md_n p := by
  rcases md_V4 h with ⟨i, hi, rfl⟩ | ⟨a, i, ha, hi, rfl⟩ | ⟨a, b, i, ha, hb, hi, rfl⟩ | ⟨a, b, c, i, ha, hb, hc, hi, rfl⟩
  · unfold md_n at hn; rw [my_n (by omega) (by omega) (by omega) (by omega)] at hn; omega
  · rw [md_cl1 (by omega) (by omega)]
    have e : md_n (md_y 1 a 0 0 i) = 1 := my_n (by omega) (by omega) (by omega) (by omega)
    have e' : md_n (md_y 0 0 0 0 a) = 0 := my_n (by omega) (by omega) (by omega) (by omega)
    rw [e, e', md_c1 (by omega) (by omega), my_i (by omega)]
    exact ⟨md_V0 ha, rfl, rfl⟩
  · rw [md_cl2 (by omega) (by omega) (by omega)]
    have e : md_n (md_y 2 a b 0 i) = 2 := my_n (by omega) (by omega) (by omega) (by omega)
    have e' : md_n (md_y 1 a 0 0 b) = 1 := my_n (by omega) (by omega) (by omega) (by omega)
    rw [e, e', md_c2 (by omega) (by omega), my_i (by omega)]
    exact ⟨md_V1 ha hb, rfl, rfl⟩
  · rw [md_cl3 (by omega) (by omega) (by omega) (by omega)]
    have e : md_n (md_y 3 a b c i) = 3 := my_n (by omega) (by omega) (by omega) (by omega)
    have e' : md_n (md_y 2 a b 0 c) = 2 := my_n (by omega) (by omega) (by omega) (by omega)
    rw [e, e', md_c3 (by omega) (by omega), my_i (by omega)]
    exact ⟨md_V2 ha hb hc, rfl, rfl⟩
theorem md_Vdp {g : md_C} {p j : Nat} (hG : mc_cc g ≤ 24) (h : md_V g p) (hn : ¬ md_n p = 3) (hj : j < mc_cc g) : md_V g (md_dp p j) ∧ md_cl (md_dp p j) = p ∧ md_n (md_dp p j) = md_n p + 1 := by
  rcases md_V4 h with ⟨i, hi, rfl⟩ | ⟨a, i, ha, hi, rfl⟩ | ⟨a, b, i, ha, hb, hi, rfl⟩ | ⟨a, b, c, i, ha, hb, hc, hi, rfl⟩
  · rw [md_dp0 (by omega), md_cl1 (by omega) (by omega)]
    unfold md_n; rw [my_n (by omega) (by omega) (by omega) (by omega), my_n (by omega) (by omega) (by omega) (by omega)]
    exact ⟨md_V1 hi hj, rfl, rfl⟩
  · rw [md_dp1 (by omega) (by omega), md_cl2 (by omega) (by omega) (by omega)]
    unfold md_n; rw [my_n (by omega) (by omega) (by omega) (by omega), my_n (by omega) (by omega) (by omega) (by omega)]
    exact ⟨md_V2 ha hi hj, rfl, rfl⟩
  · rw [md_dp2 (by omega) (by omega) (by omega), md_cl3 (by omega) (by omega) (by omega) (by omega)]
    unfold md_n; rw [my_n (by omega) (by omega) (by omega) (by omega), my_n (by omega) (by omega) (by omega) (by omega)]
    exact ⟨md_V3 ha hb hi hj, rfl, rfl⟩
  · exact absurd (my_n (by omega) (by omega) (by omega) (by omega)) hn
theorem md_at24 {p j : Nat} (hj : j < 24) : md_at p j / 24 = p / 24 := by unfold md_at; omega
theorem md_nat {p j : Nat} (hj : j < 24) : md_n (md_at p j) = md_n p := by
  unfold md_n; rw [← md_d4, ← md_d4, md_at24 hj]
theorem md_cat {p j : Nat} (k : Nat) (hj : j < 24) : md_c (md_at p j) k = md_c p k := by
  unfold md_c
  rw [← md_d3, ← md_d3 p, ← md_d2, ← md_d2 p, md_at24 hj]
theorem md_clat {p j : Nat} (hj : j < 24) : md_cl (md_at p j) = md_cl p := by
  unfold md_cl
  rw [md_nat hj, md_cat _ hj]
  have : md_at (md_at p j) (md_c p (md_n p - 1)) = md_at p (md_c p (md_n p - 1)) := by unfold md_at; omega
  rw [this]
/-- one step from a valid place leads to a valid place -/
theorem md_VS {g : md_C} {p h p' h' : Nat} (hG : md_G g) (hM : md_M g) (hV : md_V g p) (hh : h ≤ 6) (s : md_S g p h p' h') : md_V g p' ∧ h' ≤ 6 := by
  obtain ⟨w, t⟩ := s
  obtain ⟨f1, f2, f3, f4, f5⟩ := md_W0 w
  obtain ⟨hcc, hhc, ho, ha, hx, -, -⟩ := hG
  have hi := md_Vi hcc hV
  have hth : md_th g p h ≤ 6 := by unfold md_th; omega
  rcases t with ⟨b, rfl, rfl⟩ | ⟨l, rfl⟩ | ⟨x, hx1, -, rfl, rfl⟩
  · refine ⟨md_V_1 hcc hV ?_, hth⟩
    have : ¬ p % 24 + 1 = mc_cc g := fun e => f1 (Or.inl ⟨b, e⟩)
    omega
  · refine ⟨?_, hth⟩
    unfold md_L at l
    split at l
    · rename_i o15
      cases l
      have : mc_a g (p % 24) < mc_cc g := hM.2.1 _ hi (by omega) (by omega)
      refine (md_Vdp hcc hV (fun n3 => f4 ⟨o15, Or.inl n3⟩) this).1
    · split at l
      · rename_i o16
        cases l
        have hn : 0 < md_n p := Nat.pos_of_ne_zero (fun z => f5 ⟨o16, z⟩)
        obtain ⟨v, e, -⟩ := md_Vcl hcc hV hn
        have hlt := md_Vi hcc v
        refine md_V_1 hcc v ?_
        have : ¬ md_c p (md_n p - 1) + 1 = mc_cc g := fun z => f1 (Or.inr ⟨o16, hn, z⟩)
        omega
      · split at l
        · rename_i o3
          cases l
          exact md_V_at hcc hV (hM.2.1 _ hi (by omega) (by omega))
        · cases l
  · exact ⟨md_V_at hcc hV (hM.2.2 _ hx1), by omega⟩
theorem md_RV {g : md_C} {p h : Nat} (hG : md_G g) (hM : md_M g) (r : md_R g p h) : md_V g p ∧ h ≤ 6 :=
  md_Ri r (fun p h => md_V g p ∧ h ≤ 6) ⟨md_V0 (i := 0) hM.1, by omega⟩ (fun _ _ _ _ _ I s => md_VS hG hM I.1 I.2 s)
/-- a reached place other than the first was come to -/
theorem md_Rpre {g : md_C} {p h : Nat} (r : md_R g p h) : (p = 0 ∧ h = 0) ∨ ∃ q k, md_R g q k ∧ md_S g q k p h :=
  md_Ri r (fun p h => (p = 0 ∧ h = 0) ∨ ∃ q k, md_R g q k ∧ md_S g q k p h) (Or.inl ⟨rfl, rfl⟩) (fun q k _ _ r' _ s => Or.inr ⟨q, k, r', s⟩)
/-- the callers of a reached place are reached -/
def md_A (g : md_C) (p : Nat) : Prop := (1 ≤ md_n p → ∃ h, md_R g (md_cl p) h) ∧ (2 ≤ md_n p → ∃ h, md_R g (md_cl (md_cl p)) h) ∧ (3 ≤ md_n p → ∃ h, md_R g (md_cl (md_cl (md_cl p))) h)
theorem md_Aat {g : md_C} {p j : Nat} (hj : j < 24) (h : md_A g p) : md_A g (md_at p j) := by
  unfold md_A; rw [md_nat hj, md_clat hj]; exact h
theorem md_RA {g : md_C} {p h : Nat} (hG : md_G g) (hM : md_M g) (r : md_R g p h) : md_A g p := by
  refine md_Ri r (fun p _ => md_A g p) ⟨fun h => ?_, fun h => ?_, fun h => ?_⟩ (fun q k q' k' rq I s => ?_)
  · unfold md_n at h; omega
  · unfold md_n at h; omega
  · unfold md_n at h; omega
  · obtain ⟨vq, hk⟩ := md_RV hG hM rq
    obtain ⟨w, t⟩ := s
    obtain ⟨f1, f2, f3, f4, f5⟩ := md_W0 w
    obtain ⟨hcc, hhc, ho, ha, hx, -, -⟩ := hG
    have hi := md_Vi hcc vq
    rcases t with ⟨b, rfl, rfl⟩ | ⟨l, rfl⟩ | ⟨x, hx1, -, rfl, rfl⟩
    · have hlt : q % 24 + 1 < mc_cc g := by
        have : ¬ q % 24 + 1 = mc_cc g := fun e => f1 (Or.inl ⟨b, e⟩)
        omega
      have e : q + 1 = md_at q (q % 24 + 1) := by unfold md_at; omega
      rw [e]; exact md_Aat (by omega) I
    · unfold md_L at l
      split at l
      · rename_i o15
        cases l
        have : mc_a g (q % 24) < mc_cc g := hM.2.1 _ hi (by omega) (by omega)
        obtain ⟨-, e1, e2⟩ := md_Vdp hcc vq (fun n3 => f4 ⟨o15, Or.inl n3⟩) this
        unfold md_A; rw [e1, e2]
        exact ⟨fun _ => ⟨_, rq⟩, fun h => I.1 (by omega), fun h => I.2.1 (by omega)⟩
      · split at l
        · rename_i o16
          cases l
          have hq : 0 < md_n q := Nat.pos_of_ne_zero (fun z => f5 ⟨o16, z⟩)
          obtain ⟨v, e, en⟩ := md_Vcl hcc vq hq
          have hlt : md_cl q % 24 + 1 < mc_cc g := by
            have : ¬ md_c q (md_n q - 1) + 1 = mc_cc g := fun z => f1 (Or.inr ⟨o16, hq, z⟩)
            have := md_Vi hcc v
            omega
          have e3 : md_cl q + 1 = md_at (md_cl q) (md_cl q % 24 + 1) := by unfold md_at; omega
          rw [e3]
          refine md_Aat (by omega) ⟨fun h => I.2.1 (by omega), fun h => I.2.2 (by omega), fun h => ?_⟩
          have := md_Vn hcc vq
          omega
        · split at l
          · rename_i o3
            cases l
            have : mc_a g (q % 24) < mc_cc g := hM.2.1 _ hi (by omega) (by omega)
            exact md_Aat (by omega) I
          · cases l
    · have := hM.2.2 _ hx1
      exact md_Aat (by omega) I
theorem md_Rcl {g : md_C} {p h : Nat} (hG : md_G g) (hM : md_M g) (r : md_R g p h) (hn : 0 < md_n p) : ∃ h', md_R g (md_cl p) h' := (md_RA hG hM r).1 hn
end
end
section
/-! ===== layouts: pigeonhole, uniqueness of the sorted row of places, the first wrong place ===== -/
section
theorem ml_pig : ∀ (n m : Nat) (f g : Nat → Nat), (∀ i, i < m → ∃ j, j < n ∧ g j = f i) → (∀ i j, i < m → j < m → f i = f j → i = j) → m ≤ n := by
  intro n
  induction n with
  | zero =>
    intro m f g h _
    cases m with
    | zero => omega
    | succ m => obtain ⟨j, hj, _⟩ := h 0 (by omega); omega
  | succ n ih =>
    intro m f g h inj
    by_cases hx : ∃ i, i < m ∧ f i = g n
    · obtain ⟨i0, hi0, e0⟩ := hx
      have := ih (m - 1) (fun i => if i < i0 then f i else f (i + 1)) g ?_ ?_
      · omega
      · intro i hi
        have key : ∀ i', i' < m → i' ≠ i0 → ∃ j, j < n ∧ g j = f i' := by
          intro i' hi' hne
          obtain ⟨j, hj, e⟩ := h i' hi'
          by_cases hjn : j = n
          · subst hjn; exact absurd (inj _ _ hi' hi0 (e.symm.trans e0.symm)) hne
          · exact ⟨j, by omega, e⟩
        by_cases c : i < i0
        · simp only [c, if_true]; exact key i (by omega) (by omega)
        · simp only [c, if_false]; exact key (i + 1) (by omega) (by omega)
      · intro i j hi hj
        by_cases c : i < i0 <;> by_cases d : j < i0 <;> simp only [c, d, if_true, if_false] <;> intro e
        · exact inj _ _ (by omega) (by omega) e
        · have := inj _ _ (by omega) (by omega) e; omega
        · have := inj _ _ (by omega) (by omega) e; omega
        · have := inj _ _ (by omega) (by omega) e; omega
    · have : m ≤ n := by
        refine ih m f g (fun i hi => ?_) inj
        obtain ⟨j, hj, e⟩ := h i hi
        by_cases hjn : j = n
        · subst hjn; exact absurd ⟨i, hi, e.symm⟩ hx
        · exact ⟨j, by omega, e⟩
      omega
def ml_inc (m : Nat) (P : Nat → Nat) : Prop := ∀ i j, i < j → j < m → P i < P j
theorem ml_inj {m : Nat} {P : Nat → Nat} (h : ml_inc m P) : ∀ i j, i < m → j < m → P i = P j → i = j := by
  intro i j hi hj e
  rcases Nat.lt_trichotomy i j with c | c | c
  · have := h i j c hj; omega
  · exact c
  · have := h j i c hi; omega
theorem ml_uni {m m' : Nat} {P Q : Nat → Nat} (hP : ml_inc m P) (hQ : ml_inc m' Q) (h1 : ∀ i, i < m → ∃ j, j < m' ∧ Q j = P i) (h2 : ∀ i, i < m' → ∃ j, j < m ∧ P j = Q i) : m = m' ∧ ∀ i, i < m → P i = Q i := by
  have a := ml_pig _ _ _ _ h1 (ml_inj hP)
  have b := ml_pig _ _ _ _ h2 (ml_inj hQ)
  have e : m = m' := by omega
  subst e
  refine ⟨rfl, ?_⟩
  intro i
  induction i using Nat.strongRecOn with
  | ind i ih =>
    intro hi
    obtain ⟨j, hj, ej⟩ := h1 i hi
    obtain ⟨k, hk, ek⟩ := h2 i hi
    have c1 : i ≤ j := by
      apply Nat.le_of_not_lt; intro c
      have := ih j c hj
      have := hP j i c hi
      omega
    have c2 : i ≤ k := by
      apply Nat.le_of_not_lt; intro c
      have := ih k c hk
      have := hQ k i c hi
      omega
    have d1 : Q i ≤ Q j := by
      rcases Nat.lt_or_eq_of_le c1 with c | c
      · exact Nat.le_of_lt (hQ i j c hj)
      · rw [c]; exact Nat.le_refl _
    have d2 : P i ≤ P k := by
      rcases Nat.lt_or_eq_of_le c2 with c | c
      · exact Nat.le_of_lt (hP i k c hk)
      · rw [c]; exact Nat.le_refl _
    omega
/-- a right layout: m places in order, each with its one depth -/
def ml_Y (g : md_C) (m : Nat) (P D : Nat → Nat) : Prop := m ≤ 40 ∧ ml_inc m P ∧ (∀ p h, md_R g p h ↔ ∃ k, k < m ∧ P k = p ∧ D k = h) ∧ (∀ k, k < m → md_W g (P k) (D k) = 0)
theorem ml_Yuni {g : md_C} {m m' : Nat} {P P' D D' : Nat → Nat} (a : ml_Y g m P D) (b : ml_Y g m' P' D') : m = m' ∧ ∀ i, i < m → P i = P' i ∧ D i = D' i := by
  have u := ml_uni a.2.1 b.2.1 (fun i hi => by
    obtain ⟨k, hk, e, _⟩ := (b.2.2.1 _ _).mp ((a.2.2.1 (P i) (D i)).mpr ⟨i, hi, rfl, rfl⟩)
    exact ⟨k, hk, e⟩) (fun i hi => by
    obtain ⟨k, hk, e, _⟩ := (a.2.2.1 _ _).mp ((b.2.2.1 (P' i) (D' i)).mpr ⟨i, hi, rfl, rfl⟩)
    exact ⟨k, hk, e⟩)
  obtain ⟨e, h⟩ := u
  subst e
  refine ⟨rfl, fun i hi => ⟨h i hi, ?_⟩⟩
  obtain ⟨k, hk, e1, e2⟩ := (b.2.2.1 _ _).mp ((a.2.2.1 (P i) (D i)).mpr ⟨i, hi, rfl, rfl⟩)
  have : k = i := ml_inj b.2.1 _ _ hk hi (e1.trans (h i hi))
  subst this
  exact e2.symm
/-- the least number that is wrong at p -/
def ml_B (g : md_C) (p n : Nat) : Prop := (∃ h, md_R g p h ∧ md_W g p h = n ∧ n ≠ 0 ∧ ∀ h', md_R g p h' → md_W g p h' = 0 ∨ n ≤ md_W g p h') ∨ (n = 6 ∧ (∀ h, md_R g p h → md_W g p h = 0) ∧ ∃ h h', h ≠ h' ∧ md_R g p h ∧ md_R g p h')
theorem ml_W5 (g : md_C) (p h : Nat) : md_W g p h ≤ 5 := by
  unfold md_W
  repeat' split
  all_goals omega
theorem ml_Buni {g : md_C} {p n n' : Nat} (a : ml_B g p n) (b : ml_B g p n') : n = n' := by
  rcases a with ⟨h, r, w, z, l⟩ | ⟨e, z, h, h', d, r, r'⟩ <;> rcases b with ⟨i, s, v, y, k⟩ | ⟨f, y, i, i', c, s, s'⟩
  · have := l _ s
    have := k _ r
    omega
  · have := y _ r; omega
  · have := z _ s; omega
  · omega
theorem ml_B0 {g : md_C} {p n : Nat} (a : ml_B g p n) : n ≠ 0 ∧ n ≤ 6 := by
  rcases a with ⟨h, r, w, z, l⟩ | ⟨e, _⟩
  · have := ml_W5 g p h; omega
  · omega
/-- the first wrong place -/
def ml_F (g : md_C) (p n : Nat) : Prop := ml_B g p n ∧ ∀ q n', q < p → ¬ ml_B g q n'
theorem ml_Funi {g : md_C} {p n p' n' : Nat} (a : ml_F g p n) (b : ml_F g p' n') : p = p' ∧ n = n' := by
  have e : p = p' := by
    rcases Nat.lt_trichotomy p p' with c | c | c
    · exact absurd a.1 (b.2 _ _ c)
    · exact c
    · exact absurd b.1 (a.2 _ _ c)
  subst e
  exact ⟨rfl, ml_Buni a.1 b.1⟩
/-- more than forty places -/
def ml_Many (g : md_C) : Prop := ∃ f : Nat → Nat, (∀ i, i < 41 → ∃ h, md_R g (f i) h) ∧ ∀ i j, i < 41 → j < 41 → f i = f j → i = j
theorem ml_few {g : md_C} {m : Nat} {K : Nat → Nat} (hm : m ≤ 40) (h : ∀ p h, md_R g p h → ∃ k, k < m ∧ K k = p) : ¬ ml_Many g := by
  rintro ⟨f, a, b⟩
  have := ml_pig m 41 f K (fun i hi => by obtain ⟨h', r⟩ := a i hi; exact h _ _ r) b
  omega
/-- no place is wrong: one depth each, and nothing wrong with it -/
theorem ml_right {g : md_C} (h : ∀ p n, ¬ ml_B g p n) : (∀ p d, md_R g p d → md_W g p d = 0) ∧ (∀ p d d', md_R g p d → md_R g p d' → d = d') := by
  have w : ∀ p d, md_R g p d → md_W g p d = 0 := by
    intro p d r
    apply Classical.byContradiction
    intro hw
    -- the least nonzero
    have : ∃ n, (∃ d, md_R g p d ∧ md_W g p d = n ∧ n ≠ 0) ∧ ∀ j, j < n → ¬ ∃ d, md_R g p d ∧ md_W g p d = j ∧ j ≠ 0 := by
      have : ∀ n, (∃ d, md_R g p d ∧ md_W g p d = n ∧ n ≠ 0) → ∃ n, (∃ d, md_R g p d ∧ md_W g p d = n ∧ n ≠ 0) ∧ ∀ j, j < n → ¬ ∃ d, md_R g p d ∧ md_W g p d = j ∧ j ≠ 0 := by
        intro n
        induction n using Nat.strongRecOn with
        | ind n ih =>
          intro hn
          by_cases c : ∃ j, j < n ∧ ∃ d, md_R g p d ∧ md_W g p d = j ∧ j ≠ 0
          · obtain ⟨j, hj, hd⟩ := c; exact ih j hj hd
          · exact ⟨n, hn, fun j hj hd => c ⟨j, hj, hd⟩⟩
      exact this _ ⟨d, r, rfl, hw⟩
    obtain ⟨n, ⟨d0, r0, w0, n0⟩, least⟩ := this
    refine h p n (Or.inl ⟨d0, r0, w0, n0, fun h' r' => ?_⟩)
    by_cases z : md_W g p h' = 0
    · exact Or.inl z
    · right
      apply Nat.le_of_not_lt
      intro c
      exact least _ c ⟨h', r', rfl, z⟩
  refine ⟨w, fun p d d' r r' => ?_⟩
  apply Classical.byContradiction
  intro hne
  exact h p 6 (Or.inr ⟨rfl, fun h' r'' => w _ _ r'', d, d', hne, r, r'⟩)
end
end
section
/-! ===== sets of numbers as bits ===== -/
section
theorem mb_sh : ∀ d, d < 8 → (1 : Int32) <<< (nI d &&& 31) = nI (2 ^ d) := by decide +kernel
theorem mb_or {w d : Nat} (hd : d < 8) : nI w ||| ((1 : Int32) <<< (nI d &&& 31)) = nI (w ||| 2 ^ d) := by
  rw [mb_sh d hd, nx_or]
theorem mb_lt {w d : Nat} (hw : w < 128) (hd : d < 7) : w ||| 2 ^ d < 128 := Nat.or_lt_two_pow (n := 7) hw (Nat.pow_lt_pow_right (by omega) hd)
theorem mb_tb {w d e : Nat} : (w ||| 2 ^ d).testBit e = true ↔ w.testBit e = true ∨ d = e := by
  rw [Nat.testBit_or, Nat.testBit_two_pow]; simp
theorem mb_M : ∀ d, d < 7 → Nat.testBit 4294967295 d = true := by decide +kernel
/-- what is in a and not in b -/
def mb_dif (a b : Nat) : Nat := a &&& (b ^^^ 4294967295)
theorem mb_difI (a b : Nat) : nI a &&& (nI b ^^^ (-1)) = nI (mb_dif a b) := by
  have : (-1 : Int32) = nI 4294967295 := by decide
  rw [this, nx_xor, nx_and]; rfl
theorem mb_difT {a b d : Nat} (hd : d < 7) : (mb_dif a b).testBit d = true ↔ a.testBit d = true ∧ ¬ b.testBit d = true := by
  unfold mb_dif
  rw [Nat.testBit_and, Nat.testBit_xor, mb_M d hd]
  cases a.testBit d <;> cases b.testBit d <;> simp
theorem mb_difL {a b : Nat} (ha : a < 128) : mb_dif a b < 128 := by
  unfold mb_dif
  exact Nat.lt_of_le_of_lt Nat.and_le_left ha
theorem mb_bit : ∀ w, w < 128 → ∀ d, d < 7 → (nI w &&& nI (2 ^ d) = 0 ↔ ¬ w.testBit d = true) := by decide +kernel
theorem mb_shb : ∀ w, w < 128 → ∀ d, d < 7 → (nI w >>> (nI d &&& 31) &&& 1 = 0 ↔ ¬ w.testBit d = true) := by decide +kernel
theorem mb_z : ∀ w, w < 128 → (nI w = 0 ↔ ∀ d, d < 7 → ¬ w.testBit d = true) := by decide +kernel
theorem mb_one : ∀ w, w < 128 → (nI w &&& (nI w - 1) = 0 ↔ ∀ d, d < 7 → ∀ e, e < 7 → w.testBit d = true → w.testBit e = true → d = e) := by decide +kernel
theorem mb_ext {w d : Nat} (hw : w < 128) (h : w.testBit d = true) : d < 7 := by
  apply Classical.byContradiction
  intro c
  have : w < 2 ^ d := Nat.lt_of_lt_of_le hw (Nat.pow_le_pow_right (n := 2) (i := 7) (by omega) (by omega))
  rw [Nat.testBit_lt_two_pow this] at h
  cases h
theorem mb_open {a b d : Nat} (ha : a < 128) (hd : d < 7) : (nI a &&& (nI b ^^^ (-1))) &&& ((1 : Int32) <<< (nI d &&& 31)) = 0 ↔ ¬ (a.testBit d = true ∧ ¬ b.testBit d = true) := by
  rw [mb_difI, mb_sh d (by omega), mb_bit _ (mb_difL ha) d hd, mb_difT hd]
/-- the five faults as bits 1 to 5 -/
def mb_fm (a b c d e : Bool) : Nat := 2 * a.toNat + 4 * b.toNat + 8 * c.toNat + 16 * d.toNat + 32 * e.toNat
theorem mb_fmor : ∀ a b c d e a' b' c' d' e' : Bool, nI (mb_fm a b c d e) ||| nI (mb_fm a' b' c' d' e') = nI (mb_fm (a || a') (b || b') (c || c') (d || d') (e || e')) := by decide +kernel
theorem mb_fm0 : ∀ a b c d e : Bool, nI (mb_fm a b c d e) = 0 ↔ a = false ∧ b = false ∧ c = false ∧ d = false ∧ e = false := by decide +kernel
end
end
section
/-! ===== classes and types ===== -/
section
def mt_cl (g : md_C) : Nat → Nat → Nat → Nat
  | 0, _, e => e
  | n + 1, c, e => if c < e then mt_cl g n c (mc_p g e) else e
/-- class c is class d or above it -/
abbrev mt_ab (g : md_C) (c d : Nat) : Prop := mt_cl g 8 c d = c
abbrev mt_C (t : Nat) : Prop := 3 ≤ t ∧ t ≤ 10
abbrev mt_fit (g : md_C) (t o : Nat) : Prop := t = o ∨ o = 0 ∨ (mt_C o ∧ (t = 2 ∨ (mt_C t ∧ mt_ab g (o - 3) (t - 3))))
def mt_lca (g : md_C) : Nat → Nat → Nat → Nat
  | 0, c, _ => c
  | n + 1, c, d => if c = d then c else if d < c then mt_lca g n (mc_p g c) d else mt_lca g n c (mc_p g d)
def mt_j (g : md_C) (t o : Nat) : Nat := if t = o then t else if t = 2 ∧ mt_C o then o else if o = 2 ∧ mt_C t then t else if ¬ mt_C t ∨ ¬ mt_C o then 0 else 3 + mt_lca g 16 (t - 3) (o - 3)
theorem mt_cl_le {g : md_C} (hp : ∀ c, mc_p g c ≤ c - 1) : ∀ n c e, e ≤ n → mt_cl g n c e ≤ c ∨ mt_cl g n c e = e ∧ e ≤ c := by
  intro n
  induction n with
  | zero => intro c e he; left; show e ≤ c; omega
  | succ n ih =>
    intro c e he
    by_cases h : c < e
    · simp only [mt_cl, h, if_true]
      have := hp e
      rcases ih c (mc_p g e) (by omega) with x | ⟨x, y⟩
      · exact Or.inl x
      · left; omega
    · simp only [mt_cl, h, if_false]; right; exact ⟨by trivial, by omega⟩
/-- climbing further changes nothing -/
theorem mt_cl_st {g : md_C} (hp : ∀ c, mc_p g c ≤ c - 1) : ∀ n m c e, e ≤ n → e ≤ m → mt_cl g n c e = mt_cl g m c e := by
  intro n
  induction n with
  | zero =>
    intro m c e he hm
    cases m with
    | zero => rfl
    | succ m => simp only [mt_cl]; rw [if_neg (by omega)]
  | succ n ih =>
    intro m c e he hm
    cases m with
    | zero => simp only [mt_cl]; rw [if_neg (by omega)]
    | succ m =>
      simp only [mt_cl]
      by_cases h : c < e
      · rw [if_pos h, if_pos h]
        have := hp e
        exact ih m c _ (by omega) (by omega)
      · rw [if_neg h, if_neg h]
theorem mt_ab_s {g : md_C} (hp : ∀ c, mc_p g c ≤ c - 1) {c d : Nat} (hd : d ≤ 8) (h : c < d) : mt_ab g c d ↔ mt_ab g c (mc_p g d) := by
  have := hp d
  unfold mt_ab
  rw [mt_cl_st hp 8 9 c d (by omega) (by omega)]
  show (if c < d then mt_cl g 8 c (mc_p g d) else d) = c ↔ _
  rw [if_pos h]
theorem mt_ab_r (g : md_C) (c : Nat) : mt_ab g c c := by
  show (if c < c then _ else c) = c
  rw [if_neg (by omega)]
theorem mt_ab_le {g : md_C} (hp : ∀ c, mc_p g c ≤ c - 1) {c d : Nat} (h : mt_ab g c d) : c ≤ d := by
  apply Classical.byContradiction
  intro hn
  have : mt_cl g 8 c d = d := by
    show (if c < d then _ else d) = d
    rw [if_neg (by omega)]
  have h' : mt_cl g 8 c d = c := h
  omega
theorem mt_ab_0 {g : md_C} (hp : ∀ c, mc_p g c ≤ c - 1) : ∀ d, d ≤ 8 → mt_ab g 0 d := by
  intro d
  induction d using Nat.strongRecOn with
  | ind d ih =>
    intro hd
    by_cases h : 0 < d
    · rw [mt_ab_s hp hd h]
      have := hp d
      exact ih _ (by omega) (by omega)
    · have : d = 0 := by omega
      subst this; exact mt_ab_r g 0
/-- the lowest common ancestor -/
theorem mt_lca_ok {g : md_C} (hp : ∀ c, mc_p g c ≤ c - 1) : ∀ n c d, c ≤ 8 → d ≤ 8 → c + d ≤ n → mt_ab g (mt_lca g n c d) c ∧ mt_ab g (mt_lca g n c d) d ∧ ∀ q, mt_ab g q c → mt_ab g q d → q ≤ mt_lca g n c d := by
  intro n
  induction n with
  | zero =>
    intro c d hc hd h
    have e1 : c = 0 := by omega
    have e2 : d = 0 := by omega
    subst e1 e2
    exact ⟨mt_ab_r g 0, mt_ab_r g 0, fun q a _ => mt_ab_le hp a⟩
  | succ n ih =>
    intro c d hc hd h
    simp only [mt_lca]
    by_cases e : c = d
    · subst e
      simp only [if_true]
      exact ⟨mt_ab_r g c, mt_ab_r g c, fun q a _ => mt_ab_le hp a⟩
    · rw [if_neg e]
      by_cases l : d < c
      · rw [if_pos l]
        have := hp c
        obtain ⟨a, b, m⟩ := ih (mc_p g c) d (by omega) hd (by omega)
        have a1 := mt_ab_le hp a
        refine ⟨?_, b, fun q x y => m q ?_ y⟩
        · rw [mt_ab_s hp hc (by omega)]; exact a
        · have := mt_ab_le hp y
          rw [← mt_ab_s hp hc (by omega)]; exact x
      · rw [if_neg l]
        have := hp d
        obtain ⟨a, b, m⟩ := ih c (mc_p g d) hc (by omega) (by omega)
        have b1 := mt_ab_le hp b
        refine ⟨a, ?_, fun q x y => m q x ?_⟩
        · rw [mt_ab_s hp hd (by omega)]; exact b
        · have := mt_ab_le hp x
          rw [← mt_ab_s hp hd (by omega)]; exact y
theorem mt_lca_fit {g : md_C} (hp : ∀ c, mc_p g c ≤ c - 1) {c d : Nat} (hc : c < 8) (hd : d < 8) (h : mt_ab g d c) : mt_lca g 16 c d = d := by
  obtain ⟨a, b, m⟩ := mt_lca_ok hp 16 c d (by omega) (by omega) (by omega)
  have := mt_ab_le hp b
  have := m d h (mt_ab_r g d)
  omega
theorem mt_lca_fit' {g : md_C} (hp : ∀ c, mc_p g c ≤ c - 1) {c d : Nat} (hc : c < 8) (hd : d < 8) (h : mt_ab g c d) : mt_lca g 16 c d = c := by
  obtain ⟨a, b, m⟩ := mt_lca_ok hp 16 c d (by omega) (by omega) (by omega)
  have := mt_ab_le hp a
  have := m c (mt_ab_r g c) h
  omega
theorem mt_lca_top {g : md_C} (hp : ∀ c, mc_p g c ≤ c - 1) {c d r : Nat} (hc : c < 8) (hd : d < 8) (h1 : mt_ab g r c) (h2 : mt_ab g r d) (h3 : ∀ q, r < q → q < 8 → ¬ (mt_ab g q c ∧ mt_ab g q d)) : mt_lca g 16 c d = r := by
  obtain ⟨a, b, m⟩ := mt_lca_ok hp 16 c d (by omega) (by omega) (by omega)
  have l1 := m r h1 h2
  have l2 := mt_ab_le hp a
  apply Classical.byContradiction
  intro hne
  exact h3 (mt_lca g 16 c d) (by omega) (by omega) ⟨a, b⟩
/-- join as the reference makes it -/
theorem mt_j_up {g : md_C} (hp : ∀ c, mc_p g c ≤ c - 1) {t o : Nat} (h : mt_fit g t o) : mt_j g t o = o := by
  unfold mt_j
  by_cases e : t = o
  · rw [if_pos e]; exact e
  · rw [if_neg e]
    by_cases h1 : t = 2 ∧ mt_C o
    · rw [if_pos h1]
    · rw [if_neg h1]
      by_cases h2 : o = 2 ∧ mt_C t
      · rw [if_pos h2]; unfold mt_fit mt_C at *; omega
      · rw [if_neg h2]
        by_cases h3 : ¬ mt_C t ∨ ¬ mt_C o
        · rw [if_pos h3]; unfold mt_fit at h; unfold mt_C at *; omega
        · rw [if_neg h3]
          rcases h with x | x | ⟨x, y | ⟨y, z⟩⟩
          · exact absurd x e
          · unfold mt_C at *; omega
          · unfold mt_C at *; omega
          · unfold mt_C at x y
            rw [mt_lca_fit hp (by omega) (by omega) z]; omega
theorem mt_j_down {g : md_C} (hp : ∀ c, mc_p g c ≤ c - 1) {t o : Nat} (h : mt_fit g o t) : mt_j g t o = t := by
  unfold mt_j
  by_cases e : t = o
  · rw [if_pos e]
  · rw [if_neg e]
    by_cases h1 : t = 2 ∧ mt_C o
    · rw [if_pos h1]; unfold mt_fit mt_C at *; omega
    · rw [if_neg h1]
      by_cases h2 : o = 2 ∧ mt_C t
      · rw [if_pos h2]
      · rw [if_neg h2]
        by_cases h3 : ¬ mt_C t ∨ ¬ mt_C o
        · rw [if_pos h3]; unfold mt_fit at h; unfold mt_C at *; omega
        · rw [if_neg h3]
          rcases h with x | x | ⟨x, y | ⟨y, z⟩⟩
          · exact absurd x.symm e
          · unfold mt_C at *; omega
          · unfold mt_C at *; omega
          · unfold mt_C at x y
            rw [mt_lca_fit' hp (by omega) (by omega) z]; omega
theorem mt_j_no {g : md_C} {t o : Nat} (h1 : ¬ mt_fit g t o) (h2 : ¬ mt_fit g o t) (h : ¬ mt_C t ∨ ¬ mt_C o) : mt_j g t o = 0 := by
  unfold mt_j
  have a : ¬ t = o := fun e => h1 (Or.inl e)
  have b : ¬ (t = 2 ∧ mt_C o) := fun e => h1 (Or.inr (Or.inr ⟨e.2, Or.inl e.1⟩))
  have c : ¬ (o = 2 ∧ mt_C t) := fun e => h2 (Or.inr (Or.inr ⟨e.2, Or.inl e.1⟩))
  rw [if_neg a, if_neg b, if_neg c, if_pos h]
theorem mt_j_lca {g : md_C} (hp : ∀ c, mc_p g c ≤ c - 1) {t o r : Nat} (h1 : ¬ mt_fit g t o) (h2 : ¬ mt_fit g o t) (ht : mt_C t) (ho : mt_C o) (a : mt_ab g r (t - 3)) (b : mt_ab g r (o - 3)) (m : ∀ q, r < q → q < 8 → ¬ (mt_ab g q (t - 3) ∧ mt_ab g q (o - 3))) : mt_j g t o = 3 + r := by
  unfold mt_j
  have a' : ¬ t = o := fun e => h1 (Or.inl e)
  have b' : ¬ (t = 2 ∧ mt_C o) := by unfold mt_C at *; omega
  have c' : ¬ (o = 2 ∧ mt_C t) := by unfold mt_C at *; omega
  have d' : ¬ (¬ mt_C t ∨ ¬ mt_C o) := by
    rintro (x | x)
    · exact x ht
    · exact x ho
  rw [if_neg a', if_neg b', if_neg c', if_neg d']
  unfold mt_C at ht ho
  rw [mt_lca_top hp (by omega) (by omega) a b m]
/-- heights of types: a join that changes goes down -/
def mt_h (t : Nat) : Nat := if t = 0 then 0 else if t = 2 then 9 else if mt_C t then t - 2 else 1
theorem mt_h9 (t : Nat) : mt_h t ≤ 9 := by
  unfold mt_h mt_C
  repeat' split
  all_goals omega
theorem mt_jh {g : md_C} (hp : ∀ c, mc_p g c ≤ c - 1) (t o : Nat) : mt_j g t o = t ∨ mt_h (mt_j g t o) < mt_h t := by
  unfold mt_j
  split
  · exact Or.inl rfl
  · split
    · right
      rename_i h
      unfold mt_h; unfold mt_C at *
      rw [if_neg (by omega), if_neg (by omega), if_pos (by omega), if_neg (by omega), if_pos (by omega)]
      omega
    · split
      · exact Or.inl rfl
      · split
        · by_cases z : t = 0
          · left; exact z.symm
          · right
            unfold mt_h; unfold mt_C at *
            rw [if_pos rfl, if_neg z]
            repeat' split
            all_goals omega
        · rename_i h
          have h' : mt_C t ∧ mt_C o := by
            refine ⟨Classical.byContradiction fun x => h (Or.inl x), Classical.byContradiction fun x => h (Or.inr x)⟩
          unfold mt_C at h'
          obtain ⟨a, b, m⟩ := mt_lca_ok hp 16 (t - 3) (o - 3) (by omega) (by omega) (by omega)
          have l := mt_ab_le hp a
          by_cases e : mt_lca g 16 (t - 3) (o - 3) = t - 3
          · left; omega
          · right
            unfold mt_h mt_C
            rw [if_neg (by omega), if_neg (by omega), if_pos (by omega), if_neg (by omega), if_neg (by omega), if_pos (by omega)]
            omega
theorem mt_j90 {g : md_C} (hp : ∀ c, mc_p g c ≤ c - 1) {t o : Nat} (ht : t ≤ 90) (ho : o ≤ 90) : mt_j g t o ≤ 90 := by
  unfold mt_j
  split
  · exact ht
  · split
    · exact ho
    · split
      · exact ht
      · split
        · omega
        · rename_i h
          have h' : mt_C t ∧ mt_C o := by
            refine ⟨Classical.byContradiction fun x => h (Or.inl x), Classical.byContradiction fun x => h (Or.inr x)⟩
          unfold mt_C at h'
          obtain ⟨a, b, m⟩ := mt_lca_ok hp 16 (t - 3) (o - 3) (by omega) (by omega) (by omega)
          have l := mt_ab_le hp a
          omega
end
end
section
/-! ===== finding types: one pure round, its measure ===== -/
section
def mf_b (b : Bool) : Int32 := if b = true then 1 else 0
def mf_sum (f : Nat → Nat) : Nat → Nat
  | 0 => 0
  | n + 1 => mf_sum f n + f n
theorem mf_sum_le {f h : Nat → Nat} : ∀ n, (∀ s, s < n → f s ≤ h s) → mf_sum f n ≤ mf_sum h n := by
  intro n
  induction n with
  | zero => intro _; exact Nat.le_refl _
  | succ n ih =>
    intro a
    have := ih (fun s hs => a s (by omega))
    have := a n (by omega)
    simp only [mf_sum]; omega
theorem mf_sum_lt {f h : Nat → Nat} : ∀ n, (∀ s, s < n → f s ≤ h s) → (∃ s, s < n ∧ f s < h s) → mf_sum f n < mf_sum h n := by
  intro n
  induction n with
  | zero => rintro _ ⟨s, hs, _⟩; omega
  | succ n ih =>
    rintro a ⟨s, hs, e⟩
    have l := mf_sum_le n (fun s hs => a s (by omega))
    have := a n (by omega)
    simp only [mf_sum]
    by_cases c : s = n
    · subst c; omega
    · have := ih (fun s hs => a s (by omega)) ⟨s, by omega, e⟩
      omega
theorem mf_sum_c {f : Nat → Nat} {c : Nat} : ∀ n, (∀ s, s < n → f s ≤ c) → mf_sum f n ≤ n * c := by
  intro n
  induction n with
  | zero => intro _; simp [mf_sum]
  | succ n ih =>
    intro a
    have := ih (fun s hs => a s (by omega))
    have := a n (by omega)
    simp only [mf_sum]
    rw [Nat.add_mul]; omega
/-- known, and the types found -/
abbrev mf_T : Type := (Nat → Bool) × (Nat → Nat → Nat)
def mf_nw (g : md_C) (T : mf_T) (p : Nat) (f : Nat → Nat) (s : Nat) : Nat := if T.1 p = true then mt_j g (T.2 p s) (f s) else f s
def mf_gv (g : md_C) (T : mf_T) (p n : Nat) (f : Nat → Nat) : mf_T := (fun q => if q = p then true else T.1 q, fun q s => if q = p ∧ s < n then mf_nw g T p f s else T.2 q s)
def mf_ch (g : md_C) (T : mf_T) (p : Nat) (f : Nat → Nat) : Nat → Bool
  | 0 => false
  | s + 1 => mf_ch g T p f s || decide (mf_nw g T p f s ≠ T.2 p s)
def mf_fl (g : md_C) (T : mf_T) (p n : Nat) (f : Nat → Nat) : Bool := !(T.1 p) || mf_ch g T p f n
theorem mf_ch_iff {g : md_C} {T : mf_T} {p : Nat} {f : Nat → Nat} : ∀ n, mf_ch g T p f n = true ↔ ∃ s, s < n ∧ mf_nw g T p f s ≠ T.2 p s := by
  intro n
  induction n with
  | zero => simp [mf_ch]
  | succ n ih =>
    simp only [mf_ch, Bool.or_eq_true, ih, decide_eq_true_eq]
    constructor
    · rintro (⟨s, hs, e⟩ | e)
      · exact ⟨s, by omega, e⟩
      · exact ⟨n, by omega, e⟩
    · rintro ⟨s, hs, e⟩
      by_cases c : s = n
      · subst c; exact Or.inr e
      · exact Or.inl ⟨s, by omega, e⟩
def mf_mp (T : mf_T) (p : Nat) : Nat := if T.1 p = true then mf_sum (fun s => mt_h (T.2 p s)) 10 else 91
def mf_mu (m : Nat) (T : mf_T) : Nat := mf_sum (mf_mp T) m
theorem mf_mp_gv {g : md_C} (hp : ∀ c, mc_p g c ≤ c - 1) (T : mf_T) (p n : Nat) (f : Nat → Nat) (q : Nat) : mf_mp (mf_gv g T p n f) q ≤ mf_mp T q := by
  unfold mf_mp mf_gv
  by_cases e : q = p
  · subst e
    simp only [if_true, true_and]
    by_cases k : T.1 q = true
    · rw [if_pos k]
      refine mf_sum_le _ (fun s hs => ?_)
      by_cases c : s < n
      · simp only [c, if_true, mf_nw, k]
        rcases mt_jh hp (T.2 q s) (f s) with x | x
        · rw [x]; exact Nat.le_refl _
        · omega
      · simp only [c, if_false]; exact Nat.le_refl _
    · rw [if_neg k]
      have := mf_sum_c (f := fun s => mt_h (if s < n then mf_nw g T q f s else T.2 q s)) (c := 9) 10 (fun s hs => mt_h9 _)
      omega
  · simp only [e, if_false, false_and]; exact Nat.le_refl _
theorem mf_mu_gv {g : md_C} (hp : ∀ c, mc_p g c ≤ c - 1) (m : Nat) (T : mf_T) (p n : Nat) (f : Nat → Nat) : mf_mu m (mf_gv g T p n f) ≤ mf_mu m T :=
  mf_sum_le _ (fun q _ => mf_mp_gv hp T p n f q)
theorem mf_mu_fl {g : md_C} (hp : ∀ c, mc_p g c ≤ c - 1) {m : Nat} {T : mf_T} {p n : Nat} {f : Nat → Nat} (hm : p < m) (hn : n ≤ 10) (h : mf_fl g T p n f = true) : mf_mu m (mf_gv g T p n f) < mf_mu m T := by
  refine mf_sum_lt _ (fun q _ => mf_mp_gv hp T p n f q) ⟨p, hm, ?_⟩
  unfold mf_mp mf_gv
  simp only [if_true, true_and]
  by_cases k : T.1 p = true
  · rw [if_pos k]
    have : mf_ch g T p f n = true := by
      unfold mf_fl at h; rw [k] at h; simpa using h
    obtain ⟨s, hs, e⟩ := (mf_ch_iff n).mp this
    refine mf_sum_lt _ (fun s hs => ?_) ⟨s, by omega, ?_⟩
    · by_cases c : s < n
      · simp only [c, if_true, mf_nw, k]
        rcases mt_jh hp (T.2 p s) (f s) with x | x
        · rw [x]; exact Nat.le_refl _
        · omega
      · simp only [c, if_false]; exact Nat.le_refl _
    · simp only [hs, if_true]
      unfold mf_nw at e ⊢
      rw [if_pos k] at e ⊢
      rcases mt_jh hp (T.2 p s) (f s) with x | x
      · exact absurd x e
      · exact x
  · rw [if_neg k]
    have := mf_sum_c (f := fun s => mt_h (if s < n then mf_nw g T p f s else T.2 p s)) (c := 9) 10 (fun s hs => mt_h9 _)
    omega
theorem mf_mu_b (m : Nat) (T : mf_T) (hm : m ≤ 40) : mf_mu m T ≤ 3640 := by
  have := mf_sum_c (f := mf_mp T) (c := 91) m (fun q _ => by
    unfold mf_mp
    split
    · have := mf_sum_c (f := fun s => mt_h (T.2 q s)) (c := 9) 10 (fun s _ => mt_h9 _)
      omega
    · omega)
  have : m * 91 ≤ 40 * 91 := Nat.mul_le_mul_right _ hm
  unfold mf_mu; omega
/-- gives to different places commute -/
theorem mf_gv_comm {g : md_C} {T : mf_T} {p q n n' : Nat} {f f' : Nat → Nat} (h : p ≠ q) : mf_gv g (mf_gv g T p n f) q n' f' = mf_gv g (mf_gv g T q n' f') p n f := by
  unfold mf_gv mf_nw
  refine Prod.ext ?_ ?_
  · funext r
    dsimp only
    by_cases a : r = p <;> by_cases b : r = q <;> simp [a, b]
  · funext r s
    dsimp only
    have h' : ¬ q = p := fun e => h e.symm
    by_cases a : r = p
    · subst a
      have : ¬ r = q := h
      simp [this, h']
    · by_cases b : r = q
      · subst b
        simp [a]
      · simp [a, b]
theorem mf_fl_other {g : md_C} {T : mf_T} {p q n n' : Nat} {f f' : Nat → Nat} (h : p ≠ q) : mf_fl g (mf_gv g T p n f) q n' f' = mf_fl g T q n' f' := by
  have h' : ¬ q = p := fun e => h e.symm
  have e1 : (mf_gv g T p n f).1 q = T.1 q := by unfold mf_gv; simp [h']
  have e2 : ∀ s, (mf_gv g T p n f).2 q s = T.2 q s := by intro s; unfold mf_gv; simp [h']
  have e3 : ∀ k, mf_ch g (mf_gv g T p n f) q f' k = mf_ch g T q f' k := by
    intro k
    induction k with
    | zero => rfl
    | succ k ih =>
      have e4 : mf_nw g (mf_gv g T p n f) q f' k = mf_nw g T q f' k := by unfold mf_nw; rw [e1, e2]
      show (mf_ch g (mf_gv g T p n f) q f' k || decide (mf_nw g (mf_gv g T p n f) q f' k ≠ (mf_gv g T p n f).2 q k)) = (mf_ch g T q f' k || decide (mf_nw g T q f' k ≠ T.2 q k))
      rw [ih, e4, e2]
  unfold mf_fl; rw [e1, e3]
/-- which place a key is -/
def mf_ix (P : Nat → Nat) : Nat → Nat → Nat
  | 0, _ => 0
  | n + 1, p => if P n = p then n else mf_ix P n p
theorem mf_ix_eq {P : Nat → Nat} : ∀ m k, ml_inc m P → k < m → mf_ix P m (P k) = k := by
  intro m
  induction m with
  | zero => intro k _ hk; omega
  | succ m ih =>
    intro k hi hk
    simp only [mf_ix]
    by_cases e : P m = P k
    · rw [if_pos e]; exact ml_inj hi _ _ (by omega) hk e
    · rw [if_neg e]
      have : k ≠ m := fun z => e (by rw [z])
      exact ih k (fun i j a b => hi i j a (by omega)) (by omega)
abbrev mf_isM (g : md_C) (m : Nat) (P : Nat → Nat) (t : Nat) : Prop := 11 ≤ t ∧ t - 11 < m ∧ mc_o g (P (t - 11) % 24) = 8
def mf_mc (g : md_C) (P : Nat → Nat) (t : Nat) : Nat := mc_a g (P (t - 11) % 24)
/-- what the instruction of place k needs of a frame with d values -/
abbrev mf_nd (g : md_C) (m : Nat) (P : Nat → Nat) (k d : Nat) (f : Nat → Nat) : Prop :=
  (mc_o g (P k % 24) = 2 → f (mc_a g (P k % 24)) ≠ 0 ∧ f (mc_a g (P k % 24)) < 51) ∧
  (mc_o g (P k % 24) = 7 → f (3 + d) = 1 ∧ f (2 + d) = 1) ∧
  (mc_o g (P k % 24) = 8 → ∀ i, i < d → f (4 + i) ≠ 11 + k) ∧
  (mc_o g (P k % 24) = 9 → mf_isM g m P (f (3 + d))) ∧
  (mc_o g (P k % 24) = 10 ∨ mc_o g (P k % 24) = 14 ∨ mc_o g (P k % 24) = 19 → 2 ≤ f (3 + d) ∧ f (3 + d) ≤ 10) ∧
  (mc_o g (P k % 24) = 11 ∨ mc_o g (P k % 24) = 18 → mt_fit g (f (3 + d)) (3 + mc_a g (P k % 24))) ∧
  (mc_o g (P k % 24) = 13 → f (3 + d) = 1) ∧
  (mc_o g (P k % 24) = 16 → f (mc_a g (P k % 24)) = 51 + mf_ix P m (md_cl (P k)))
def mf_up (f : Nat → Nat) (i v : Nat) : Nat → Nat := fun s => if s = i then v else f s
/-- what it makes of the frame -/
def mf_cg (g : md_C) (P : Nat → Nat) (k d : Nat) (f : Nat → Nat) : Nat → Nat :=
  if mc_o g (P k % 24) = 0 then mf_up f (4 + d) 1
  else if mc_o g (P k % 24) = 1 then mf_up f (4 + d) 2
  else if mc_o g (P k % 24) = 2 then mf_up f (4 + d) (f (mc_a g (P k % 24)))
  else if mc_o g (P k % 24) = 3 then mf_up f (mc_a g (P k % 24)) (f (3 + d))
  else if mc_o g (P k % 24) = 5 then mf_up f (4 + d) (f (3 + d))
  else if mc_o g (P k % 24) = 6 then mf_up (mf_up f (3 + d) (f (2 + d))) (2 + d) (f (3 + d))
  else if mc_o g (P k % 24) = 8 then mf_up (fun s => if f s = 11 + k then 0 else f s) (4 + d) (11 + k)
  else if mc_o g (P k % 24) = 9 then fun s => if f s = f (3 + d) then 3 + mf_mc g P (f (3 + d)) else f s
  else if mc_o g (P k % 24) = 10 then mf_up f (3 + d) (3 + mc_a g (P k % 24))
  else if mc_o g (P k % 24) = 15 then mf_up f (4 + d) (51 + k)
  else f
abbrev mf_Z : Type := mf_T × Bool
def mf_g1 (g : md_C) (z : mf_Z) (p n : Nat) (f : Nat → Nat) : mf_Z := (mf_gv g z.1 p n f, z.2 || mf_fl g z.1 p n f)
/-- the frame that a handler is given -/
def mf_hf (g : md_C) (f : Nat → Nat) (x : Nat) : Nat → Nat := mf_up f 4 (3 + mc_k g x)
def mf_hs (g : md_C) (m : Nat) (P : Nat → Nat) (k : Nat) (f : Nat → Nat) : Nat → mf_Z → mf_Z
  | 0, z => z
  | x + 1, z => if md_cv g x (P k) then mf_g1 g (mf_hs g m P k f x z) (mf_ix P m (md_at (P k) (mc_g g x))) 5 (mf_hf g f x) else mf_hs g m P k f x z
/-- giving on behind the handlers: behind, then the jump -/
def mf_gb (g : md_C) (P : Nat → Nat) (k n : Nat) (f : Nat → Nat) (z : mf_Z) : mf_Z := if md_gb (mc_o g (P k % 24)) then mf_g1 g z (k + 1) n f else z
def mf_gj (g : md_C) (m : Nat) (P : Nat → Nat) (k n : Nat) (f : Nat → Nat) (z : mf_Z) : mf_Z := match md_L g (P k) with
  | some p => mf_g1 g z (mf_ix P m p) n f
  | none => z
theorem mf_g1_comm {g : md_C} {z : mf_Z} {p q n : Nat} {f : Nat → Nat} : mf_g1 g (mf_g1 g z p n f) q n f = mf_g1 g (mf_g1 g z q n f) p n f := by
  by_cases e : p = q
  · subst e; rfl
  · unfold mf_g1
    dsimp only
    rw [mf_gv_comm e, mf_fl_other e, mf_fl_other (fun h => e h.symm), Bool.or_assoc, Bool.or_assoc, Bool.or_comm (mf_fl g z.1 p n f)]
theorem mf_jb {g : md_C} {m : Nat} {P : Nat → Nat} {k n : Nat} {f : Nat → Nat} {z : mf_Z} : mf_gb g P k n f (mf_gj g m P k n f z) = mf_gj g m P k n f (mf_gb g P k n f z) := by
  unfold mf_gb mf_gj
  cases md_L g (P k) with
  | none => rfl
  | some p =>
    dsimp only
    by_cases b : md_gb (mc_o g (P k % 24))
    · rw [if_pos b, if_pos b]; exact mf_g1_comm
    · rw [if_neg b, if_neg b]
def mf_st (g : md_C) (m : Nat) (P D : Nat → Nat) (k : Nat) (z : mf_Z) : Option mf_Z :=
  if mf_nd g m P k (D k) ((mf_hs g m P k (z.1.2 k) (mc_hc g) z).1.2 k) then
    some (mf_gj g m P k (4 + md_th g (P k) (D k)) (mf_cg g P k (D k) ((mf_hs g m P k (z.1.2 k) (mc_hc g) z).1.2 k)) (mf_gb g P k (4 + md_th g (P k) (D k)) (mf_cg g P k (D k) ((mf_hs g m P k (z.1.2 k) (mc_hc g) z).1.2 k)) (mf_hs g m P k (z.1.2 k) (mc_hc g) z)))
  else none
def mf_rd (g : md_C) (m : Nat) (P D : Nat → Nat) : Nat → mf_Z → Option mf_Z
  | 0, z => some z
  | k + 1, z => match mf_rd g m P D k z with
    | none => none
    | some y => if y.1.1 k = true then mf_st g m P D k y else some y
def mf_it (g : md_C) (m : Nat) (P D : Nat → Nat) : Nat → mf_T → Option mf_T
  | 0, T => some T
  | n + 1, T => match mf_rd g m P D m (T, false) with
    | none => none
    | some y => if y.2 = true then mf_it g m P D n y.1 else some y.1
end
end
section
/-! ===== what a right layout keeps; the measure of a round ===== -/
section
variable {g : md_C} {m : Nat} {P D : Nat → Nat}
theorem mg_R (Y : ml_Y g m P D) {k : Nat} (hk : k < m) : md_R g (P k) (D k) := (Y.2.2.1 _ _).mpr ⟨k, hk, rfl, rfl⟩
theorem mg_V (hG : md_G g) (hM : md_M g) (Y : ml_Y g m P D) {k : Nat} (hk : k < m) : md_V g (P k) := (md_RV hG hM (mg_R Y hk)).1
theorem mg_D (hG : md_G g) (hM : md_M g) (Y : ml_Y g m P D) {k : Nat} (hk : k < m) : D k ≤ 6 := (md_RV hG hM (mg_R Y hk)).2
theorem mg_to (Y : ml_Y g m P D) {k p h : Nat} (hk : k < m) (t : md_T g (P k) (D k) p h) : ∃ j, j < m ∧ P j = p ∧ D j = h :=
  (Y.2.2.1 _ _).mp (md_Rs (mg_R Y hk) ⟨Y.2.2.2 k hk, t⟩)
theorem mg_0 (Y : ml_Y g m P D) : 0 < m ∧ P 0 = 0 ∧ D 0 = 0 := by
  obtain ⟨j, hj, e1, e2⟩ := (Y.2.2.1 _ _).mp (md_R0 g)
  have : j = 0 := by
    apply Classical.byContradiction
    intro c
    have := Y.2.1 0 j (by omega) hj
    omega
  subst this
  exact ⟨hj, e1, e2⟩
theorem mg_next (Y : ml_Y g m P D) {k j : Nat} (hk : k < m) (hj : j < m) (e : P j = P k + 1) : j = k + 1 := by
  rcases Nat.lt_trichotomy j (k + 1) with c | c | c
  · rcases Nat.lt_or_eq_of_le (show j ≤ k by omega) with d | d
    · have := Y.2.1 j k d hk; omega
    · subst d; omega
  · exact c
  · have := Y.2.1 k (k + 1) (by omega) (by omega)
    have := Y.2.1 (k + 1) j c hj
    omega
theorem mg_b (Y : ml_Y g m P D) {k : Nat} (hk : k < m) (b : md_gb (mc_o g (P k % 24))) : k + 1 < m ∧ P (k + 1) = P k + 1 ∧ D (k + 1) = md_th g (P k) (D k) := by
  obtain ⟨j, hj, e1, e2⟩ := mg_to Y hk (Or.inl ⟨b, rfl, rfl⟩)
  have := mg_next Y hk hj e1
  subst this
  exact ⟨hj, e1, e2⟩
theorem mg_j (Y : ml_Y g m P D) {k p : Nat} (hk : k < m) (l : md_L g (P k) = some p) : ∃ j, j < m ∧ P j = p ∧ D j = md_th g (P k) (D k) := mg_to Y hk (Or.inr (Or.inl ⟨l, rfl⟩))
theorem mg_h (Y : ml_Y g m P D) {k x : Nat} (hk : k < m) (hx : x < mc_hc g) (c : md_cv g x (P k)) : ∃ j, j < m ∧ P j = md_at (P k) (mc_g g x) ∧ D j = 1 := mg_to Y hk (Or.inr (Or.inr ⟨x, hx, c, rfl, rfl⟩))
theorem mg_W (Y : ml_Y g m P D) {k : Nat} (hk : k < m) : ¬ md_f1 g (P k) ∧ ¬ md_f2 g (P k) (D k) ∧ ¬ md_f3 g (P k) (D k) ∧ ¬ md_f4 g (P k) ∧ ¬ md_f5 g (P k) := md_W0 (Y.2.2.2 k hk)
theorem mg_th (Y : ml_Y g m P D) {k : Nat} (hk : k < m) : md_tk (mc_o g (P k % 24)) ≤ D k ∧ md_th g (P k) (D k) ≤ 6 := by
  obtain ⟨_, b, c, _, _⟩ := mg_W Y hk
  unfold md_th
  exact ⟨by omega, by omega⟩
theorem mg_cl (hG : md_G g) (hM : md_M g) (Y : ml_Y g m P D) {k : Nat} (hk : k < m) (hn : 0 < md_n (P k)) : ∃ j, j < m ∧ P j = md_cl (P k) := by
  obtain ⟨h', r⟩ := md_Rcl hG hM (mg_R Y hk) hn
  obtain ⟨j, hj, e, _⟩ := (Y.2.2.1 _ _).mp r
  exact ⟨j, hj, e⟩
/-- place k is come to otherwise than from the place ahead of it -/
def mg_hit (g : md_C) (P : Nat → Nat) (j k : Nat) : Prop := md_L g (P j) = some (P k) ∨ ∃ x, x < mc_hc g ∧ md_cv g x (P j) ∧ md_at (P j) (mc_g g x) = P k
theorem mg_mapped (Y : ml_Y g m P D) {k : Nat} (hk : k + 1 < m) (b : ¬ md_gb (mc_o g (P k % 24))) : ∃ j, j < m ∧ mg_hit g P j (k + 1) := by
  have r := mg_R Y hk
  obtain ⟨h0, p0, _⟩ := mg_0 Y
  have lt := Y.2.1 0 (k + 1) (by omega) hk
  rcases md_Rpre r with ⟨e, _⟩ | ⟨q, h, rq, s⟩
  · omega
  · obtain ⟨j, hj, e1, e2⟩ := (Y.2.2.1 _ _).mp rq
    subst e1 e2
    rcases s.2 with ⟨b', e, _⟩ | ⟨l, _⟩ | ⟨x, hx, c, e, _⟩
    · have := mg_next Y hj hk e
      have : j = k := by omega
      subst this
      exact absurd b' b
    · exact ⟨j, hj, Or.inl l⟩
    · exact ⟨j, hj, Or.inr ⟨x, hx, c, e.symm⟩⟩
theorem mf_ix_lt : ∀ m p, 0 < m → mf_ix P m p < m := by
  intro m
  induction m with
  | zero => intro p h; omega
  | succ m ih =>
    intro p _
    simp only [mf_ix]
    split
    · omega
    · cases m with
      | zero => simp [mf_ix]
      | succ m => have := ih p (by omega); omega
/-- a step never raises the measure, and lowers it where it raises the flag -/
def mg_Q (m : Nat) (z y : mf_Z) : Prop := mf_mu m y.1 ≤ mf_mu m z.1 ∧ (y.2 = true → z.2 = true ∨ mf_mu m y.1 < mf_mu m z.1)
theorem mg_Qr (m : Nat) (z : mf_Z) : mg_Q m z z := ⟨Nat.le_refl _, fun h => Or.inl h⟩
theorem mg_Qt {m : Nat} {z y x : mf_Z} (a : mg_Q m z y) (b : mg_Q m y x) : mg_Q m z x := by
  obtain ⟨a1, a2⟩ := a
  obtain ⟨b1, b2⟩ := b
  refine ⟨by omega, fun h => ?_⟩
  rcases b2 h with c | c
  · rcases a2 c with d | d
    · exact Or.inl d
    · right; omega
  · right; omega
theorem mg_Q1 (hp : ∀ c, mc_p g c ≤ c - 1) {z : mf_Z} {p n : Nat} {f : Nat → Nat} (hm : p < m) (hn : n ≤ 10) : mg_Q m z (mf_g1 g z p n f) := by
  unfold mf_g1
  refine ⟨mf_mu_gv hp m z.1 p n f, fun h => ?_⟩
  dsimp only at h ⊢
  rw [Bool.or_eq_true] at h
  rcases h with h | h
  · exact Or.inl h
  · exact Or.inr (mf_mu_fl hp hm hn h)
theorem mg_Qh (hp : ∀ c, mc_p g c ≤ c - 1) (hm : 0 < m) (k : Nat) (f : Nat → Nat) (z : mf_Z) : ∀ x, mg_Q m z (mf_hs g m P k f x z) := by
  intro x
  induction x with
  | zero => exact mg_Qr m z
  | succ x ih =>
    simp only [mf_hs]
    split
    · exact mg_Qt ih (mg_Q1 hp (mf_ix_lt _ _ hm) (by omega))
    · exact ih
theorem mg_Qs (hp : ∀ c, mc_p g c ≤ c - 1) (Y : ml_Y g m P D) {k : Nat} (hk : k < m) {z y : mf_Z} (h : mf_st g m P D k z = some y) : mg_Q m z y := by
  have hm : 0 < m := by omega
  have ht := (mg_th Y hk).2
  unfold mf_st at h
  split at h
  · cases h
    refine mg_Qt (mg_Qh (P := P) hp hm k (z.1.2 k) z (mc_hc g)) ?_
    generalize mf_hs g m P k (z.1.2 k) (mc_hc g) z = w
    generalize mf_cg g P k (D k) (w.1.2 k) = f
    have a : mg_Q m w (mf_gb g P k (4 + md_th g (P k) (D k)) f w) := by
      unfold mf_gb
      split
      · rename_i b
        exact mg_Q1 hp (mg_b Y hk b).1 (by omega)
      · exact mg_Qr m w
    refine mg_Qt a ?_
    unfold mf_gj
    split
    · exact mg_Q1 hp (mf_ix_lt _ _ hm) (by omega)
    · exact mg_Qr m _
  · cases h
theorem mg_Qrd (hp : ∀ c, mc_p g c ≤ c - 1) (Y : ml_Y g m P D) : ∀ k z y, k ≤ m → mf_rd g m P D k z = some y → mg_Q m z y := by
  intro k
  induction k with
  | zero => intro z y _ h; cases h; exact mg_Qr m z
  | succ k ih =>
    intro z y hk h
    simp only [mf_rd] at h
    cases e : mf_rd g m P D k z with
    | none => rw [e] at h; cases h
    | some w =>
      rw [e] at h
      dsimp only at h
      have a := ih z w (by omega) e
      split at h
      · exact mg_Qt a (mg_Qs hp Y (by omega) h)
      · cases h; exact a
end
end
section
/-! ===== at the end every place is known; types stay types; the one pass ===== -/
section
variable {g : md_C} {m : Nat} {P D : Nat → Nat}
/-- nothing new: the flag stays down only if no place became known -/
def mn_N (z y : mf_Z) : Prop := y.2 = false → z.2 = false ∧ y.1.1 = z.1.1
theorem mn_Nr (z : mf_Z) : mn_N z z := fun h => ⟨h, rfl⟩
theorem mn_Nt {z y x : mf_Z} (a : mn_N z y) (b : mn_N y x) : mn_N z x := fun h => ⟨(a (b h).1).1, (b h).2.trans (a (b h).1).2⟩
theorem mn_N1 {z : mf_Z} {p n : Nat} {f : Nat → Nat} (h : (mf_g1 g z p n f).2 = false) : z.2 = false ∧ z.1.1 p = true ∧ (mf_g1 g z p n f).1.1 = z.1.1 := by
  unfold mf_g1 at h ⊢
  dsimp only at h ⊢
  rw [Bool.or_eq_false_iff] at h
  obtain ⟨h1, h2⟩ := h
  unfold mf_fl at h2
  rw [Bool.or_eq_false_iff] at h2
  have k : z.1.1 p = true := by
    have := h2.1
    cases e : z.1.1 p
    · rw [e] at this; cases this
    · rfl
  refine ⟨h1, k, ?_⟩
  funext q
  unfold mf_gv
  dsimp only
  by_cases e : q = p
  · subst e; rw [if_pos rfl, k]
  · rw [if_neg e]
theorem mn_N1' {z : mf_Z} {p n : Nat} {f : Nat → Nat} : mn_N z (mf_g1 g z p n f) := fun h => ⟨(mn_N1 h).1, (mn_N1 h).2.2⟩
theorem mn_Nh (k : Nat) (f : Nat → Nat) (z : mf_Z) : ∀ x, mn_N z (mf_hs g m P k f x z) ∧ ((mf_hs g m P k f x z).2 = false → ∀ i, i < x → md_cv g i (P k) → z.1.1 (mf_ix P m (md_at (P k) (mc_g g i))) = true) := by
  intro x
  induction x with
  | zero => exact ⟨mn_Nr z, fun _ i hi => by omega⟩
  | succ x ih =>
    simp only [mf_hs]
    split
    · rename_i c
      refine ⟨mn_Nt ih.1 mn_N1', fun h i hi ci => ?_⟩
      have a := mn_N1 h
      by_cases e : i = x
      · subst e
        rw [(ih.1 a.1).2] at a
        exact a.2.1
      · exact ih.2 a.1 i (by omega) ci
    · rename_i c
      refine ⟨ih.1, fun h i hi ci => ?_⟩
      by_cases e : i = x
      · subst e; exact absurd ci c
      · exact ih.2 h i (by omega) ci
/-- what place k leads to is known -/
def mn_K (g : md_C) (m : Nat) (P : Nat → Nat) (k : Nat) (kn : Nat → Bool) : Prop := (∀ i, i < mc_hc g → md_cv g i (P k) → kn (mf_ix P m (md_at (P k) (mc_g g i))) = true) ∧ (md_gb (mc_o g (P k % 24)) → kn (k + 1) = true) ∧ (∀ p, md_L g (P k) = some p → kn (mf_ix P m p) = true)
theorem mn_Ns {k : Nat} {z y : mf_Z} (h : mf_st g m P D k z = some y) : mn_N z y ∧ (y.2 = false → mn_K g m P k z.1.1) := by
  unfold mf_st at h
  split at h
  · cases h
    have hh := mn_Nh (g := g) (m := m) (P := P) k (z.1.2 k) z (mc_hc g)
    generalize mf_hs g m P k (z.1.2 k) (mc_hc g) z = w at hh ⊢
    generalize mf_cg g P k (D k) (w.1.2 k) = f
    generalize 4 + md_th g (P k) (D k) = n
    have a : mn_N w (mf_gb g P k n f w) ∧ ((mf_gb g P k n f w).2 = false → md_gb (mc_o g (P k % 24)) → w.1.1 (k + 1) = true) := by
      unfold mf_gb
      split
      · exact ⟨mn_N1', fun h _ => (mn_N1 h).2.1⟩
      · rename_i c
        exact ⟨mn_Nr w, fun _ b => absurd b c⟩
    generalize mf_gb g P k n f w = v at a ⊢
    have b : mn_N v (mf_gj g m P k n f v) ∧ ((mf_gj g m P k n f v).2 = false → ∀ p, md_L g (P k) = some p → v.1.1 (mf_ix P m p) = true) := by
      unfold mf_gj
      cases e : md_L g (P k) with
      | none => exact ⟨mn_Nr v, fun _ p hp => by cases hp⟩
      | some q => exact ⟨mn_N1', fun h p hp => by cases hp; exact (mn_N1 h).2.1⟩
    refine ⟨mn_Nt hh.1 (mn_Nt a.1 b.1), fun h => ?_⟩
    have v2 := b.1 h
    have w2 := a.1 v2.1
    have z2 := hh.1 w2.1
    refine ⟨fun i hi ci => hh.2 w2.1 i hi ci, fun c => ?_, fun p hp => ?_⟩
    · have := a.2 v2.1 c
      rw [z2.2] at this; exact this
    · have := b.2 h p hp
      rw [w2.2, z2.2] at this; exact this
  · cases h
theorem mn_Nrd : ∀ k z y, mf_rd g m P D k z = some y → mn_N z y ∧ (y.2 = false → ∀ i, i < k → z.1.1 i = true → mn_K g m P i z.1.1) := by
  intro k
  induction k with
  | zero => intro z y h; cases h; exact ⟨mn_Nr z, fun _ i hi => by omega⟩
  | succ k ih =>
    intro z y h
    simp only [mf_rd] at h
    cases e : mf_rd g m P D k z with
    | none => rw [e] at h; cases h
    | some w =>
      rw [e] at h
      dsimp only at h
      obtain ⟨a1, a2⟩ := ih z w e
      split at h
      · obtain ⟨b1, b2⟩ := mn_Ns h
        refine ⟨mn_Nt a1 b1, fun hf i hi ki => ?_⟩
        have wf := (b1 hf).1
        by_cases c : i = k
        · subst c
          have := b2 hf
          rw [(a1 wf).2] at this; exact this
        · exact a2 wf i (by omega) ki
      · rename_i nk
        cases h
        refine ⟨a1, fun hf i hi ki => ?_⟩
        by_cases c : i = k
        · subst c
          rw [(a1 hf).2] at nk
          exact absurd ki nk
        · exact a2 hf i (by omega) ki
theorem mn_g1k {z : mf_Z} {p n q : Nat} {f : Nat → Nat} (h : z.1.1 q = true) : (mf_g1 g z p n f).1.1 q = true := by
  unfold mf_g1 mf_gv
  dsimp only
  split
  · rfl
  · exact h
theorem mn_hsk {k q : Nat} {f : Nat → Nat} {z : mf_Z} (h : z.1.1 q = true) : ∀ x, (mf_hs g m P k f x z).1.1 q = true := by
  intro x
  induction x with
  | zero => exact h
  | succ x ih =>
    simp only [mf_hs]
    split
    · exact mn_g1k ih
    · exact ih
theorem mn_stk {k q : Nat} {z y : mf_Z} (h : mf_st g m P D k z = some y) (hq : z.1.1 q = true) : y.1.1 q = true := by
  unfold mf_st at h
  split at h
  · cases h
    have a := mn_hsk (g := g) (m := m) (P := P) (k := k) (f := z.1.2 k) hq (mc_hc g)
    generalize mf_hs g m P k (z.1.2 k) (mc_hc g) z = w at a ⊢
    unfold mf_gj mf_gb
    split
    · split
      · exact mn_g1k (mn_g1k a)
      · exact mn_g1k a
    · split
      · exact mn_g1k a
      · exact a
  · cases h
theorem mn_rdk {q : Nat} : ∀ k z y, mf_rd g m P D k z = some y → z.1.1 q = true → y.1.1 q = true := by
  intro k
  induction k with
  | zero => intro z y h hq; cases h; exact hq
  | succ k ih =>
    intro z y h hq
    simp only [mf_rd] at h
    cases e : mf_rd g m P D k z with
    | none => rw [e] at h; cases h
    | some w =>
      rw [e] at h
      dsimp only at h
      have := ih z w e hq
      split at h
      · exact mn_stk h this
      · cases h; exact this
/-- closed and begun: every place is known -/
theorem mn_all (Y : ml_Y g m P D) {kn : Nat → Bool} (h0 : kn 0 = true) (hK : ∀ k, k < m → kn k = true → mn_K g m P k kn) : ∀ k, k < m → kn k = true := by
  have key : ∀ p h, md_R g p h → ∀ k, k < m → P k = p → kn k = true := by
    intro p h r
    refine md_Ri r (fun p _ => ∀ k, k < m → P k = p → kn k = true) ?_ ?_
    · intro k hk e
      obtain ⟨a, b, _⟩ := mg_0 Y
      have : k = 0 := ml_inj Y.2.1 _ _ hk a (e.trans b.symm)
      subst this; exact h0
    · intro q d q' d' rq I s k hk e
      obtain ⟨j, hj, e1, e2⟩ := (Y.2.2.1 _ _).mp rq
      have kj := I j hj e1
      have K := hK j hj kj
      subst e1
      rcases s.2 with ⟨b, e3, _⟩ | ⟨l, _⟩ | ⟨x, hx, c, e3, _⟩
      · have := mg_next Y hj hk (e.trans e3)
        subst this
        exact K.2.1 b
      · have := K.2.2 _ l
        rw [← e, mf_ix_eq m k Y.2.1 hk] at this
        exact this
      · have := K.1 x hx c
        rw [← e3, ← e, mf_ix_eq m k Y.2.1 hk] at this
        exact this
  intro k hk
  exact key _ _ (mg_R Y hk) k hk rfl
/-- types stay types -/
def mn_90 (T : mf_T) : Prop := ∀ p s, T.2 p s ≤ 90
theorem mn_g90 (hp : ∀ c, mc_p g c ≤ c - 1) {z : mf_Z} {p n : Nat} {f : Nat → Nat} (h : mn_90 z.1) (hf : ∀ s, f s ≤ 90) : mn_90 (mf_g1 g z p n f).1 := by
  intro q s
  unfold mf_g1 mf_gv mf_nw
  dsimp only
  split
  · split
    · exact mt_j90 hp (h _ _) (hf _)
    · exact hf _
  · exact h _ _
theorem mn_up90 {f : Nat → Nat} {i v : Nat} (hf : ∀ s, f s ≤ 90) (hv : v ≤ 90) : ∀ s, mf_up f i v s ≤ 90 := by
  intro s; unfold mf_up; split
  · exact hv
  · exact hf s
theorem mn_h90 (hG : md_G g) {f : Nat → Nat} (hf : ∀ s, f s ≤ 90) (x : Nat) : ∀ s, mf_hf g f x s ≤ 90 := by
  have := (hG.2.2.2.2.1 x).2.2.2
  exact mn_up90 hf (by omega)
theorem mn_hs90 (hG : md_G g) {k : Nat} {f : Nat → Nat} {z : mf_Z} (h : mn_90 z.1) (hf : ∀ s, f s ≤ 90) : ∀ x, mn_90 (mf_hs g m P k f x z).1 := by
  intro x
  induction x with
  | zero => exact h
  | succ x ih =>
    simp only [mf_hs]
    split
    · exact mn_g90 hG.2.2.2.2.2.1 ih (mn_h90 hG hf x)
    · exact ih
theorem mn_lim8 (hG : md_G g) {i : Nat} (h : mc_o g i = 8 ∨ mc_o g i = 10 ∨ mc_o g i = 11 ∨ mc_o g i = 18) : mc_a g i < 8 ∧ mc_r g i = nI (mc_a g i) := by
  have := hG.2.2.2.1 i
  have e : md_lim (mc_o g i) = 8 := by
    unfold md_lim
    rw [if_neg (by omega), if_pos h]
  rw [e] at this
  exact this (by omega)
theorem mn_lim4 (hG : md_G g) {i : Nat} (h : mc_o g i = 2 ∨ mc_o g i = 3 ∨ mc_o g i = 16) : mc_a g i < 4 ∧ mc_r g i = nI (mc_a g i) := by
  have := hG.2.2.2.1 i
  have e : md_lim (mc_o g i) = 4 := by
    unfold md_lim
    rw [if_pos h]
  rw [e] at this
  exact this (by omega)
theorem mn_lim24 (hG : md_G g) {i : Nat} (h : 12 ≤ mc_o g i ∧ mc_o g i ≤ 15) : mc_a g i < 24 ∧ mc_r g i = nI (mc_a g i) := by
  have := hG.2.2.2.1 i
  have e : md_lim (mc_o g i) = 24 := by
    unfold md_lim
    rw [if_neg (by omega), if_neg (by omega), if_pos h]
  rw [e] at this
  exact this (by omega)
theorem mn_cg90 (hG : md_G g) {k d : Nat} {f : Nat → Nat} (hk : k < 40) (hf : ∀ s, f s ≤ 90) (nd : mf_nd g m P k d f) : ∀ s, mf_cg g P k d f s ≤ 90 := by
  unfold mf_cg
  split
  · exact mn_up90 hf (by omega)
  split
  · exact mn_up90 hf (by omega)
  split
  · exact mn_up90 hf (hf _)
  split
  · exact mn_up90 hf (hf _)
  split
  · exact mn_up90 hf (hf _)
  split
  · exact mn_up90 (mn_up90 hf (hf _)) (hf _)
  split
  · refine mn_up90 (fun s => ?_) (by omega)
    split
    · omega
    · exact hf s
  split
  · rename_i o9
    intro s
    have m9 := nd.2.2.2.1 o9
    have := (mn_lim8 hG (i := P (f (3 + d) - 11) % 24) (Or.inl m9.2.2)).1
    unfold mf_mc
    dsimp only
    split
    · omega
    · exact hf s
  split
  · rename_i o10
    have := (mn_lim8 hG (Or.inr (Or.inl o10))).1
    exact mn_up90 hf (by omega)
  split
  · exact mn_up90 hf (by omega)
  · exact hf
theorem mn_st90 (hG : md_G g) {k : Nat} (hk : k < 40) {z y : mf_Z} (h : mf_st g m P D k z = some y) (hz : mn_90 z.1) : mn_90 y.1 := by
  unfold mf_st at h
  split at h
  · rename_i nd
    cases h
    have a := mn_hs90 (m := m) (P := P) (k := k) hG hz (hz k) (mc_hc g)
    have c := mn_cg90 (P := P) hG hk (a k) nd
    generalize mf_hs g m P k (z.1.2 k) (mc_hc g) z = w at a c ⊢
    generalize mf_cg g P k (D k) (w.1.2 k) = f at c ⊢
    have b : mn_90 (mf_gb g P k (4 + md_th g (P k) (D k)) f w).1 := by
      unfold mf_gb
      split
      · exact mn_g90 hG.2.2.2.2.2.1 a c
      · exact a
    unfold mf_gj
    split
    · exact mn_g90 hG.2.2.2.2.2.1 b c
    · exact b
  · cases h
/-- the one pass -/
def mk_fr (M : Nat → Bool) (K : Nat → Nat → Nat) (k : Nat) (f : Nat → Nat) : Nat → Nat := if M k = true then K k else f
abbrev mk_ft (g : md_C) (K : Nat → Nat → Nat) (j n : Nat) (f : Nat → Nat) : Prop := ∀ s, s < n → mt_fit g (f s) (K j s)
def mk_hok (g : md_C) (m : Nat) (P : Nat → Nat) (K : Nat → Nat → Nat) (k : Nat) (f : Nat → Nat) : Prop := ∀ x, x < mc_hc g → md_cv g x (P k) → mk_ft g K (mf_ix P m (md_at (P k) (mc_g g x))) 5 (mf_hf g f x)
noncomputable def mk_rs (g : md_C) (m : Nat) (P D : Nat → Nat) (M : Nat → Bool) (K : Nat → Nat → Nat) (k : Nat) (b : Bool) (f : Nat → Nat) : Nat :=
  if M k = true ∧ b = true ∧ ¬ mk_ft g K k (4 + D k) f then 1
  else @ite Nat (¬ mk_hok g m P K k (mk_fr M K k f)) (Classical.propDecidable _) 2 (if ¬ mf_nd g m P k (D k) (mk_fr M K k f) then 3
  else match md_L g (P k) with
    | some p => if mk_ft g K (mf_ix P m p) (4 + md_th g (P k) (D k)) (mf_cg g P k (D k) (mk_fr M K k f)) then 0 else 4
    | none => 0)
noncomputable def mk_ck (g : md_C) (m : Nat) (P D : Nat → Nat) (M : Nat → Bool) (K : Nat → Nat → Nat) : Nat → Nat → Bool → (Nat → Nat) → Option (Nat × Nat)
  | 0, _, _, _ => none
  | r + 1, k, b, f => if mk_rs g m P D M K k b f = 0 then mk_ck g m P D M K r (k + 1) (decide (md_gb (mc_o g (P k % 24)))) (mf_cg g P k (D k) (mk_fr M K k f)) else some (k, mk_rs g m P D M K k b f)
end
end
section
/-! ===== coming to places: what holds along the way, whichever way is taken ===== -/
section
variable {g : md_C} {c m m' : Nat} {ov ov' : Prop} {E E' : Nat → Nat → Prop} {K w l D K' w' l' D' : Nat → Nat}
def me_at (m : Nat) (K w : Nat → Nat) (p h : Nat) : Prop := ∃ j, j < m ∧ K j = p ∧ (w j).testBit h = true
def me_I (g : md_C) (c : Nat) (ov : Prop) (E : Nat → Nat → Prop) (m : Nat) (K w l D : Nat → Nat) : Prop :=
  m ≤ c ∧ (∀ k, k < m → w k < 128 ∧ l k < 128) ∧ (∀ i j, i < m → j < m → K i = K j → i = j) ∧
  (∀ k d, k < m → (w k).testBit d = true → md_R g (K k) d) ∧
  (∀ k d, k < m → (l k).testBit d = true → (w k).testBit d = true) ∧
  (∀ k d, k < m → (l k).testBit d = true → md_W g (K k) d = 0 → ¬ E k d → ∀ p h, md_T g (K k) d p h → ov ∨ me_at m K w p h) ∧
  me_at m K w 0 0 ∧ (∀ k, k < m → (w k).testBit (D k) = true)
theorem me_old (I : me_I g c ov E m K w l D) {j p h : Nat} (hj : j < m) (e : K j = p) (r : md_R g p h) (hh : h ≤ 6) (hw : ∀ k, k < m → k ≠ j → w' k = w k) (hwj : w' j = w j ||| 2 ^ h) : me_I g c ov E m K w' l D ∧ me_at m K w' p h ∧ ∀ q d, me_at m K w q d → me_at m K w' q d := by
  obtain ⟨i1, i2, i3, i4, i5, i6, i7, i8⟩ := I
  have grow : ∀ k d, k < m → (w k).testBit d = true → (w' k).testBit d = true := by
    intro k d hk hb
    by_cases ek : k = j
    · subst ek; rw [hwj, mb_tb]; exact Or.inl hb
    · rw [hw k hk ek]; exact hb
  have up : ∀ q d, me_at m K w q d → me_at m K w' q d := by
    rintro q d ⟨i, hi, e1, e2⟩
    exact ⟨i, hi, e1, grow i d hi e2⟩
  refine ⟨⟨i1, ?_, i3, ?_, ?_, ?_, up _ _ i7, fun k hk => grow k _ hk (i8 k hk)⟩, ⟨j, hj, e, ?_⟩, up⟩
  · intro k hk
    by_cases ek : k = j
    · subst ek; rw [hwj]; exact ⟨mb_lt (i2 k hk).1 (by omega), (i2 k hk).2⟩
    · rw [hw k hk ek]; exact i2 k hk
  · intro k d hk hb
    by_cases ek : k = j
    · subst ek
      rw [hwj, mb_tb] at hb
      rcases hb with hb | hb
      · exact i4 k d hk hb
      · subst hb; rw [e]; exact r
    · rw [hw k hk ek] at hb; exact i4 k d hk hb
  · intro k d hk hb; exact grow k d hk (i5 k d hk hb)
  · intro k d hk hb hW hE p' h' t
    rcases i6 k d hk hb hW hE p' h' t with x | x
    · exact Or.inl x
    · exact Or.inr (up _ _ x)
  · rw [hwj, mb_tb]; exact Or.inr rfl
theorem me_new (I : me_I g c ov E m K w l D) {p h : Nat} (hm : m < c) (hn : ∀ j, j < m → K j ≠ p) (r : md_R g p h) (hh : h ≤ 6) (hs : ∀ k, k < m → K' k = K k ∧ w' k = w k ∧ l' k = l k ∧ D' k = D k) (h1 : K' m = p) (h2 : w' m = 2 ^ h) (h3 : l' m = 0) (h4 : D' m = h) (hE : ∀ d, ¬ E m d) : me_I g c ov E (m + 1) K' w' l' D' ∧ me_at (m + 1) K' w' p h ∧ ∀ q d, me_at m K w q d → me_at (m + 1) K' w' q d := by
  obtain ⟨i1, i2, i3, i4, i5, i6, i7, i8⟩ := I
  have up : ∀ q d, me_at m K w q d → me_at (m + 1) K' w' q d := by
    rintro q d ⟨i, hi, e1, e2⟩
    obtain ⟨a, b, _, _⟩ := hs i hi
    exact ⟨i, by omega, a.trans e1, by rw [b]; exact e2⟩
  have b2 : 2 ^ h < 2 ^ 7 := Nat.pow_lt_pow_right (by omega) (by omega)
  have tb : ∀ d, (2 ^ h).testBit d = true ↔ h = d := by
    intro d; rw [Nat.testBit_two_pow]; simp
  refine ⟨⟨by omega, ?_, ?_, ?_, ?_, ?_, up _ _ i7, ?_⟩, ⟨m, by omega, h1, ?_⟩, up⟩
  · intro k hk
    by_cases ek : k = m
    · subst ek; rw [h2, h3]; exact ⟨b2, by omega⟩
    · obtain ⟨_, b, d, _⟩ := hs k (by omega)
      rw [b, d]; exact i2 k (by omega)
  · intro i j hi hj e
    by_cases ei : i = m
    · by_cases ej : j = m
      · omega
      · subst ei
        rw [h1, (hs j (by omega)).1] at e
        exact absurd e.symm (hn j (by omega))
    · by_cases ej : j = m
      · subst ej
        rw [h1, (hs i (by omega)).1] at e
        exact absurd e (hn i (by omega))
      · rw [(hs i (by omega)).1, (hs j (by omega)).1] at e
        exact i3 i j (by omega) (by omega) e
  · intro k d hk hb
    by_cases ek : k = m
    · subst ek
      rw [h2, tb] at hb
      subst hb; rw [h1]; exact r
    · obtain ⟨a, b, _, _⟩ := hs k (by omega)
      rw [b] at hb; rw [a]; exact i4 k d (by omega) hb
  · intro k d hk hb
    by_cases ek : k = m
    · subst ek; rw [h3, Nat.zero_testBit] at hb; cases hb
    · obtain ⟨_, b, e, _⟩ := hs k (by omega)
      rw [e] at hb; rw [b]; exact i5 k d (by omega) hb
  · intro k d hk hb hW hE' p' h' t
    by_cases ek : k = m
    · subst ek; rw [h3, Nat.zero_testBit] at hb; cases hb
    · obtain ⟨a, b, e, _⟩ := hs k (by omega)
      rw [e] at hb; rw [a] at hW t
      rcases i6 k d (by omega) hb hW hE' p' h' t with x | x
      · exact Or.inl x
      · exact Or.inr (up _ _ x)
  · intro k hk
    by_cases ek : k = m
    · subst ek; rw [h2, h4, tb]
    · obtain ⟨_, b, _, e⟩ := hs k (by omega)
      rw [b, e]; exact i8 k (by omega)
  · rw [h2, tb]
theorem me_ov (I : me_I g c ov E m K w l D) (h : ov → ov') : me_I g c ov' E m K w l D := by
  obtain ⟨i1, i2, i3, i4, i5, i6, i7, i8⟩ := I
  refine ⟨i1, i2, i3, i4, i5, fun k d hk hb hW hE p' h' t => ?_, i7, i8⟩
  rcases i6 k d hk hb hW hE p' h' t with x | x
  · exact Or.inl (h x)
  · exact Or.inr x
theorem me_mark (I : me_I g c ov (fun _ _ => False) m K w l D) {k0 d0 : Nat} (hk : k0 < m) (hb : (w k0).testBit d0 = true) (hl : ∀ k, k < m → k ≠ k0 → l' k = l k) (hl0 : l' k0 = l k0 ||| 2 ^ d0) : me_I g c ov (fun k d => k = k0 ∧ d = d0) m K w l' D := by
  obtain ⟨i1, i2, i3, i4, i5, i6, i7, i8⟩ := I
  have hd : d0 < 7 := mb_ext (i2 k0 hk).1 hb
  refine ⟨i1, ?_, i3, i4, ?_, ?_, i7, i8⟩
  · intro k h
    by_cases ek : k = k0
    · subst ek; rw [hl0]; exact ⟨(i2 k h).1, mb_lt (i2 k h).2 hd⟩
    · rw [hl k h ek]; exact i2 k h
  · intro k d h hb'
    by_cases ek : k = k0
    · subst ek
      rw [hl0, mb_tb] at hb'
      rcases hb' with x | x
      · exact i5 k d h x
      · subst x; exact hb
    · rw [hl k h ek] at hb'; exact i5 k d h hb'
  · intro k d h hb' hW hE p' h' t
    by_cases ek : k = k0
    · subst ek
      rw [hl0, mb_tb] at hb'
      rcases hb' with x | x
      · exact i6 k d h x hW (fun z => z) p' h' t
      · exact absurd ⟨rfl, x.symm⟩ hE
    · rw [hl k h ek] at hb'; exact i6 k d h hb' hW (fun z => z) p' h' t
theorem me_close {k0 d0 : Nat} (I : me_I g c ov (fun k d => k = k0 ∧ d = d0) m K w l D) (h : md_W g (K k0) d0 = 0 → ∀ p h, md_T g (K k0) d0 p h → ov ∨ me_at m K w p h) : me_I g c ov (fun _ _ => False) m K w l D := by
  obtain ⟨i1, i2, i3, i4, i5, i6, i7, i8⟩ := I
  refine ⟨i1, i2, i3, i4, i5, ?_, i7, i8⟩
  intro k d hk hb hW _ p' h' t
  by_cases e : k = k0 ∧ d = d0
  · obtain ⟨rfl, rfl⟩ := e
    exact h hW p' h' t
  · exact i6 k d hk hb hW e p' h' t
/-- the end: all that came led on, nothing left out -/
theorem me_fin (I : me_I g c ov (fun _ _ => False) m K w l D) (ho : ¬ ov) (hl : ∀ k d, k < m → (w k).testBit d = true → (l k).testBit d = true) (p h : Nat) : md_R g p h ↔ me_at m K w p h := by
  obtain ⟨i1, i2, i3, i4, i5, i6, i7, i8⟩ := I
  constructor
  · intro r
    refine md_Ri r (fun p h => me_at m K w p h) i7 ?_
    rintro q d q' d' rq ⟨j, hj, rfl, hb⟩ s
    rcases i6 j d hj (hl j d hj hb) s.1 (fun z => z) q' d' s.2 with x | x
    · exact absurd x ho
    · exact x
  · rintro ⟨j, hj, rfl, hb⟩
    exact i4 j h hj hb
/-- how many pairs have not led on -/
def me_c1 (x : Nat) : Nat := mf_sum (fun d => if x.testBit d = true then 0 else 1) 7
def me_mu (c m : Nat) (l : Nat → Nat) : Nat := mf_sum (fun k => if k < m then me_c1 (l k) else 7) c
theorem me_c1_7 (x : Nat) : me_c1 x ≤ 7 := by
  have := mf_sum_c (f := fun d => if x.testBit d = true then 0 else 1) (c := 1) 7 (fun s _ => by
    split <;> omega)
  unfold me_c1; omega
theorem me_c1_0 : me_c1 0 = 7 := by decide
theorem me_c1_lt {x d : Nat} (hd : d < 7) (h : ¬ x.testBit d = true) : me_c1 (x ||| 2 ^ d) < me_c1 x := by
  unfold me_c1
  refine mf_sum_lt 7 (fun s _ => ?_) ⟨d, hd, ?_⟩
  · by_cases a : x.testBit s = true
    · have : (x ||| 2 ^ d).testBit s = true := mb_tb.mpr (Or.inl a)
      rw [if_pos this]; omega
    · rw [if_neg a]; split <;> omega
  · rw [if_pos (mb_tb.mpr (Or.inr rfl)), if_neg h]; omega
theorem me_mu_b (c m : Nat) (l : Nat → Nat) : me_mu c m l ≤ c * 7 := by
  refine mf_sum_c c (fun k _ => ?_)
  split
  · exact me_c1_7 _
  · omega
theorem me_mu_new {c m : Nat} {l l' : Nat → Nat} (hs : ∀ k, k < m → l' k = l k) (h0 : l' m = 0) : me_mu c (m + 1) l' ≤ me_mu c m l := by
  refine mf_sum_le c (fun k _ => ?_)
  by_cases a : k < m
  · rw [if_pos (by omega), if_pos a, hs k a]; exact Nat.le_refl _
  · rw [if_neg a]
    split
    · exact me_c1_7 _
    · omega
theorem me_mu_mark {c m : Nat} {l l' : Nat → Nat} {k0 d0 : Nat} (hc : m ≤ c) (hk : k0 < m) (hd : d0 < 7) (h : ¬ (l k0).testBit d0 = true) (hl : ∀ k, k < m → k ≠ k0 → l' k = l k) (hl0 : l' k0 = l k0 ||| 2 ^ d0) : me_mu c m l' < me_mu c m l := by
  refine mf_sum_lt c (fun k _ => ?_) ⟨k0, by omega, ?_⟩
  · by_cases a : k < m
    · rw [if_pos a, if_pos a]
      by_cases e : k = k0
      · subst e; rw [hl0]; exact Nat.le_of_lt (me_c1_lt hd h)
      · rw [hl k a e]; exact Nat.le_refl _
    · rw [if_neg a, if_neg a]; exact Nat.le_refl _
  · rw [if_pos hk, if_pos hk, hl0]
    exact me_c1_lt hd h
end
end
section
/-! ===== running: one pure step ===== -/
section
/-- sorts of the slots (0 none, 1 number, 2 null, 3 link, 4 + j object j), ints, classes, ready, height, objects, line -/
abbrev mr_Q : Type := (Nat → Nat) × (Nat → Int32) × (Nat → Nat) × (Nat → Bool) × Nat × Nat × Nat
def rq_S (q : mr_Q) : Nat → Nat := q.1
def rq_I (q : mr_Q) : Nat → Int32 := q.2.1
def rq_C (q : mr_Q) : Nat → Nat := q.2.2.1
def rq_R (q : mr_Q) : Nat → Bool := q.2.2.2.1
def rq_h (q : mr_Q) : Nat := q.2.2.2.2.1
def rq_n (q : mr_Q) : Nat := q.2.2.2.2.2.1
def rq_l (q : mr_Q) : Nat := q.2.2.2.2.2.2
def mr_uB (f : Nat → Bool) (i : Nat) (v : Bool) : Nat → Bool := fun s => if s = i then v else f s
abbrev mr_ref (q : mr_Q) (t : Nat) : Prop := t = 2 ∨ (4 ≤ t ∧ rq_R q (t - 4) = true)
abbrev mr_of (g : md_C) (q : mr_Q) (t a : Nat) : Prop := t = 2 ∨ (4 ≤ t ∧ rq_R q (t - 4) = true ∧ mt_ab g a (rq_C q (t - 4)))
/-- instruction, operand at the line, the sort on top -/
def mr_o (g : md_C) (q : mr_Q) : Nat := mc_o g (rq_l q)
def mr_a (g : md_C) (q : mr_Q) : Nat := mc_a g (rq_l q)
def mr_t (q : mr_Q) : Nat := rq_S q (3 + rq_h q)
abbrev mr_gd (g : md_C) (q : mr_Q) : Prop :=
  (md_tk (mr_o g q) ≤ rq_h q ∧ rq_h q + md_pu (mr_o g q) ≤ 6 + md_tk (mr_o g q)) ∧
  (mr_o g q = 2 → rq_S q (mr_a g q) ≠ 0 ∧ rq_S q (mr_a g q) ≠ 3) ∧
  (mr_o g q = 7 → mr_t q = 1 ∧ rq_S q (2 + rq_h q) = 1) ∧
  (mr_o g q = 9 → 4 ≤ mr_t q ∧ rq_R q (mr_t q - 4) = false) ∧
  (mr_o g q = 10 ∨ mr_o g q = 14 ∨ mr_o g q = 19 → mr_ref q (mr_t q)) ∧
  (mr_o g q = 11 ∨ mr_o g q = 18 → mr_of g q (mr_t q) (mr_a g q)) ∧
  (mr_o g q = 13 → mr_t q = 1) ∧
  (mr_o g q = 16 → rq_S q (mr_a g q) = 3)
def mr_fd (g : md_C) (i c : Nat) : Nat → Nat → Option Nat
  | 0, _ => none
  | r + 1, x => if (mc_f g x ≤ i ∧ i < mc_t g x) ∧ mt_ab g (mc_k g x) c then some x else mr_fd g i c r (x + 1)
def mr_obj (q : mr_Q) (c : Nat) (b : Bool) : mr_Q := (rq_S q, rq_I q, mf_up (rq_C q) (rq_n q) c, mr_uB (rq_R q) (rq_n q) b, rq_h q, rq_n q + 1, rq_l q)
/-- how: 0 going on, else one more than the answer; last: 0 none, else one more than the class -/
def mr_rz (g : md_C) (q : mr_Q) (ob : Nat) : mr_Q × Nat × Nat := match mr_fd g (rq_l q) (rq_C q ob) (mc_hc g) 0 with
  | some x => ((mf_up (rq_S q) 4 (4 + ob), rq_I q, rq_C q, rq_R q, 1, rq_n q, mc_g g x), 0, 0)
  | none => (q, 3, rq_C q ob + 1)
/-- the object that is raised, if one is, and the state in which it is there -/
def mr_rs (g : md_C) (q : mr_Q) : Option (Nat × mr_Q) :=
  if mr_o g q = 10 ∧ ¬ mr_of g q (mr_t q) (mr_a g q) then some (rq_n q, mr_obj q 1 true)
  else if (mr_o g q = 11 ∨ mr_o g q = 19) ∧ mr_t q = 2 then some (rq_n q, mr_obj q 2 true)
  else if mr_o g q = 19 then some (mr_t q - 4, q) else none
/-- a slot set -/
def mr_set (q : mr_Q) (i s : Nat) (v : Int32) (h l : Nat) : mr_Q := (mf_up (rq_S q) i s, upd (rq_I q) i v, rq_C q, rq_R q, h, rq_n q, l)
def mr_hl (q : mr_Q) (h l : Nat) : mr_Q := (rq_S q, rq_I q, rq_C q, rq_R q, h, rq_n q, l)
def mr_nx (g : md_C) (q : mr_Q) : mr_Q :=
  if mr_o g q = 0 then mr_set q (4 + rq_h q) 1 (mc_r g (rq_l q)) (rq_h q + 1) (rq_l q + 1)
  else if mr_o g q = 1 then mr_set q (4 + rq_h q) 2 0 (rq_h q + 1) (rq_l q + 1)
  else if mr_o g q = 2 then mr_set q (4 + rq_h q) (rq_S q (mr_a g q)) (rq_I q (mr_a g q)) (rq_h q + 1) (rq_l q + 1)
  else if mr_o g q = 3 then mr_set q (mr_a g q) (mr_t q) (rq_I q (3 + rq_h q)) (rq_h q - 1) (rq_l q + 1)
  else if mr_o g q = 5 then mr_set q (4 + rq_h q) (mr_t q) (rq_I q (3 + rq_h q)) (rq_h q + 1) (rq_l q + 1)
  else if mr_o g q = 6 then mr_set (mr_set q (2 + rq_h q) (mr_t q) (rq_I q (3 + rq_h q)) (rq_h q) (rq_l q + 1)) (3 + rq_h q) (rq_S q (2 + rq_h q)) (rq_I q (2 + rq_h q)) (rq_h q) (rq_l q + 1)
  else if mr_o g q = 7 then mr_set q (2 + rq_h q) 1 (rq_I q (2 + rq_h q) + rq_I q (3 + rq_h q)) (rq_h q - 1) (rq_l q + 1)
  else if mr_o g q = 8 then mr_set (mr_obj q (mr_a g q) false) (4 + rq_h q) (4 + rq_n q) 0 (rq_h q + 1) (rq_l q + 1)
  else if mr_o g q = 9 then (rq_S q, rq_I q, rq_C q, mr_uB (rq_R q) (mr_t q - 4) true, rq_h q - 1, rq_n q, rq_l q + 1)
  else if mr_o g q = 10 then mr_hl q (rq_h q) (rq_l q + 1)
  else if mr_o g q = 12 then mr_hl q (rq_h q) (mr_a g q)
  else if mr_o g q = 13 then mr_hl q (rq_h q - 1) (if rq_I q (3 + rq_h q) = 0 then rq_l q + 1 else mr_a g q)
  else if mr_o g q = 14 then mr_hl q (rq_h q - 1) (if mr_t q = 2 then mr_a g q else rq_l q + 1)
  else if mr_o g q = 15 then mr_set q (4 + rq_h q) 3 (nI (rq_l q)) (rq_h q + 1) (mr_a g q)
  else if mr_o g q = 16 then mr_hl q (rq_h q) ((rq_I q (mr_a g q)).toNatClampNeg + 1)
  else mr_hl q (rq_h q - 1) (rq_l q + 1)
/-- one instruction -/
def mr_st (g : md_C) (q : mr_Q) : mr_Q × Nat × Nat :=
  if ¬ mr_gd g q then (q, 5, 0)
  else match mr_rs g q with
    | some r => mr_rz g r.2 r.1
    | none => if mr_o g q = 17 then (q, 1, 0) else if mr_o g q = 18 then (q, 2, if 4 ≤ mr_t q then rq_C q (mr_t q - 4) + 1 else 0) else (mr_nx g q, 0, 0)
/-- the run: b begun, most at most -/
def mr_run (g : md_C) (most : Nat) : Nat → Nat → mr_Q → mr_Q × Nat × Nat × Nat
  | 0, b, q => (q, 0, 0, b)
  | r + 1, b, q => if rq_l q = mc_cc g then (q, 5, 0, b) else if b = most then (q, 4, 0, b) else if (mr_st g q).2.1 = 0 then mr_run g most r (b + 1) (mr_st g q).1 else ((mr_st g q).1, (mr_st g q).2.1, (mr_st g q).2.2, b + 1)
/-- what every state of a run keeps -/
def mr_ok (g : md_C) (q : mr_Q) : Prop := rq_h q ≤ 6 ∧ rq_l q ≤ mc_cc g ∧ (∀ s, s < 4 + rq_h q → (4 ≤ rq_S q s → rq_S q s - 4 < rq_n q) ∧ (rq_S q s = 3 → ∃ l, l < mc_cc g ∧ rq_I q s = nI l)) ∧ (∀ j, j < rq_n q → rq_C q j < 8)
end
end
section
/-! ===== one instruction, case by case ===== -/
section
variable {g : md_C} {q : mr_Q}
theorem mr_nx0 (o : mr_o g q = 0) : mr_nx g q = mr_set q (4 + rq_h q) 1 (mc_r g (rq_l q)) (rq_h q + 1) (rq_l q + 1) := by
  unfold mr_nx; rw [if_pos o]
theorem mr_nx1 (o : mr_o g q = 1) : mr_nx g q = mr_set q (4 + rq_h q) 2 0 (rq_h q + 1) (rq_l q + 1) := by
  unfold mr_nx; rw [if_neg (by omega), if_pos o]
theorem mr_nx2 (o : mr_o g q = 2) : mr_nx g q = mr_set q (4 + rq_h q) (rq_S q (mr_a g q)) (rq_I q (mr_a g q)) (rq_h q + 1) (rq_l q + 1) := by
  unfold mr_nx; rw [if_neg (by omega), if_neg (by omega), if_pos o]
theorem mr_nx3 (o : mr_o g q = 3) : mr_nx g q = mr_set q (mr_a g q) (mr_t q) (rq_I q (3 + rq_h q)) (rq_h q - 1) (rq_l q + 1) := by
  unfold mr_nx; rw [if_neg (by omega), if_neg (by omega), if_neg (by omega), if_pos o]
theorem mr_nx5 (o : mr_o g q = 5) : mr_nx g q = mr_set q (4 + rq_h q) (mr_t q) (rq_I q (3 + rq_h q)) (rq_h q + 1) (rq_l q + 1) := by
  unfold mr_nx; rw [if_neg (by omega), if_neg (by omega), if_neg (by omega), if_neg (by omega), if_pos o]
theorem mr_nx6 (o : mr_o g q = 6) : mr_nx g q = mr_set (mr_set q (2 + rq_h q) (mr_t q) (rq_I q (3 + rq_h q)) (rq_h q) (rq_l q + 1)) (3 + rq_h q) (rq_S q (2 + rq_h q)) (rq_I q (2 + rq_h q)) (rq_h q) (rq_l q + 1) := by
  unfold mr_nx; rw [if_neg (by omega), if_neg (by omega), if_neg (by omega), if_neg (by omega), if_neg (by omega), if_pos o]
theorem mr_nx7 (o : mr_o g q = 7) : mr_nx g q = mr_set q (2 + rq_h q) 1 (rq_I q (2 + rq_h q) + rq_I q (3 + rq_h q)) (rq_h q - 1) (rq_l q + 1) := by
  unfold mr_nx; rw [if_neg (by omega), if_neg (by omega), if_neg (by omega), if_neg (by omega), if_neg (by omega), if_neg (by omega), if_pos o]
theorem mr_nx8 (o : mr_o g q = 8) : mr_nx g q = mr_set (mr_obj q (mr_a g q) false) (4 + rq_h q) (4 + rq_n q) 0 (rq_h q + 1) (rq_l q + 1) := by
  unfold mr_nx; rw [if_neg (by omega), if_neg (by omega), if_neg (by omega), if_neg (by omega), if_neg (by omega), if_neg (by omega), if_neg (by omega), if_pos o]
theorem mr_nx9 (o : mr_o g q = 9) : mr_nx g q = (rq_S q, rq_I q, rq_C q, mr_uB (rq_R q) (mr_t q - 4) true, rq_h q - 1, rq_n q, rq_l q + 1) := by
  unfold mr_nx; rw [if_neg (by omega), if_neg (by omega), if_neg (by omega), if_neg (by omega), if_neg (by omega), if_neg (by omega), if_neg (by omega), if_neg (by omega), if_pos o]
theorem mr_nx10 (o : mr_o g q = 10) : mr_nx g q = mr_hl q (rq_h q) (rq_l q + 1) := by
  unfold mr_nx; rw [if_neg (by omega), if_neg (by omega), if_neg (by omega), if_neg (by omega), if_neg (by omega), if_neg (by omega), if_neg (by omega), if_neg (by omega), if_neg (by omega), if_pos o]
theorem mr_nx12 (o : mr_o g q = 12) : mr_nx g q = mr_hl q (rq_h q) (mr_a g q) := by
  unfold mr_nx; rw [if_neg (by omega), if_neg (by omega), if_neg (by omega), if_neg (by omega), if_neg (by omega), if_neg (by omega), if_neg (by omega), if_neg (by omega), if_neg (by omega), if_neg (by omega), if_pos o]
theorem mr_nx13 (o : mr_o g q = 13) : mr_nx g q = mr_hl q (rq_h q - 1) (if rq_I q (3 + rq_h q) = 0 then rq_l q + 1 else mr_a g q) := by
  unfold mr_nx; rw [if_neg (by omega), if_neg (by omega), if_neg (by omega), if_neg (by omega), if_neg (by omega), if_neg (by omega), if_neg (by omega), if_neg (by omega), if_neg (by omega), if_neg (by omega), if_neg (by omega), if_pos o]
theorem mr_nx14 (o : mr_o g q = 14) : mr_nx g q = mr_hl q (rq_h q - 1) (if mr_t q = 2 then mr_a g q else rq_l q + 1) := by
  unfold mr_nx; rw [if_neg (by omega), if_neg (by omega), if_neg (by omega), if_neg (by omega), if_neg (by omega), if_neg (by omega), if_neg (by omega), if_neg (by omega), if_neg (by omega), if_neg (by omega), if_neg (by omega), if_neg (by omega), if_pos o]
theorem mr_nx15 (o : mr_o g q = 15) : mr_nx g q = mr_set q (4 + rq_h q) 3 (nI (rq_l q)) (rq_h q + 1) (mr_a g q) := by
  unfold mr_nx; rw [if_neg (by omega), if_neg (by omega), if_neg (by omega), if_neg (by omega), if_neg (by omega), if_neg (by omega), if_neg (by omega), if_neg (by omega), if_neg (by omega), if_neg (by omega), if_neg (by omega), if_neg (by omega), if_neg (by omega), if_pos o]
theorem mr_nx16 (o : mr_o g q = 16) : mr_nx g q = mr_hl q (rq_h q) ((rq_I q (mr_a g q)).toNatClampNeg + 1) := by
  unfold mr_nx; rw [if_neg (by omega), if_neg (by omega), if_neg (by omega), if_neg (by omega), if_neg (by omega), if_neg (by omega), if_neg (by omega), if_neg (by omega), if_neg (by omega), if_neg (by omega), if_neg (by omega), if_neg (by omega), if_neg (by omega), if_neg (by omega), if_pos o]
theorem mr_nxd (o : mr_o g q = 4 ∨ mr_o g q = 11 ∨ 17 ≤ mr_o g q) : mr_nx g q = mr_hl q (rq_h q - 1) (rq_l q + 1) := by
  unfold mr_nx; rw [if_neg (by omega), if_neg (by omega), if_neg (by omega), if_neg (by omega), if_neg (by omega), if_neg (by omega), if_neg (by omega), if_neg (by omega), if_neg (by omega), if_neg (by omega), if_neg (by omega), if_neg (by omega), if_neg (by omega), if_neg (by omega), if_neg (by omega)]
end
end
section
/-! ===== arrays of naturals; small differences ===== -/
section
def ar (w : Nat → Nat) : Nat → Int32 := fun k => nI (w k)
theorem ar_ex (a : Nat → Int32) : ∃ w : Nat → Nat, a = ar w := by
  refine ⟨fun k => (a k).toBitVec.toNat, ?_⟩
  funext k
  apply Int32.toBitVec_inj.mp
  apply BitVec.eq_of_toNat_eq
  show _ = (nI (a k).toBitVec.toNat).toBitVec.toNat
  rw [pk_tn (a k).toBitVec.isLt]
theorem ar_at (w : Nat → Nat) {j : Nat} (h : j < 2 ^ 31) : ar w (nI j).toNatClampNeg = nI (w j) := by
  rw [nI_clamp h]; rfl
theorem ar_up (w : Nat → Nat) (k v : Nat) : upd (ar w) k (nI v) = ar (mf_up w k v) := by
  funext j
  unfold upd ar mf_up
  split <;> rfl
theorem ar_ui (w : Nat → Nat) {k : Nat} (v : Nat) (h : k < 2 ^ 31) : upd (ar w) (nI k).toNatClampNeg (nI v) = ar (mf_up w k v) := by
  rw [nI_clamp h, ar_up]
theorem ar_0 : (fun _ => 0 : Nat → Int32) = ar (fun _ => 0) := rfl
theorem up_s {f : Nat → Nat} {i v : Nat} : mf_up f i v i = v := if_pos rfl
theorem up_n {f : Nat → Nat} {i v j : Nat} (h : j ≠ i) : mf_up f i v j = f j := if_neg h
theorem mi_lt0 : ∀ a, a < 7 → ∀ b, b < 3 → (nI a - nI b < 0 ↔ a < b) := by decide +kernel
theorem mi_le6 : ∀ a, a < 7 → ∀ b, b < 3 → ∀ c, c < 3 → (nI a - nI b + nI c ≤ 6 ↔ a + c ≤ 6 + b) := by decide +kernel
theorem mi_add : ∀ a, a < 7 → ∀ b, b < 3 → ∀ c, c < 3 → b ≤ a → nI a - nI b + nI c = nI (a - b + c) := by decide +kernel
theorem mi_n1 : vp_nar .boolean 1 = 1 := by decide
theorem mi_n0 : vp_nar .boolean 0 = 0 := by decide
end
end
section
/-! ===== what every state of a run keeps ===== -/
section
variable {g : md_C}
theorem mr_set_ok {q : mr_Q} {i s h' l' : Nat} {v : Int32} (ok : mr_ok g q) (hh : h' ≤ 6) (hl : l' ≤ mc_cc g) (hs : h' ≤ rq_h q ∨ (i = 4 + rq_h q ∧ h' = rq_h q + 1)) (h4 : 4 ≤ s → s - 4 < rq_n q) (h3 : s = 3 → ∃ l, l < mc_cc g ∧ v = nI l) : mr_ok g (mr_set q i s v h' l') := by
  obtain ⟨o1, o2, o3, o4⟩ := ok
  refine ⟨hh, hl, fun j hj => ?_, o4⟩
  have hj' : j < 4 + h' := hj
  show (4 ≤ mf_up (rq_S q) i s j → mf_up (rq_S q) i s j - 4 < rq_n q) ∧ (mf_up (rq_S q) i s j = 3 → ∃ l, l < mc_cc g ∧ upd (rq_I q) i v j = nI l)
  by_cases e : j = i
  · subst e
    rw [up_s, pk_us]; exact ⟨h4, h3⟩
  · have hj2 : j < 4 + rq_h q := by
      clear h3 h4 o3 o4
      omega
    rw [up_n e, pk_un e]
    exact o3 j hj2
theorem mr_hl_ok {q : mr_Q} {h' l' : Nat} (ok : mr_ok g q) (hh : h' ≤ rq_h q) (hl : l' ≤ mc_cc g) : mr_ok g (mr_hl q h' l') := by
  obtain ⟨o1, o2, o3, o4⟩ := ok
  refine ⟨?_, hl, fun j hj => o3 j ?_, o4⟩
  · show h' ≤ 6; omega
  · have : j < 4 + h' := hj
    omega
theorem mr_obj_ok {q : mr_Q} {c : Nat} {b : Bool} (ok : mr_ok g q) (hc : c < 8) : mr_ok g (mr_obj q c b) := by
  obtain ⟨o1, o2, o3, o4⟩ := ok
  refine ⟨o1, o2, fun j hj => ⟨fun h => ?_, (o3 j hj).2⟩, fun j hj => ?_⟩
  · have := (o3 j hj).1 h
    show rq_S q j - 4 < rq_n q + 1; omega
  · show mf_up (rq_C q) (rq_n q) c j < 8
    by_cases e : j = rq_n q
    · subst e; rw [up_s]; exact hc
    · have hj' : j < rq_n q + 1 := hj
      rw [up_n e]; exact o4 j (by omega)
theorem mr_o20 (hG : md_G g) (q : mr_Q) : mr_o g q < 20 := hG.2.2.1 _
theorem mr_nx_ok (hG : md_G g) (hM : md_M g) {q : mr_Q} (ok : mr_ok g q) (hl : rq_l q < mc_cc g) (gd : mr_gd g q) : mr_ok g (mr_nx g q) ∧ rq_n (mr_nx g q) ≤ rq_n q + 1 := by
  have o1 := ok.1
  have o3 := ok.2.2.1
  have o4 := ok.2.2.2
  have g1 := gd.1.1
  have g2 := gd.1.2
  have gRet := gd.2.2.2.2.2.2.2
  have o20 := mr_o20 hG q
  have t : 0 < rq_h q → _ := fun h => o3 (3 + rq_h q) (by omega)
  have b : 1 < rq_h q → _ := fun h => o3 (2 + rq_h q) (by omega)
  have jmp : 12 ≤ mr_o g q → mr_o g q ≤ 15 → mr_a g q < mc_cc g := fun a b => hM.2.1 _ hl a b
  have tk : ∀ n, mr_o g q = n → md_tk n ≤ rq_h q ∧ rq_h q + md_pu n ≤ 6 + md_tk n := by
    intro n e; rw [e] at g1 g2; exact ⟨g1, g2⟩
  have cs : mr_o g q = 0 ∨ mr_o g q = 1 ∨ mr_o g q = 2 ∨ mr_o g q = 3 ∨ mr_o g q = 5 ∨ mr_o g q = 6 ∨ mr_o g q = 7 ∨ mr_o g q = 8 ∨ mr_o g q = 9 ∨ mr_o g q = 10 ∨ mr_o g q = 12 ∨ mr_o g q = 13 ∨ mr_o g q = 14 ∨ mr_o g q = 15 ∨ mr_o g q = 16 ∨ (mr_o g q = 4 ∨ mr_o g q = 11 ∨ 17 ≤ mr_o g q) := by omega
  rcases cs with o | o | o | o | o | o | o | o | o | o | o | o | o | o | o | o
  · have k := tk _ o; simp [md_tk, md_pu] at k
    rw [mr_nx0 o]
    exact ⟨mr_set_ok ok (by omega) (by omega) (Or.inr ⟨rfl, rfl⟩) (fun h => by omega) (fun h => by omega), Nat.le_succ _⟩
  · have k := tk _ o; simp [md_tk, md_pu] at k
    rw [mr_nx1 o]
    exact ⟨mr_set_ok ok (by omega) (by omega) (Or.inr ⟨rfl, rfl⟩) (fun h => by omega) (fun h => by omega), Nat.le_succ _⟩
  · have k := tk _ o; simp [md_tk, md_pu] at k
    have ha : mr_a g q < 4 := (mn_lim4 hG (i := rq_l q) (Or.inl o)).1
    have a := o3 (mr_a g q) (by omega)
    rw [mr_nx2 o]
    exact ⟨mr_set_ok ok (by omega) (by omega) (Or.inr ⟨rfl, rfl⟩) a.1 a.2, Nat.le_succ _⟩
  · have k := tk _ o; simp [md_tk, md_pu] at k
    have t := t (by omega)
    rw [mr_nx3 o]
    exact ⟨mr_set_ok ok (by omega) (by omega) (Or.inl (by omega)) t.1 t.2, Nat.le_succ _⟩
  · have k := tk _ o; simp [md_tk, md_pu] at k
    have t := t (by omega)
    rw [mr_nx5 o]
    exact ⟨mr_set_ok ok (by omega) (by omega) (Or.inr ⟨rfl, rfl⟩) t.1 t.2, Nat.le_succ _⟩
  · have k := tk _ o; simp [md_tk, md_pu] at k
    have t := t (by omega)
    have b := b (by omega)
    rw [mr_nx6 o]
    exact ⟨mr_set_ok (mr_set_ok ok o1 (by omega) (Or.inl (Nat.le_refl _)) t.1 t.2) o1 (by omega) (Or.inl (Nat.le_refl _)) b.1 b.2, Nat.le_succ _⟩
  · have k := tk _ o; simp [md_tk, md_pu] at k
    rw [mr_nx7 o]
    exact ⟨mr_set_ok ok (by omega) (by omega) (Or.inl (by omega)) (fun h => by omega) (fun h => by omega), Nat.le_succ _⟩
  · have k := tk _ o; simp [md_tk, md_pu] at k
    have ha : mr_a g q < 8 := (mn_lim8 hG (i := rq_l q) (Or.inl o)).1
    rw [mr_nx8 o]
    refine ⟨mr_set_ok (mr_obj_ok ok ha) (by omega) (by omega) (Or.inr ⟨rfl, rfl⟩) (fun _ => ?_) (fun h => by omega), Nat.le_refl _⟩
    show 4 + rq_n q - 4 < rq_n q + 1; omega
  · rw [mr_nx9 o]
    refine ⟨⟨?_, ?_, fun j hj => ?_, o4⟩, Nat.le_succ _⟩
    · show rq_h q - 1 ≤ 6; omega
    · show rq_l q + 1 ≤ _; omega
    · have hj' : j < 4 + (rq_h q - 1) := hj
      exact o3 j (by omega)
  · rw [mr_nx10 o]
    exact ⟨mr_hl_ok ok (Nat.le_refl _) (by omega), Nat.le_succ _⟩
  · rw [mr_nx12 o]
    exact ⟨mr_hl_ok ok (Nat.le_refl _) (Nat.le_of_lt (jmp (by omega) (by omega))), Nat.le_succ _⟩
  · have := jmp (by omega) (by omega)
    rw [mr_nx13 o]
    refine ⟨mr_hl_ok ok (by omega) ?_, Nat.le_succ _⟩
    split
    · omega
    · exact Nat.le_of_lt this
  · have := jmp (by omega) (by omega)
    rw [mr_nx14 o]
    refine ⟨mr_hl_ok ok (by omega) ?_, Nat.le_succ _⟩
    split
    · exact Nat.le_of_lt this
    · omega
  · have k := tk _ o; simp [md_tk, md_pu] at k
    have := jmp (by omega) (by omega)
    rw [mr_nx15 o]
    exact ⟨mr_set_ok ok (by omega) (Nat.le_of_lt this) (Or.inr ⟨rfl, rfl⟩) (fun h => by omega) (fun _ => ⟨_, hl, rfl⟩), Nat.le_succ _⟩
  · have ha : mr_a g q < 4 := (mn_lim4 hG (i := rq_l q) (Or.inr (Or.inr o))).1
    obtain ⟨l, h1, h2⟩ := (o3 (mr_a g q) (by omega)).2 (gRet o)
    rw [mr_nx16 o]
    refine ⟨mr_hl_ok ok (Nat.le_refl _) ?_, Nat.le_succ _⟩
    have := hG.1
    rw [h2, nI_clamp (by omega)]; omega
  · rw [mr_nxd o]
    exact ⟨mr_hl_ok ok (by omega) (by omega), Nat.le_succ _⟩
theorem mr_rz_ok (hM : md_M g) {q : mr_Q} {ob : Nat} (ok : mr_ok g q) (hob : ob < rq_n q) : mr_ok g (mr_rz g q ob).1 ∧ rq_n (mr_rz g q ob).1 = rq_n q := by
  unfold mr_rz
  cases e : mr_fd g (rq_l q) (rq_C q ob) (mc_hc g) 0 with
  | none => exact ⟨ok, rfl⟩
  | some x =>
    dsimp only
    have hx : x < mc_hc g := by
      have : ∀ r y, mr_fd g (rq_l q) (rq_C q ob) r y = some x → x < y + r := by
        intro r
        induction r with
        | zero => intro y h; cases h
        | succ r ih =>
          intro y h
          simp only [mr_fd] at h
          split at h
          · cases h; omega
          · have := ih _ h; omega
      have := this _ _ e
      omega
    obtain ⟨o1, o2, o3, o4⟩ := ok
    refine ⟨⟨?_, ?_, fun j hj => ?_, o4⟩, rfl⟩
    · show 1 ≤ 6; omega
    · exact Nat.le_of_lt (hM.2.2 x hx)
    · have hj' : j < 5 := hj
      show (4 ≤ mf_up (rq_S q) 4 (4 + ob) j → mf_up (rq_S q) 4 (4 + ob) j - 4 < rq_n q) ∧ (mf_up (rq_S q) 4 (4 + ob) j = 3 → ∃ l, l < mc_cc g ∧ rq_I q j = nI l)
      by_cases ej : j = 4
      · subst ej
        rw [up_s]
        exact ⟨fun _ => by omega, fun h => by omega⟩
      · rw [up_n ej]; exact o3 j (by omega)
theorem mr_rs_ok {q : mr_Q} (ok : mr_ok g q) (gd : mr_gd g q) {r : Nat × mr_Q} (h : mr_rs g q = some r) : mr_ok g r.2 ∧ r.1 < rq_n r.2 ∧ rq_n r.2 ≤ rq_n q + 1 ∧ rq_l r.2 = rq_l q := by
  unfold mr_rs at h
  split at h
  · cases h; exact ⟨mr_obj_ok ok (by omega), Nat.lt_succ_self _, Nat.le_refl _, rfl⟩
  split at h
  · cases h; exact ⟨mr_obj_ok ok (by omega), Nat.lt_succ_self _, Nat.le_refl _, rfl⟩
  split at h
  · rename_i n1 n2 o
    cases h
    refine ⟨ok, ?_, Nat.le_succ _, rfl⟩
    have rf := gd.2.2.2.2.1 (Or.inr (Or.inr o))
    have t2 : ¬ mr_t q = 2 := fun e => n2 ⟨Or.inr o, e⟩
    rcases rf with x | ⟨x, _⟩
    · exact absurd x t2
    · have g1 := gd.1.1
      exact (ok.2.2.1 (3 + rq_h q) (by omega)).1 x
  · cases h
theorem mr_st_ok (hG : md_G g) (hM : md_M g) {q : mr_Q} (ok : mr_ok g q) (hl : rq_l q < mc_cc g) : mr_ok g (mr_st g q).1 ∧ rq_n (mr_st g q).1 ≤ rq_n q + 1 := by
  unfold mr_st
  split
  · exact ⟨ok, Nat.le_succ _⟩
  · rename_i gd
    have gd : mr_gd g q := Classical.byContradiction gd
    cases e : mr_rs g q with
    | some r =>
      obtain ⟨a, b, c, _⟩ := mr_rs_ok ok gd e
      obtain ⟨d, f⟩ := mr_rz_ok hM a b
      exact ⟨d, by dsimp only; omega⟩
    | none =>
      dsimp only
      split
      · exact ⟨ok, Nat.le_succ _⟩
      split
      · exact ⟨ok, Nat.le_succ _⟩
      · exact mr_nx_ok hG hM ok hl gd
end
end
section
/-! ===== rows sorted by swaps ===== -/
section
variable {β : Type}
/-- the same rows, in another order -/
def ms_P (m : Nat) (a : Nat → Nat) (b : Nat → β) (a' : Nat → Nat) (b' : Nat → β) : Prop := (∀ i, i < m → ∃ j, j < m ∧ a' i = a j ∧ b' i = b j) ∧ (∀ j, j < m → ∃ i, i < m ∧ a' i = a j ∧ b' i = b j)
theorem ms_Pr (m : Nat) (a : Nat → Nat) (b : Nat → β) : ms_P m a b a b := ⟨fun i hi => ⟨i, hi, rfl, rfl⟩, fun i hi => ⟨i, hi, rfl, rfl⟩⟩
theorem ms_Pt {m : Nat} {a a' a'' : Nat → Nat} {b b' b'' : Nat → β} (x : ms_P m a b a' b') (y : ms_P m a' b' a'' b'') : ms_P m a b a'' b'' := by
  refine ⟨fun i hi => ?_, fun j hj => ?_⟩
  · obtain ⟨k, hk, e1, e2⟩ := y.1 i hi
    obtain ⟨j, hj, e3, e4⟩ := x.1 k hk
    exact ⟨j, hj, e1.trans e3, e2.trans e4⟩
  · obtain ⟨k, hk, e1, e2⟩ := x.2 j hj
    obtain ⟨i, hi, e3, e4⟩ := y.2 k hk
    exact ⟨i, hi, e3.trans e1, e4.trans e2⟩
def ms_s (i j t : Nat) : Nat := if t = j then i else if t = i then j else t
theorem ms_s2 (i j t : Nat) : ms_s i j (ms_s i j t) = t := by
  unfold ms_s
  by_cases a : t = j
  · subst a
    by_cases b : i = t
    · subst b; simp
    · simp [b]
  · by_cases b : t = i
    · subst b; simp [a]
    · simp [a, b]
theorem ms_slt {i j t m : Nat} (hi : i < m) (hj : j < m) (ht : t < m) : ms_s i j t < m := by
  unfold ms_s
  split
  · exact hi
  · split
    · exact hj
    · exact ht
/-- a swap -/
theorem ms_sw {m i j : Nat} {a a' : Nat → Nat} {b b' : Nat → β} (hi : i < m) (hj : j < m) (ha : ∀ t, t < m → a' t = a (ms_s i j t)) (hb : ∀ t, t < m → b' t = b (ms_s i j t)) : ms_P m a b a' b' := by
  refine ⟨fun t ht => ⟨ms_s i j t, ms_slt hi hj ht, ha t ht, hb t ht⟩, fun t ht => ⟨ms_s i j t, ms_slt hi hj ht, ?_, ?_⟩⟩
  · rw [ha _ (ms_slt hi hj ht), ms_s2]
  · rw [hb _ (ms_slt hi hj ht), ms_s2]
def ms_inj (m : Nat) (a : Nat → Nat) : Prop := ∀ i j, i < m → j < m → a i = a j → i = j
theorem ms_swi {m i j : Nat} {a a' : Nat → Nat} (hi : i < m) (hj : j < m) (ha : ∀ t, t < m → a' t = a (ms_s i j t)) (h : ms_inj m a) : ms_inj m a' := by
  intro x y hx hy e
  rw [ha x hx, ha y hy] at e
  have := h _ _ (ms_slt hi hj hx) (ms_slt hi hj hy) e
  have e2 := congrArg (ms_s i j) this
  rw [ms_s2, ms_s2] at e2
  exact e2
theorem ms_upup (a : Nat → Nat) (i j t : Nat) : mf_up (mf_up a i (a j)) j (a i) t = a (ms_s i j t) := by
  unfold mf_up ms_s
  by_cases h : t = j
  · simp [h]
  · by_cases h2 : t = i
    · subst h2; simp [h]
    · simp [h, h2]
/-- insertion: the row with the held one put where the hole is -/
theorem ms_ins {kr : Nat → Nat} {k key : Nat} (t : Nat) : mf_up (mf_up kr (k + 1) (kr k)) k key t = mf_up kr (k + 1) key (ms_s k (k + 1) t) := by
  unfold mf_up ms_s
  by_cases h : t = k + 1
  · subst h; simp
  · by_cases h2 : t = k
    · subst h2; simp
    · simp [h, h2]
/-- sorted up to e but for the hole at k -/
def ms_H (e k : Nat) (a : Nat → Nat) : Prop := (∀ i j, i < j → j ≤ e → i ≠ k → j ≠ k → a i < a j) ∧ (∀ j, k < j → j ≤ e → a k < a j)
theorem ms_H_step {e k : Nat} {a a' : Nat → Nat} (he : k + 1 ≤ e) (h : ms_H e (k + 1) a) (hs : ∀ t, t ≤ e → a' t = a (ms_s k (k + 1) t)) (lt : a (k + 1) < a k) : ms_H e k a' := by
  obtain ⟨h1, h2⟩ := h
  have e1 : a' (k + 1) = a k := by rw [hs _ he]; unfold ms_s; simp
  have e2 : a' k = a (k + 1) := by rw [hs _ (by omega)]; unfold ms_s; simp
  have e3 : ∀ t, t ≤ e → t ≠ k → t ≠ k + 1 → a' t = a t := by
    intro t ht n1 n2; rw [hs t ht]; unfold ms_s; simp [n1, n2]
  refine ⟨fun i j hij hj ni nj => ?_, fun j hj hje => ?_⟩
  · by_cases c : i = k + 1
    · subst c
      rw [e1, e3 j hj nj (by omega)]
      exact h1 k j (by omega) hj (by omega) (by omega)
    · by_cases d : j = k + 1
      · subst d
        rw [e1, e3 i (by omega) ni c]
        exact h1 i k (by omega) (by omega) c (by omega)
      · rw [e3 i (by omega) ni c, e3 j hj nj d]
        exact h1 i j hij hj c d
  · rw [e2]
    by_cases d : j = k + 1
    · subst d; rw [e1]; exact lt
    · rw [e3 j hje (by omega) d]
      exact h2 j (by omega) hje
theorem ms_H_end {e k : Nat} {a : Nat → Nat} (hk : k ≤ e) (h : ms_H e k a) (lt : k = 0 ∨ a (k - 1) < a k) : ml_inc (e + 1) a := by
  obtain ⟨h1, h2⟩ := h
  intro i j hij hj
  by_cases c : i = k
  · subst c; exact h2 j hij (by omega)
  · by_cases d : j = k
    · subst d
      rcases lt with z | lt
      · omega
      · by_cases e' : i = j - 1
        · subst e'; exact lt
        · have := h1 i (j - 1) (by omega) (by omega) c (by omega)
          omega
    · exact h1 i j hij (by omega) c d
theorem ms_H_0 {e : Nat} {a : Nat → Nat} (h : ml_inc e a) : ms_H e e a := ⟨fun i j hij hj ni nj => h i j hij (by omega), fun j h1 h2 => by omega⟩
end
end
section
/-! ===== the first wrong place, from bits and from least numbers ===== -/
section
variable {g : md_C} {p : Nat}
theorem mw_1 {h : Nat} (a : md_f1 g p) : md_W g p h = 1 := by unfold md_W; rw [if_pos a]
theorem mw_2 {h : Nat} (a : ¬ md_f1 g p) (b : md_f2 g p h) : md_W g p h = 2 := by unfold md_W; rw [if_neg a, if_pos b]
theorem mw_3 {h : Nat} (a : ¬ md_f1 g p) (b : ¬ md_f2 g p h) (c : md_f3 g p h) : md_W g p h = 3 := by unfold md_W; rw [if_neg a, if_neg b, if_pos c]
theorem mw_4 {h : Nat} (a : ¬ md_f1 g p) (b : ¬ md_f2 g p h) (c : ¬ md_f3 g p h) (d : md_f4 g p) : md_W g p h = 4 := by unfold md_W; rw [if_neg a, if_neg b, if_neg c, if_pos d]
theorem mw_5 {h : Nat} (a : ¬ md_f1 g p) (b : ¬ md_f2 g p h) (c : ¬ md_f3 g p h) (d : ¬ md_f4 g p) (e : md_f5 g p) : md_W g p h = 5 := by unfold md_W; rw [if_neg a, if_neg b, if_neg c, if_neg d, if_pos e]
theorem mw_0 {h : Nat} (a : ¬ md_f1 g p) (b : ¬ md_f2 g p h) (c : ¬ md_f3 g p h) (d : ¬ md_f4 g p) (e : ¬ md_f5 g p) : md_W g p h = 0 := by unfold md_W; rw [if_neg a, if_neg b, if_neg c, if_neg d, if_neg e]
theorem mw_g2 {h : Nat} (a : ¬ md_f1 g p) : md_W g p h = 0 ∨ 2 ≤ md_W g p h := by
  unfold md_W; rw [if_neg a]
  repeat' split
  all_goals omega
theorem mw_g3 {h : Nat} (a : ¬ md_f1 g p) (b : ¬ md_f2 g p h) : md_W g p h = 0 ∨ 3 ≤ md_W g p h := by
  unfold md_W; rw [if_neg a, if_neg b]
  repeat' split
  all_goals omega
theorem mw_g4 {h : Nat} (a : ¬ md_f1 g p) (b : ¬ md_f2 g p h) (c : ¬ md_f3 g p h) : md_W g p h = 0 ∨ 4 ≤ md_W g p h := by
  unfold md_W; rw [if_neg a, if_neg b, if_neg c]
  repeat' split
  all_goals omega
theorem mw_g5 {h : Nat} (a : ¬ md_f1 g p) (b : ¬ md_f2 g p h) (c : ¬ md_f3 g p h) (d : ¬ md_f4 g p) : md_W g p h = 0 ∨ 5 ≤ md_W g p h := by
  unfold md_W; rw [if_neg a, if_neg b, if_neg c, if_neg d]
  repeat' split
  all_goals omega
/-- the lowest bit -/
def mw_low (a b c d e : Bool) : Nat := if a = true then 1 else if b = true then 2 else if c = true then 3 else if d = true then 4 else if e = true then 5 else 6
theorem mw_bits {a b c d e : Bool} {d0 : Nat} (r : md_R g p d0) (ha : a = true ↔ ∃ h, md_R g p h ∧ md_f1 g p) (hb : b = true ↔ ∃ h, md_R g p h ∧ md_f2 g p h) (hc : c = true ↔ ∃ h, md_R g p h ∧ md_f3 g p h) (hd : d = true ↔ ∃ h, md_R g p h ∧ md_f4 g p) (he : e = true ↔ ∃ h, md_R g p h ∧ md_f5 g p) (h : (a = true ∨ b = true ∨ c = true ∨ d = true ∨ e = true) ∨ ∃ h h', h ≠ h' ∧ md_R g p h ∧ md_R g p h') : ml_B g p (mw_low a b c d e) := by
  unfold mw_low
  have na : ¬ a = true → ¬ md_f1 g p := fun n f => n (ha.mpr ⟨_, r, f⟩)
  have nb : ¬ b = true → ∀ h, md_R g p h → ¬ md_f2 g p h := fun n h r f => n (hb.mpr ⟨_, r, f⟩)
  have nc : ¬ c = true → ∀ h, md_R g p h → ¬ md_f3 g p h := fun n h r f => n (hc.mpr ⟨_, r, f⟩)
  have nd : ¬ d = true → ¬ md_f4 g p := fun n f => n (hd.mpr ⟨_, r, f⟩)
  have ne : ¬ e = true → ¬ md_f5 g p := fun n f => n (he.mpr ⟨_, r, f⟩)
  by_cases xa : a = true
  · rw [if_pos xa]
    obtain ⟨h, rh, f⟩ := ha.mp xa
    exact Or.inl ⟨h, rh, mw_1 f, by omega, fun h' _ => Or.inr (by rw [mw_1 f]; omega)⟩
  rw [if_neg xa]
  by_cases xb : b = true
  · rw [if_pos xb]
    obtain ⟨h, rh, f⟩ := hb.mp xb
    exact Or.inl ⟨h, rh, mw_2 (na xa) f, by omega, fun h' _ => mw_g2 (na xa)⟩
  rw [if_neg xb]
  by_cases xc : c = true
  · rw [if_pos xc]
    obtain ⟨h, rh, f⟩ := hc.mp xc
    exact Or.inl ⟨h, rh, mw_3 (na xa) (nb xb h rh) f, by omega, fun h' r' => mw_g3 (na xa) (nb xb h' r')⟩
  rw [if_neg xc]
  by_cases xd : d = true
  · rw [if_pos xd]
    obtain ⟨h, rh, f⟩ := hd.mp xd
    exact Or.inl ⟨h, rh, mw_4 (na xa) (nb xb h rh) (nc xc h rh) f, by omega, fun h' r' => mw_g4 (na xa) (nb xb h' r') (nc xc h' r')⟩
  rw [if_neg xd]
  by_cases xe : e = true
  · rw [if_pos xe]
    obtain ⟨h, rh, f⟩ := he.mp xe
    exact Or.inl ⟨h, rh, mw_5 (na xa) (nb xb h rh) (nc xc h rh) (nd xd) f, by omega, fun h' r' => mw_g5 (na xa) (nb xb h' r') (nc xc h' r') (nd xd)⟩
  rw [if_neg xe]
  rcases h with (x | x | x | x | x) | x
  · exact absurd x xa
  · exact absurd x xb
  · exact absurd x xc
  · exact absurd x xd
  · exact absurd x xe
  · exact Or.inr ⟨rfl, fun h r' => mw_0 (na xa) (nb xb h r') (nc xc h r') (nd xd) (ne xe), x⟩
theorem mw_none {a b c d e : Bool} {d0 : Nat} (r : md_R g p d0) (ha : a = true ↔ ∃ h, md_R g p h ∧ md_f1 g p) (hb : b = true ↔ ∃ h, md_R g p h ∧ md_f2 g p h) (hc : c = true ↔ ∃ h, md_R g p h ∧ md_f3 g p h) (hd : d = true ↔ ∃ h, md_R g p h ∧ md_f4 g p) (he : e = true ↔ ∃ h, md_R g p h ∧ md_f5 g p) (h : ¬ ((a = true ∨ b = true ∨ c = true ∨ d = true ∨ e = true) ∨ ∃ h h', h ≠ h' ∧ md_R g p h ∧ md_R g p h')) : ∀ n, ¬ ml_B g p n := by
  intro n
  have xa : ¬ a = true := fun x => h (Or.inl (Or.inl x))
  have xb : ¬ b = true := fun x => h (Or.inl (Or.inr (Or.inl x)))
  have xc : ¬ c = true := fun x => h (Or.inl (Or.inr (Or.inr (Or.inl x))))
  have xd : ¬ d = true := fun x => h (Or.inl (Or.inr (Or.inr (Or.inr (Or.inl x)))))
  have xe : ¬ e = true := fun x => h (Or.inl (Or.inr (Or.inr (Or.inr (Or.inr x)))))
  have na : ¬ md_f1 g p := fun f => xa (ha.mpr ⟨_, r, f⟩)
  have nb : ∀ h, md_R g p h → ¬ md_f2 g p h := fun h r f => xb (hb.mpr ⟨_, r, f⟩)
  have nc : ∀ h, md_R g p h → ¬ md_f3 g p h := fun h r f => xc (hc.mpr ⟨_, r, f⟩)
  have nd : ¬ md_f4 g p := fun f => xd (hd.mpr ⟨_, r, f⟩)
  have ne : ¬ md_f5 g p := fun f => xe (he.mpr ⟨_, r, f⟩)
  rintro (⟨h', r', w, z, _⟩ | ⟨_, _, k⟩)
  · rw [mw_0 na (nb _ r') (nc _ r') nd ne] at w; omega
  · exact h (Or.inr k)
/-- the reference's least number -/
theorem mw_least {w : Nat} (h1 : ∀ h, md_R g p h → md_W g p h = 0 ∨ w ≤ md_W g p h) (h2 : w = 9 ∨ ∃ h, md_R g p h ∧ md_W g p h = w ∧ w ≠ 0) : (w ≠ 9 → ml_B g p w) ∧ (w = 9 → (∃ h h', h ≠ h' ∧ md_R g p h ∧ md_R g p h') → ml_B g p 6) ∧ (w = 9 → ¬ (∃ h h', h ≠ h' ∧ md_R g p h ∧ md_R g p h') → ∀ n, ¬ ml_B g p n) ∧ (w = 9 ∨ w ≤ 5) := by
  have z : w = 9 → ∀ h, md_R g p h → md_W g p h = 0 := by
    intro e h r
    have := h1 h r
    have := ml_W5 g p h
    omega
  refine ⟨fun n => ?_, fun e x => Or.inr ⟨rfl, z e, x⟩, fun e x n => ?_, ?_⟩
  · rcases h2 with x | ⟨h, r, a, b⟩
    · exact absurd x n
    · exact Or.inl ⟨h, r, a, b, h1⟩
  · rintro (⟨h', r', a, b, _⟩ | ⟨_, _, k⟩)
    · rw [z e _ r'] at a; omega
    · exact x k
  · rcases h2 with x | ⟨h, r, a, b⟩
    · exact Or.inl x
    · have := ml_W5 g p h
      right; omega
end
end
section
/-! ===== the class: numbers of instructions, keys ===== -/
section
theorem xb_t {A B : Prop} (h : A) : (¬ (1 : Int32) = 0 → A) ∧ ((1 : Int32) = 0 → B) := ⟨fun _ => h, fun z => absurd z (by decide)⟩
theorem xb_1 {A B : Prop} (h : B) : ((1 : Int32) = 0 → A) ∧ (¬ (1 : Int32) = 0 → B) := ⟨fun z => absurd z (by decide), fun _ => h⟩
theorem xb_0 {A B : Prop} (h : A) : ((0 : Int32) = 0 → A) ∧ (¬ (0 : Int32) = 0 → B) := ⟨fun _ => h, fun z => absurd rfl z⟩
theorem xb_m {A B : Prop} (h : A) : ((-1 : Int32) < 0 → A) ∧ (¬ (-1 : Int32) < 0 → B) := ⟨fun _ => h, fun z => absurd (by decide) z⟩
theorem xb_m' {A B : Prop} (h : B) : (0 ≤ (-1 : Int32) → A) ∧ (¬ 0 ≤ (-1 : Int32) → B) := ⟨fun z => absurd z (by decide), fun _ => h⟩
theorem xb_n {A B : Prop} {n : Nat} (hn : n < 2 ^ 31) (h : B) : (nI n < 0 → A) ∧ (¬ nI n < 0 → B) := ⟨fun z => absurd z (nI_pos hn), fun _ => h⟩
theorem xb_n' {A B : Prop} {n : Nat} (hn : n < 2 ^ 31) (h : A) : (0 ≤ nI n → A) ∧ (¬ 0 ≤ nI n → B) := ⟨fun _ => h, fun z => absurd (nI_pos' hn) z⟩
theorem xa_tk {post : Int32 → Prop} {o : Nat} (ho : o < 20) (h : post (nI (md_tk o))) : wpX_takes post (nI o) := by
  have : o = 0 ∨ o = 1 ∨ o = 2 ∨ o = 3 ∨ o = 4 ∨ o = 5 ∨ o = 6 ∨ o = 7 ∨ o = 8 ∨ o = 9 ∨ o = 10 ∨ o = 11 ∨ o = 12 ∨ o = 13 ∨ o = 14 ∨ o = 15 ∨ o = 16 ∨ o = 17 ∨ o = 18 ∨ o = 19 := by omega
  unfold wpX_takes
  rcases this with rfl | rfl | rfl | rfl | rfl | rfl | rfl | rfl | rfl | rfl | rfl | rfl | rfl | rfl | rfl | rfl | rfl | rfl | rfl | rfl <;> (repeat' (first | exact h | refine br_t (by decide) ?_ | refine br_f (by decide) ?_))
theorem xa_pu {post : Int32 → Prop} {o : Nat} (ho : o < 20) (h : post (nI (md_pu o))) : wpX_puts post (nI o) := by
  have : o = 0 ∨ o = 1 ∨ o = 2 ∨ o = 3 ∨ o = 4 ∨ o = 5 ∨ o = 6 ∨ o = 7 ∨ o = 8 ∨ o = 9 ∨ o = 10 ∨ o = 11 ∨ o = 12 ∨ o = 13 ∨ o = 14 ∨ o = 15 ∨ o = 16 ∨ o = 17 ∨ o = 18 ∨ o = 19 := by omega
  unfold wpX_puts
  rcases this with rfl | rfl | rfl | rfl | rfl | rfl | rfl | rfl | rfl | rfl | rfl | rfl | rfl | rfl | rfl | rfl | rfl | rfl | rfl | rfl <;> (repeat' (first | exact h | refine br_t (by decide) ?_ | refine br_f (by decide) ?_))
theorem xa_gb {post : Int32 → Prop} {o : Nat} (ho : o < 20) (h1 : md_gb o → post 1) (h0 : ¬ md_gb o → post 0) : wpX_goesBehind post (nI o) := by
  unfold wpX_goesBehind
  refine pk_lt o 12 (fun c => h1 (Or.inl c)) (fun c => pk_eq o 13 (fun d => h1 (Or.inr (Or.inl d))) (fun d => pk_eq o 14 (fun e => h1 (Or.inr (Or.inr e))) (fun e => h0 ?_)))
  unfold md_gb; omega
/-- key numbers -/
theorem xk_31 {a : Nat} (h : a < 4194304) : nI a &&& 31 = nI (a % 32) := pk_andN (by omega) 5 (by decide)
theorem xk_20 {a : Nat} (h : a < 4194304) : nI a >>> ((20 : Int32) &&& 31) = nI (a / 1048576) := pk_shrN (by omega) _ 20 (by decide)
theorem xk_s {a s : Nat} (h : a < 4194304) (hs : s < 32) : nI a >>> (nI s &&& 31) = nI (a / 2 ^ s) := pk_shrN (by omega) _ s (s_l s hs)
theorem xk_l {a s : Nat} (hs : s < 32) (h : a * 2 ^ s < 2 ^ 32) : nI a <<< (nI s &&& 31) = nI (a * 2 ^ s) := pk_shlN _ s (s_l s hs) h
theorem xx_n {n a b c i : Nat} (ha : a < 24) (hb : b < 24) (hc : c < 24) (hi : i < 24) : md_x n a b c i / 1048576 = n := by unfold md_x; omega
theorem xx_a {n a b c i : Nat} (ha : a < 24) (hb : b < 24) (hc : c < 24) (hi : i < 24) : md_x n a b c i / 32768 % 32 = a := by unfold md_x; omega
theorem xx_b {n a b c i : Nat} (hb : b < 24) (hc : c < 24) (hi : i < 24) : md_x n a b c i / 1024 % 32 = b := by unfold md_x; omega
theorem xx_c {n a b c i : Nat} (hc : c < 24) (hi : i < 24) : md_x n a b c i / 32 % 32 = c := by unfold md_x; omega
theorem xx_i {n a b c i : Nat} (hi : i < 24) : md_x n a b c i % 32 = i := by unfold md_x; omega
theorem mo_24 (x : Nat) : x % 24 < 24 := Nat.mod_lt x (by omega)
theorem xk_i (p : Nat) : md_kx p % 32 = p % 24 := xx_i (mo_24 _)
theorem xk_n (p : Nat) : md_kx p / 1048576 = md_n p := xx_n (mo_24 _) (mo_24 _) (mo_24 _) (mo_24 _)
theorem xk_c (p j : Nat) (hj : j < 3) : md_kx p / 2 ^ (20 - 5 * (j + 1)) % 32 = md_c p j := by
  have : j = 0 ∨ j = 1 ∨ j = 2 := by omega
  rcases this with rfl | rfl | rfl
  · exact xx_a (mo_24 _) (mo_24 _) (mo_24 _) (mo_24 _)
  · exact xx_b (mo_24 _) (mo_24 _) (mo_24 _)
  · exact xx_c (mo_24 _) (mo_24 _)
theorem xk_e (p : Nat) : md_kx p = 32 * md_e (md_e (md_e (fun x => x))) (p / 24) + p % 24 := md_kx_e p
theorem xk_ge (p : Nat) : p % 24 ≤ md_kx p := by rw [xk_e]; omega
theorem xk_at (p i : Nat) (hi : i < 24) : md_kx (md_at p i) = md_kx p - p % 24 + i := by
  have e : md_at p i % 24 = i := by unfold md_at; omega
  rw [xk_e, xk_e p, md_at24 hi, e]; omega
theorem xk_1 (p : Nat) (hi : p % 24 + 1 < 24) : md_kx (p + 1) = md_kx p + 1 := by
  have e1 : (p + 1) / 24 = p / 24 := by omega
  have e2 : (p + 1) % 24 = p % 24 + 1 := by omega
  rw [xk_e, xk_e p, e1, e2]; omega
end
end
section
/-! ===== the class: keys, jumps, faults ===== -/
section
variable {f_codeCount f_coverCount f_placeCount f_tooMany f_layAnswer f_wrongKind f_wrongKey f_grown f_frameDepth f_frameThere f_lastReason f_valueDepth f_objectCount f_hasRun f_begun f_nowAt f_endClass : Int32} {a_parent a_entry a_code a_operand a_coverFrom a_coverTo a_coverTarget a_coverClass a_placeKey a_placeDepth a_cameWith a_ledWith a_faults a_found a_hasFound a_kept a_hasMap a_frame a_kind a_value a_objectClass a_objectReady : Nat → Int32}
variable {g : md_C} {post : Int32 → Prop}
theorem xa_ckg {k n s j r : Nat} (hk : k < 4194304) (hn : k / 1048576 = n) (n0 : 0 < n) (n3 : n ≤ 3) (hs : s = 20 - 5 * n) (hj : k / 2 ^ s % 32 = j) (hr : 1048576 + j * 2 ^ s + k % 32 ≤ k) (e : k - 1048576 - j * 2 ^ s - k % 32 + j = r) (h : post (nI r)) : wpX_callerKey post (nI k) := by
  unfold wpX_callerKey
  refine nm_r (xk_20 hk) ?_
  rw [hn]
  refine pk_eq n 0 (fun c => absurd c (by omega)) (fun c => ?_)
  have e1 : (20 : Int32) - 5 * nI n = nI s := by
    show nI 20 - nI 5 * nI n = nI s
    rw [pk_mul, pk_sub (by omega), hs]
  refine nm_r e1 ?_
  have e2 : nI k >>> (nI s &&& 31) &&& 31 = nI j := by
    rw [xk_s hk (by omega), xk_31 (Nat.lt_of_le_of_lt (Nat.div_le_self _ _) hk), hj]
  refine nm_r e2 ?_
  have e3 : nI j <<< (nI s &&& 31) = nI (j * 2 ^ s) := xk_l (by omega) (by omega)
  rw [e3, xk_31 hk]
  have e4 : nI k - 1048576 - nI (j * 2 ^ s) - nI (k % 32) + nI j = nI r := by
    show nI k - nI 1048576 - nI (j * 2 ^ s) - nI (k % 32) + nI j = nI r
    rw [pk_sub (by omega), pk_sub (by omega), pk_sub (by omega), nI_add, e]
  rw [e4]; exact h
theorem xa_ck {p : Nat} (hG : mc_cc g ≤ 24) (hV : md_V g p) (hn : 0 < md_n p) (h : post (nI (md_kx (md_cl p)))) : wpX_callerKey post (nI (md_kx p)) := by
  rcases md_V4 hV with ⟨i, hi, rfl⟩ | ⟨a, i, ha, hi, rfl⟩ | ⟨a, b, i, ha, hb, hi, rfl⟩ | ⟨a, b, c, i, ha, hb, hc, hi, rfl⟩
  · exact absurd hn (by unfold md_n; rw [my_n (by omega) (by omega) (by omega) (by omega)]; omega)
  · rw [md_cl1 (by omega) (by omega), my_kx (by omega) (by omega) (by omega) (by omega)] at h
    rw [my_kx (by omega) (by omega) (by omega) (by omega)]
    refine xa_ckg (n := 1) (s := 15) (j := a) ?_ ?_ (by omega) (by omega) rfl ?_ ?_ ?_ h <;> unfold md_x <;> omega
  · rw [md_cl2 (by omega) (by omega) (by omega), my_kx (by omega) (by omega) (by omega) (by omega)] at h
    rw [my_kx (by omega) (by omega) (by omega) (by omega)]
    refine xa_ckg (n := 2) (s := 10) (j := b) ?_ ?_ (by omega) (by omega) rfl ?_ ?_ ?_ h <;> unfold md_x <;> omega
  · rw [md_cl3 (by omega) (by omega) (by omega) (by omega), my_kx (by omega) (by omega) (by omega) (by omega)] at h
    rw [my_kx (by omega) (by omega) (by omega) (by omega)]
    refine xa_ckg (n := 3) (s := 5) (j := c) ?_ ?_ (by omega) (by omega) rfl ?_ ?_ ?_ h <;> unfold md_x <;> omega
theorem xa_ck0 {p : Nat} (hp : p < 1327104) (hn : md_n p = 0) (h : post (-1)) : wpX_callerKey post (nI (md_kx p)) := by
  unfold wpX_callerKey
  refine nm_r (xk_20 (md_kxlt p hp)) ?_
  rw [xk_n, hn]
  exact br_t rfl h
theorem xa_co {p : Nat} {x : Int32} (hp : p < 1327104) (h0 : x = 0 → post (nI (md_n p))) (hj : ∀ j, j < md_n p → x = nI (j + 1) → post (nI (md_c p j))) (hm : ¬ x = 0 → (∀ j, j < md_n p → ¬ x = nI (j + 1)) → post (-1)) : wpX_callOf post (nI (md_kx p)) x := by
  have hk := md_kxlt p hp
  have hn4 : md_n p < 4 := by unfold md_n; omega
  unfold wpX_callOf
  refine nm_r (xk_20 hk) ?_
  rw [xk_n]
  refine br_c h0 (fun c => br_c (fun d => hm c (fun j hj e => ?_)) (fun d => ?_))
  · rw [e] at d; exact nI_pos (by omega) d
  · obtain ⟨i, hi, rfl⟩ := nI_of d
    refine pk_le i (md_n p) (fun l => ?_) (fun l => ?_)
    · obtain ⟨j, rfl⟩ : ∃ j, i = j + 1 := by
        cases i with
        | zero => exact absurd rfl c
        | succ j => exact ⟨j, rfl⟩
      have e1 : (20 : Int32) - 5 * nI (j + 1) = nI (20 - 5 * (j + 1)) := by
        show nI 20 - nI 5 * nI (j + 1) = _
        rw [pk_mul, pk_sub (by omega)]
      rw [e1, xk_s hk (by omega), xk_31 (Nat.lt_of_le_of_lt (Nat.div_le_self _ _) hk), xk_c p j (by omega)]
      exact hj j (by omega) rfl
    · refine hm c (fun j hj e => ?_)
      have := (nI_eq (by omega) (by omega)).mp e
      omega
theorem xa_isCalled {p i : Nat} (hp : p < 1327104) (hi : i < 24) (h1 : (∃ j, j < md_n p ∧ md_c p j = i) → post 1) (h0 : ¬ (∃ j, j < md_n p ∧ md_c p j = i) → post 0) : wpX_isCalled post (nI (md_kx p)) (nI i) := by
  have hn4 : md_n p < 4 := by unfold md_n; omega
  have hc24 : ∀ j, md_c p j < 24 := by
    intro j; unfold md_c; split
    · omega
    · split <;> omega
  unfold wpX_isCalled
  refine nm_r (xk_20 (md_kxlt p hp)) ?_
  rw [xk_n]
  have L : ∀ d k, k + d = 3 → (∀ j, j < k → j < md_n p → ¬ md_c p j = i) → wX_isCalled_7 post (nI (md_kx p)) (nI i) (nI (md_n p)) (d + 1) (nI (k + 1)) := by
    intro d
    induction d with
    | zero =>
      intro k hk hno
      refine pk_lt 3 (k + 1) (fun c => ?_) (fun c => ?_)
      · refine h0 ?_
        rintro ⟨j, hj, e⟩
        exact hno j (by omega) hj e
      · omega
    | succ d ih =>
      intro k hk hno
      refine pk_lt 3 (k + 1) (fun c => by omega) (fun c => ?_)
      refine pk_lt (md_n p) (k + 1) (fun e => ?_) (fun e => ?_)
      · refine h0 ?_
        rintro ⟨j, hj, e'⟩
        exact hno j (by omega) hj e'
      · refine xa_co hp (fun z => absurd z (nI_ne0 (by omega) (by omega))) (fun j hj e' => ?_) (fun _ z => absurd rfl (z k (by omega)))
        have ejk : k = j := by
          have := (nI_eq (by omega) (by omega)).mp e'
          omega
        subst ejk
        refine pk_eq (md_c p k) i (fun z => h1 ⟨k, hj, z⟩) (fun z => ?_) rfl rfl (by have := hc24 k; omega) (by omega)
        refine nm_r (nI_1 (k + 1)) (ih (k + 1) (by omega) (fun j' a b => ?_))
        by_cases q : j' = k
        · subst q; exact z
        · exact hno j' (by omega) b
  exact ⟨4, L 3 0 rfl (fun j hj => by omega)⟩
/-- jumps of a place with which nothing is wrong there -/
theorem xa_jk {p : Nat} (hG : md_G g) (hV : md_V g p) (n3 : mc_o g (p % 24) = 15 → ¬ md_n p = 3) (n0 : mc_o g (p % 24) = 16 → 0 < md_n p) (hr : mc_o g (p % 24) = 16 → md_cl p % 24 + 1 < 24) (hs : ∀ q, md_L g p = some q → post (nI (md_kx q))) (hn : md_L g p = none → post (-1)) : wpX_jumpKey post ((nI (mc_cc g)), (nI (mc_hc g)), f_placeCount, f_tooMany, f_layAnswer, f_wrongKind, f_wrongKey, f_grown, f_frameDepth, f_frameThere, f_lastReason, f_valueDepth, f_objectCount, f_hasRun, f_begun, f_nowAt, f_endClass, (ar (mc_p g)), (ar (mc_e g)), (ar (mc_o g)), (mc_r g), (ar (mc_f g)), (ar (mc_t g)), (ar (mc_g g)), (ar (mc_k g)), a_placeKey, a_placeDepth, a_cameWith, a_ledWith, a_faults, a_found, a_hasFound, a_kept, a_hasMap, a_frame, a_kind, a_value, a_objectClass, a_objectReady) (nI (md_kx p)) := by
  have hcc := hG.1
  have hp := md_Vlt hcc hV
  have hk := md_kxlt p hp
  have hi := md_Vi hcc hV
  have h20 := hG.2.2.1 (p % 24)
  have hn4 := md_Vn hcc hV
  unfold wpX_jumpKey
  dsimp only
  refine nm_r (xk_31 hk) ?_
  rw [xk_i]
  refine nm_r (xk_20 hk) ?_
  rw [xk_n]
  refine ⟨vp_in_nI (by omega) (by omega), nm_r (ar_at _ (by omega)) ?_⟩
  refine pk_lt (mc_o g (p % 24)) 12 (fun c => hn ?_) (fun c => ?_)
  · unfold md_L; rw [if_neg (by omega), if_neg (by omega), if_neg (by omega)]
  refine pk_lt 16 (mc_o g (p % 24)) (fun c2 => hn ?_) (fun c2 => ?_)
  · unfold md_L; rw [if_neg (by omega), if_neg (by omega), if_neg (by omega)]
  have go : mc_o g (p % 24) = 12 ∨ mc_o g (p % 24) = 13 ∨ mc_o g (p % 24) = 14 → wX_jumpKey_52 post (nI (md_kx p)) (nI (p % 24)) (nI (mc_cc g)) (nI (mc_hc g)) f_placeCount f_tooMany f_layAnswer f_wrongKind f_wrongKey f_grown f_frameDepth f_frameThere f_lastReason f_valueDepth f_objectCount f_hasRun f_begun f_nowAt f_endClass (ar (mc_p g)) (ar (mc_e g)) (ar (mc_o g)) (mc_r g) (ar (mc_f g)) (ar (mc_t g)) (ar (mc_g g)) (ar (mc_k g)) a_placeKey a_placeDepth a_cameWith a_ledWith a_faults a_found a_hasFound a_kept a_hasMap a_frame a_kind a_value a_objectClass a_objectReady := by
    intro c3
    obtain ⟨ha, hra⟩ := mn_lim24 hG (i := p % 24) (by omega)
    refine ⟨vp_in_nI (by omega) (by omega), ?_⟩
    rw [nI_clamp (by omega), hra, pk_sub (xk_ge p), nI_add]
    have := hs (md_at p (mc_a g (p % 24))) (by unfold md_L; rw [if_neg (by omega), if_neg (by omega), if_pos c3])
    rw [xk_at p _ ha] at this
    exact this
  refine pk_eq (mc_o g (p % 24)) 12 (fun d => go (by omega)) (fun d12 => ?_)
  refine pk_eq (mc_o g (p % 24)) 13 (fun d => go (by omega)) (fun d13 => ?_)
  refine pk_eq (mc_o g (p % 24)) 14 (fun d => go (by omega)) (fun d14 => ?_)
  refine pk_eq (mc_o g (p % 24)) 15 (fun d => ?_) (fun d15 => ?_)
  · obtain ⟨ha, hra⟩ := mn_lim24 hG (i := p % 24) (by omega)
    have hL := hs (md_dp p (mc_a g (p % 24))) (by unfold md_L; rw [if_pos d])
    have hn3 := n3 d
    have e1 : (20 : Int32) - 5 * (nI (md_n p) + 1) = nI (20 - 5 * (md_n p + 1)) := by
      show nI 20 - nI 5 * (nI (md_n p) + nI 1) = _
      rw [nI_add, pk_mul, pk_sub (by omega)]
    refine nm_r e1 ?_
    refine pk_lt (md_n p) 3 (fun _ => ?_) (fun c => by omega)
    refine ⟨vp_in_nI (by omega) (by omega), ?_⟩
    have e2 : nI (p % 24) <<< (nI (20 - 5 * (md_n p + 1)) &&& 31) = nI (p % 24 * 2 ^ (20 - 5 * (md_n p + 1))) := by
      refine xk_l (by omega) ?_
      have : md_n p = 0 ∨ md_n p = 1 ∨ md_n p = 2 := by omega
      rcases this with e | e | e <;> rw [e] <;> omega
    have e3 : nI (md_kx p) + 1048576 + nI (p % 24) <<< (nI (20 - 5 * (md_n p + 1)) &&& 31) - nI (p % 24) + mc_r g (nI (p % 24)).toNatClampNeg = nI (md_kx (md_dp p (mc_a g (p % 24)))) := by
      rw [nI_clamp (by omega), hra, e2]
      show nI (md_kx p) + nI 1048576 + _ - _ + _ = _
      rw [nI_add, nI_add, pk_sub (by omega), nI_add]
      refine congrArg nI ?_
      rcases md_V4 hV with ⟨i, hi', rfl⟩ | ⟨a, i, ha', hi', rfl⟩ | ⟨a, b, i, ha', hb', hi', rfl⟩ | ⟨a, b, c, i, ha', hb', hc', hi', rfl⟩
      · rw [my_i (by omega)] at ha ⊢
        rw [md_dp0 (by omega), my_kx (by omega) (by omega) (by omega) (by omega), my_kx (by omega) (by omega) (by omega) (by omega), show md_n (md_y 0 0 0 0 i) = 0 from my_n (by omega) (by omega) (by omega) (by omega)]
        unfold md_x; omega
      · rw [my_i (by omega)] at ha ⊢
        rw [md_dp1 (by omega) (by omega), my_kx (by omega) (by omega) (by omega) (by omega), my_kx (by omega) (by omega) (by omega) (by omega), show md_n (md_y 1 a 0 0 i) = 1 from my_n (by omega) (by omega) (by omega) (by omega)]
        unfold md_x; omega
      · rw [my_i (by omega)] at ha ⊢
        rw [md_dp2 (by omega) (by omega) (by omega), my_kx (by omega) (by omega) (by omega) (by omega), my_kx (by omega) (by omega) (by omega) (by omega), show md_n (md_y 2 a b 0 i) = 2 from my_n (by omega) (by omega) (by omega) (by omega)]
        unfold md_x; omega
      · exact absurd (my_n (by omega) (by omega) (by omega) (by omega)) hn3
    rw [e3]; exact hL
  refine pk_eq (mc_o g (p % 24)) 16 (fun d => ?_) (fun d16 => by omega)
  have h0 := n0 d
  refine pk_eq (md_n p) 0 (fun z => by omega) (fun _ => ?_)
  refine xa_ck hcc hV h0 ?_
  have := hs (md_cl p + 1) (by unfold md_L; rw [if_neg (by omega), if_pos d])
  rw [xk_1 _ (hr d)] at this
  rw [nI_1]; exact this
end
end
section
/-! ===== the class: what is wrong with so many values ===== -/
section
variable {f_codeCount f_coverCount f_placeCount f_tooMany f_layAnswer f_wrongKind f_wrongKey f_grown f_frameDepth f_frameThere f_lastReason f_valueDepth f_objectCount f_hasRun f_begun f_nowAt f_endClass : Int32} {a_parent a_entry a_code a_operand a_coverFrom a_coverTo a_coverTarget a_coverClass a_placeKey a_placeDepth a_cameWith a_ledWith a_faults a_found a_hasFound a_kept a_hasMap a_frame a_kind a_value a_objectClass a_objectReady : Nat → Int32}
variable {g : md_C} {post : Int32 → Prop}
theorem xf_o2 : ∀ a b c d e : Bool, nI (mb_fm a b c d e) ||| 2 = nI (mb_fm true b c d e) := by decide +kernel
theorem xf_o4 : ∀ a b c d e : Bool, nI (mb_fm a b c d e) ||| 4 = nI (mb_fm a true c d e) := by decide +kernel
theorem xf_o8 : ∀ a b c d e : Bool, nI (mb_fm a b c d e) ||| 8 = nI (mb_fm a b true d e) := by decide +kernel
theorem xf_o16 : ∀ a b c d e : Bool, nI (mb_fm a b c d e) ||| 16 = nI (mb_fm a b c true e) := by decide +kernel
theorem xf_o32 : ∀ a b c d e : Bool, nI (mb_fm a b c d e) ||| 32 = nI (mb_fm a b c d true) := by decide +kernel
def md_fb (g : md_C) (p h : Nat) : Nat := mb_fm (decide (md_f1 g p)) (decide (md_f2 g p h)) (decide (md_f3 g p h)) (decide (md_f4 g p)) (decide (md_f5 g p))
theorem xf_145 {p : Nat} {a b c d : Bool} (h20 : mc_o g (p % 24) < 20) (hn : md_n p ≤ 3) (h : post (nI (mb_fm a b c d (decide (md_f5 g p))))) : wX_faultsOf_145 post (nI (mc_o g (p % 24))) (nI (md_n p)) (nI (mb_fm a b c d false)) f_codeCount f_coverCount f_placeCount f_tooMany f_layAnswer f_wrongKind f_wrongKey f_grown f_frameDepth f_frameThere f_lastReason f_valueDepth f_objectCount f_hasRun f_begun f_nowAt f_endClass a_parent a_entry a_code a_operand a_coverFrom a_coverTo a_coverTarget a_coverClass a_placeKey a_placeDepth a_cameWith a_ledWith a_faults a_found a_hasFound a_kept a_hasMap a_frame a_kind a_value a_objectClass a_objectReady := by
  unfold wX_faultsOf_145
  refine pk_eq (mc_o g (p % 24)) 16 (fun c1 => pk_eq (md_n p) 0 (fun c2 => ?_) (fun c2 => ?_)) (fun c1 => ?_)
  · refine nm_r (xf_o32 a b c d false) ?_
    rw [decide_eq_true (show md_f5 g p from ⟨c1, c2⟩)] at h; exact h
  · rw [decide_eq_false (show ¬ md_f5 g p from fun z => c2 z.2)] at h; exact h
  · rw [decide_eq_false (show ¬ md_f5 g p from fun z => c1 z.1)] at h; exact h
theorem xf_117 {p : Nat} {a b c : Bool} (hp : p < 1327104) (h20 : mc_o g (p % 24) < 20) (hn : md_n p ≤ 3) (h : post (nI (mb_fm a b c (decide (md_f4 g p)) (decide (md_f5 g p))))) : wX_faultsOf_117 post (nI (md_kx p)) (nI (p % 24)) (nI (mc_o g (p % 24))) (nI (md_n p)) (nI (mb_fm a b c false false)) f_codeCount f_coverCount f_placeCount f_tooMany f_layAnswer f_wrongKind f_wrongKey f_grown f_frameDepth f_frameThere f_lastReason f_valueDepth f_objectCount f_hasRun f_begun f_nowAt f_endClass a_parent a_entry a_code a_operand a_coverFrom a_coverTo a_coverTarget a_coverClass a_placeKey a_placeDepth a_cameWith a_ledWith a_faults a_found a_hasFound a_kept a_hasMap a_frame a_kind a_value a_objectClass a_objectReady := by
  unfold wX_faultsOf_117
  have yes : md_f4 g p → wX_faultsOf_138 post (nI (mc_o g (p % 24))) (nI (md_n p)) (nI (mb_fm a b c false false)) f_codeCount f_coverCount f_placeCount f_tooMany f_layAnswer f_wrongKind f_wrongKey f_grown f_frameDepth f_frameThere f_lastReason f_valueDepth f_objectCount f_hasRun f_begun f_nowAt f_endClass a_parent a_entry a_code a_operand a_coverFrom a_coverTo a_coverTarget a_coverClass a_placeKey a_placeDepth a_cameWith a_ledWith a_faults a_found a_hasFound a_kept a_hasMap a_frame a_kind a_value a_objectClass a_objectReady := by
    intro f4
    unfold wX_faultsOf_138
    refine nm_r (xf_o16 a b c false false) (xf_145 h20 hn ?_)
    rw [decide_eq_true f4] at h; exact h
  have no : ¬ md_f4 g p → wX_faultsOf_145 post (nI (mc_o g (p % 24))) (nI (md_n p)) (nI (mb_fm a b c false false)) f_codeCount f_coverCount f_placeCount f_tooMany f_layAnswer f_wrongKind f_wrongKey f_grown f_frameDepth f_frameThere f_lastReason f_valueDepth f_objectCount f_hasRun f_begun f_nowAt f_endClass a_parent a_entry a_code a_operand a_coverFrom a_coverTo a_coverTarget a_coverClass a_placeKey a_placeDepth a_cameWith a_ledWith a_faults a_found a_hasFound a_kept a_hasMap a_frame a_kind a_value a_objectClass a_objectReady := by
    intro f4
    refine xf_145 h20 hn ?_
    rw [decide_eq_false f4] at h; exact h
  refine pk_eq (mc_o g (p % 24)) 15 (fun c1 => pk_le 3 (md_n p) (fun c2 => yes ⟨c1, Or.inl (by omega)⟩) (fun c2 => ?_)) (fun c1 => no (fun z => c1 z.1))
  refine xa_isCalled hp (by omega) (fun q => ?_) (fun q => ?_)
  · refine xb_1 (yes ⟨c1, Or.inr ?_⟩)
    obtain ⟨j, hj, e⟩ := q
    have : j = 0 ∨ j = 1 ∨ j = 2 := by omega
    rcases this with rfl | rfl | rfl
    · exact Or.inl ⟨by omega, e⟩
    · exact Or.inr (Or.inl ⟨by omega, e⟩)
    · exact Or.inr (Or.inr ⟨by omega, e⟩)
  · refine xb_0 (no ?_)
    rintro ⟨_, z | ⟨z1, z2⟩ | ⟨z1, z2⟩ | ⟨z1, z2⟩⟩
    · omega
    · exact q ⟨0, by omega, z2⟩
    · exact q ⟨1, by omega, z2⟩
    · exact q ⟨2, by omega, z2⟩
theorem xf_86 {p h : Nat} {a : Bool} (hp : p < 1327104) (h20 : mc_o g (p % 24) < 20) (hn : md_n p ≤ 3) (hh : h ≤ 6) (H : post (nI (mb_fm a (decide (md_f2 g p h)) (decide (md_f3 g p h)) (decide (md_f4 g p)) (decide (md_f5 g p))))) : wX_faultsOf_86 post (nI (md_kx p)) (nI (p % 24)) (nI (mc_o g (p % 24))) (nI (md_n p)) (nI h - nI (md_tk (mc_o g (p % 24)))) (nI (mb_fm a false false false false)) f_codeCount f_coverCount f_placeCount f_tooMany f_layAnswer f_wrongKind f_wrongKey f_grown f_frameDepth f_frameThere f_lastReason f_valueDepth f_objectCount f_hasRun f_begun f_nowAt f_endClass a_parent a_entry a_code a_operand a_coverFrom a_coverTo a_coverTarget a_coverClass a_placeKey a_placeDepth a_cameWith a_ledWith a_faults a_found a_hasFound a_kept a_hasMap a_frame a_kind a_value a_objectClass a_objectReady := by
  have t2 := md_tk2 (mc_o g (p % 24))
  have p2 := md_pu2 (mc_o g (p % 24))
  have P : ∀ b : Bool, b = decide (md_f2 g p h) → wX_faultsOf_97 post (nI (md_kx p)) (nI (p % 24)) (nI (mc_o g (p % 24))) (nI (md_n p)) (nI h - nI (md_tk (mc_o g (p % 24)))) (nI (mb_fm a b false false false)) f_codeCount f_coverCount f_placeCount f_tooMany f_layAnswer f_wrongKind f_wrongKey f_grown f_frameDepth f_frameThere f_lastReason f_valueDepth f_objectCount f_hasRun f_begun f_nowAt f_endClass a_parent a_entry a_code a_operand a_coverFrom a_coverTo a_coverTarget a_coverClass a_placeKey a_placeDepth a_cameWith a_ledWith a_faults a_found a_hasFound a_kept a_hasMap a_frame a_kind a_value a_objectClass a_objectReady := by
    intro b eb
    unfold wX_faultsOf_97
    refine xa_pu h20 ?_
    have I := mi_le6 h (by omega) _ (show md_tk (mc_o g (p % 24)) < 3 by omega) _ (show md_pu (mc_o g (p % 24)) < 3 by omega)
    refine br_c (fun c => ?_) (fun c => ?_)
    · rw [I] at c
      refine xf_117 hp h20 hn ?_
      rw [decide_eq_false (show ¬ md_f3 g p h by unfold md_f3; omega), ← eb] at H; exact H
    · rw [I] at c
      refine nm_r (xf_o8 a b false false false) (xf_117 hp h20 hn ?_)
      rw [decide_eq_true (show md_f3 g p h by unfold md_f3; omega), ← eb] at H; exact H
  unfold wX_faultsOf_86
  have I := mi_lt0 h (by omega) _ (show md_tk (mc_o g (p % 24)) < 3 by omega)
  refine br_c (fun c => ?_) (fun c => ?_)
  · have c' : ¬ nI h - nI (md_tk (mc_o g (p % 24))) < 0 := Int32.not_lt.mpr c
    rw [I] at c'
    exact P false (decide_eq_false c').symm
  · have c' : nI h - nI (md_tk (mc_o g (p % 24))) < 0 := Int32.not_le.mp c
    rw [I] at c'
    exact nm_r (xf_o4 a false false false false) (P true (decide_eq_true c').symm)
theorem xa_fo {p h : Nat} (hG : md_G g) (h0 : 0 < mc_cc g) (hV : md_V g p) (hh : h ≤ 6) (H : post (nI (md_fb g p h))) : wpX_faultsOf post ((nI (mc_cc g)), (nI (mc_hc g)), f_placeCount, f_tooMany, f_layAnswer, f_wrongKind, f_wrongKey, f_grown, f_frameDepth, f_frameThere, f_lastReason, f_valueDepth, f_objectCount, f_hasRun, f_begun, f_nowAt, f_endClass, (ar (mc_p g)), (ar (mc_e g)), (ar (mc_o g)), (mc_r g), (ar (mc_f g)), (ar (mc_t g)), (ar (mc_g g)), (ar (mc_k g)), a_placeKey, a_placeDepth, a_cameWith, a_ledWith, a_faults, a_found, a_hasFound, a_kept, a_hasMap, a_frame, a_kind, a_value, a_objectClass, a_objectReady) (nI (md_kx p)) (nI h) := by
  have hcc := hG.1
  have hp := md_Vlt hcc hV
  have hk := md_kxlt p hp
  have hi := md_Vi hcc hV
  have h20 := hG.2.2.1 (p % 24)
  have hn := md_Vn hcc hV
  unfold wpX_faultsOf
  dsimp only
  refine nm_r (xk_31 hk) ?_
  rw [xk_i]
  refine ⟨vp_in_nI (by omega) (by omega), nm_r (ar_at _ (by omega)) (nm_r (xk_20 hk) ?_)⟩
  rw [xk_n]
  refine xa_tk h20 (nm_e ?_)
  have S : ∀ b : Nat, b < 2 ^ 31 → (mc_cc g ≤ b ↔ md_f1 g p) → wX_faultsOf_71 post (nI (md_kx p)) (nI (p % 24)) (nI (mc_o g (p % 24))) (nI (md_n p)) (nI h - nI (md_tk (mc_o g (p % 24)))) 0 (nI b) (nI (mc_cc g)) (nI (mc_hc g)) f_placeCount f_tooMany f_layAnswer f_wrongKind f_wrongKey f_grown f_frameDepth f_frameThere f_lastReason f_valueDepth f_objectCount f_hasRun f_begun f_nowAt f_endClass (ar (mc_p g)) (ar (mc_e g)) (ar (mc_o g)) (mc_r g) (ar (mc_f g)) (ar (mc_t g)) (ar (mc_g g)) (ar (mc_k g)) a_placeKey a_placeDepth a_cameWith a_ledWith a_faults a_found a_hasFound a_kept a_hasMap a_frame a_kind a_value a_objectClass a_objectReady := by
    intro b hb I
    unfold wX_faultsOf_71
    refine pk_lt b (mc_cc g) (fun c => ?_) (fun c => ?_)
    · refine xf_86 (a := false) hp h20 hn hh ?_
      unfold md_fb at H
      rw [decide_eq_false (show ¬ md_f1 g p from fun z => by have := I.mpr z; omega)] at H; exact H
    · refine nm_r (xf_o2 false false false false false) (xf_86 (a := true) hp h20 hn hh ?_)
      unfold md_fb at H
      rw [decide_eq_true (I.mp c)] at H; exact H
  have T : ∀ b : Nat, b < 2 ^ 31 → (¬ mc_o g (p % 24) = 16 ∨ md_n p = 0 → (mc_cc g ≤ b ↔ md_f1 g p)) → wX_faultsOf_46 post (nI (md_kx p)) (nI (p % 24)) (nI (mc_o g (p % 24))) (nI (md_n p)) (nI h - nI (md_tk (mc_o g (p % 24)))) 0 (nI b) (nI (mc_cc g)) (nI (mc_hc g)) f_placeCount f_tooMany f_layAnswer f_wrongKind f_wrongKey f_grown f_frameDepth f_frameThere f_lastReason f_valueDepth f_objectCount f_hasRun f_begun f_nowAt f_endClass (ar (mc_p g)) (ar (mc_e g)) (ar (mc_o g)) (mc_r g) (ar (mc_f g)) (ar (mc_t g)) (ar (mc_g g)) (ar (mc_k g)) a_placeKey a_placeDepth a_cameWith a_ledWith a_faults a_found a_hasFound a_kept a_hasMap a_frame a_kind a_value a_objectClass a_objectReady := by
    intro b hb I
    unfold wX_faultsOf_46
    refine pk_eq (mc_o g (p % 24)) 16 (fun c => pk_le (md_n p) 0 (fun d => S b hb (I (Or.inr (by omega)))) (fun d => ?_)) (fun c => S b hb (I (Or.inl c)))
    refine xa_ck hcc hV d ?_
    obtain ⟨v, e, _⟩ := md_Vcl hcc hV d
    have hlt := md_Vi hcc v
    have e1 : (nI (md_kx (md_cl p)) &&& 31) + 1 = nI (md_cl p % 24 + 1) := by
      rw [xk_31 (md_kxlt _ (md_Vlt hcc v)), xk_i, nI_1]
    refine nm_r e1 (S _ (by omega) ?_)
    unfold md_f1 md_gb
    constructor
    · intro q; right; exact ⟨c, d, by omega⟩
    · rintro (⟨q1, q2⟩ | ⟨q1, q2, q3⟩)
      · omega
      · omega
  refine xa_gb h20 (fun b => xb_1 ?_) (fun b => xb_0 ?_)
  · rw [nI_1]
    refine T _ (by omega) (fun q => ?_)
    constructor
    · intro z; exact Or.inl ⟨b, by omega⟩
    · rintro (⟨_, q2⟩ | ⟨q1, q2, _⟩)
      · omega
      · omega
  · refine T 0 (by omega) (fun q => ?_)
    constructor
    · intro z; omega
    · rintro (⟨q1, q2⟩ | ⟨q1, q2, _⟩)
      · exact absurd q1 b
      · omega
end
end
section
/-! ===== the class: coming to places ===== -/
section
variable {f_codeCount f_coverCount f_placeCount f_tooMany f_layAnswer f_wrongKind f_wrongKey f_grown f_frameDepth f_frameThere f_lastReason f_valueDepth f_objectCount f_hasRun f_begun f_nowAt f_endClass : Int32} {a_parent a_entry a_code a_operand a_coverFrom a_coverTo a_coverTarget a_coverClass a_placeKey a_placeDepth a_cameWith a_ledWith a_faults a_found a_hasFound a_kept a_hasMap a_frame a_kind a_value a_objectClass a_objectReady : Nat → Int32}
variable {g : md_C}
/-- m, K, tooMany, raw keys, first depths, came, led, faults -/
abbrev mx_S : Type := Nat × (Nat → Nat) × Nat × (Nat → Nat) × (Nat → Nat) × (Nat → Nat) × (Nat → Nat) × (Nat → Nat)
def xs_m (s : mx_S) : Nat := s.1
def xs_K (s : mx_S) : Nat → Nat := s.2.1
def xs_t (s : mx_S) : Nat := s.2.2.1
def xs_kr (s : mx_S) : Nat → Nat := s.2.2.2.1
def xs_D (s : mx_S) : Nat → Nat := s.2.2.2.2.1
def xs_w (s : mx_S) : Nat → Nat := s.2.2.2.2.2.1
def xs_l (s : mx_S) : Nat → Nat := s.2.2.2.2.2.2.1
def xs_f (s : mx_S) : Nat → Nat := s.2.2.2.2.2.2.2
/-- the fault bits of a place that has led on with the depths in x -/
def mx_f1 (g : md_C) (p x f : Nat) : Prop := ∃ a b c d e : Bool, f = mb_fm a b c d e ∧ (a = true ↔ ∃ h, x.testBit h = true ∧ md_f1 g p) ∧ (b = true ↔ ∃ h, x.testBit h = true ∧ md_f2 g p h) ∧ (c = true ↔ ∃ h, x.testBit h = true ∧ md_f3 g p h) ∧ (d = true ↔ ∃ h, x.testBit h = true ∧ md_f4 g p) ∧ (e = true ↔ ∃ h, x.testBit h = true ∧ md_f5 g p)
def mx_J (g : md_C) (E : Nat → Nat → Prop) (s : mx_S) : Prop :=
  me_I g 40 (xs_t s = 1) E (xs_m s) (xs_K s) (xs_w s) (xs_l s) (xs_D s) ∧
  (∀ k, k < xs_m s → xs_kr s k = md_kx (xs_K s k)) ∧
  (∀ k, k < xs_m s → mx_f1 g (xs_K s k) (xs_l s k) (xs_f s k)) ∧
  (xs_t s = 0 ∨ xs_t s = 1 ∧ xs_m s = 40 ∧ ∃ p h, md_R g p h ∧ ∀ j, j < xs_m s → xs_K s j ≠ p)
/-- later states -/
def mx_le (s z : mx_S) : Prop := xs_m s ≤ xs_m z ∧ (∀ k, k < xs_m s → xs_K z k = xs_K s k ∧ xs_l z k = xs_l s k) ∧ me_mu 40 (xs_m z) (xs_l z) ≤ me_mu 40 (xs_m s) (xs_l s) ∧ (xs_t s = 1 → xs_t z = 1) ∧ (∀ q d, me_at (xs_m s) (xs_K s) (xs_w s) q d → me_at (xs_m z) (xs_K z) (xs_w z) q d)
theorem mx_ler (s : mx_S) : mx_le s s := ⟨Nat.le_refl _, fun _ _ => ⟨rfl, rfl⟩, Nat.le_refl _, fun h => h, fun _ _ h => h⟩
theorem mx_let {s z y : mx_S} (a : mx_le s z) (b : mx_le z y) : mx_le s y := by
  obtain ⟨a1, a2, a3, a4, a5⟩ := a
  obtain ⟨b1, b2, b3, b4, b5⟩ := b
  refine ⟨by omega, fun k hk => ?_, by omega, fun h => b4 (a4 h), fun q d h => b5 q d (a5 q d h)⟩
  have x := a2 k hk
  have y := b2 k (by omega)
  exact ⟨y.1.trans x.1, y.2.trans x.2⟩
theorem xa_placeOf {post : Int32 → Prop} {m : Nat} {kr : Nat → Nat} {x : Int32} (hm : m ≤ 40) (h1 : ∀ k, k < m → nI (kr k) = x → (∀ j, j < k → ¬ nI (kr j) = x) → post (nI k)) (h0 : (∀ j, j < m → ¬ nI (kr j) = x) → post (-1)) : wpX_placeOf post (f_codeCount, f_coverCount, (nI m), f_tooMany, f_layAnswer, f_wrongKind, f_wrongKey, f_grown, f_frameDepth, f_frameThere, f_lastReason, f_valueDepth, f_objectCount, f_hasRun, f_begun, f_nowAt, f_endClass, a_parent, a_entry, a_code, a_operand, a_coverFrom, a_coverTo, a_coverTarget, a_coverClass, (ar kr), a_placeDepth, a_cameWith, a_ledWith, a_faults, a_found, a_hasFound, a_kept, a_hasMap, a_frame, a_kind, a_value, a_objectClass, a_objectReady) x := by
  have L : ∀ d k, k + d = 40 → k ≤ m → (∀ j, j < k → ¬ nI (kr j) = x) → wX_placeOf_2 post x f_codeCount f_coverCount (nI m) f_tooMany f_layAnswer f_wrongKind f_wrongKey f_grown f_frameDepth f_frameThere f_lastReason f_valueDepth f_objectCount f_hasRun f_begun f_nowAt f_endClass a_parent a_entry a_code a_operand a_coverFrom a_coverTo a_coverTarget a_coverClass (ar kr) a_placeDepth a_cameWith a_ledWith a_faults a_found a_hasFound a_kept a_hasMap a_frame a_kind a_value a_objectClass a_objectReady (d + 1) (nI k) := by
    intro d
    induction d with
    | zero =>
      intro k hk hkm hno
      refine pk_le 40 k (fun _ => h0 (fun j hj => hno j (by omega))) (fun c => by omega)
    | succ d ih =>
      intro k hk hkm hno
      refine pk_le 40 k (fun c => by omega) (fun _ => pk_le m k (fun c => h0 (fun j hj => hno j (by omega))) (fun c => ⟨vp_in_nI (by omega) (by omega), ?_⟩))
      rw [ar_at kr (by omega)]
      refine br_c (fun e => h1 k c e hno) (fun e => nm_r (nI_1 k) (ih (k + 1) (by omega) (by omega) (fun j hj => ?_)))
      by_cases q : j = k
      · subst q; exact e
      · exact hno j (by omega)
  exact ⟨41, L 40 0 rfl (by omega) (fun j hj => by omega)⟩
/-- the place of a key -/
theorem xa_po {post : Int32 → Prop} {m p : Nat} {kr K : Nat → Nat} (hm : m ≤ 40) (hkr : ∀ k, k < m → kr k = md_kx (K k)) (hK : ∀ k, k < m → K k < 1327104) (hp : p < 1327104) (h1 : ∀ k, k < m → K k = p → post (nI k)) (h0 : (∀ j, j < m → K j ≠ p) → post (-1)) : wpX_placeOf post (f_codeCount, f_coverCount, (nI m), f_tooMany, f_layAnswer, f_wrongKind, f_wrongKey, f_grown, f_frameDepth, f_frameThere, f_lastReason, f_valueDepth, f_objectCount, f_hasRun, f_begun, f_nowAt, f_endClass, a_parent, a_entry, a_code, a_operand, a_coverFrom, a_coverTo, a_coverTarget, a_coverClass, (ar kr), a_placeDepth, a_cameWith, a_ledWith, a_faults, a_found, a_hasFound, a_kept, a_hasMap, a_frame, a_kind, a_value, a_objectClass, a_objectReady) (nI (md_kx p)) := by
  have I : ∀ k, k < m → (nI (kr k) = nI (md_kx p) ↔ K k = p) := by
    intro k hk
    have a := md_kxlt _ (hK k hk)
    have b := md_kxlt _ hp
    rw [hkr k hk, nI_eq (by omega) (by omega), md_kx_eq]
  refine xa_placeOf hm (fun k hk e _ => h1 k hk ((I k hk).mp e)) (fun h => h0 (fun j hj e => h j hj ((I j hj).mpr e)))
theorem xa_po_none {post : Int32 → Prop} {m : Nat} {kr K : Nat → Nat} (hm : m ≤ 40) (hkr : ∀ k, k < m → kr k = md_kx (K k)) (hK : ∀ k, k < m → K k < 1327104) (h0 : post (-1)) : wpX_placeOf post (f_codeCount, f_coverCount, (nI m), f_tooMany, f_layAnswer, f_wrongKind, f_wrongKey, f_grown, f_frameDepth, f_frameThere, f_lastReason, f_valueDepth, f_objectCount, f_hasRun, f_begun, f_nowAt, f_endClass, a_parent, a_entry, a_code, a_operand, a_coverFrom, a_coverTo, a_coverTarget, a_coverClass, (ar kr), a_placeDepth, a_cameWith, a_ledWith, a_faults, a_found, a_hasFound, a_kept, a_hasMap, a_frame, a_kind, a_value, a_objectClass, a_objectReady) (-1) := by
  refine xa_placeOf hm (fun k hk e _ => ?_) (fun _ => h0)
  exfalso
  have a := md_kxlt _ (hK k hk)
  rw [hkr k hk] at e
  have := nI_pos' (n := md_kx (K k)) (by omega)
  rw [e] at this
  exact absurd this (by decide)
theorem xe_KV {E : Nat → Nat → Prop} {s : mx_S} (hG : md_G g) (hM : md_M g) (J : mx_J g E s) {k : Nat} (hk : k < xs_m s) : md_V g (xs_K s k) :=
  (md_RV hG hM (J.1.2.2.2.1 k _ hk (J.1.2.2.2.2.2.2.2 k hk))).1
theorem xe_come {post : SX → Prop} {E : Nat → Nat → Prop} {s : mx_S} {p h : Nat} (hG : md_G g) (hM : md_M g) (J : mx_J g E s) (hE : ∀ k d, xs_m s ≤ k → ¬ E k d) (r : md_R g p h) (H : ∀ z : mx_S, mx_J g E z → mx_le s z → (xs_t z = 1 ∨ me_at (xs_m z) (xs_K z) (xs_w z) p h) → post ((nI (mc_cc g)), (nI (mc_hc g)), (nI (xs_m z)), (nI (xs_t z)), f_layAnswer, f_wrongKind, f_wrongKey, f_grown, f_frameDepth, f_frameThere, f_lastReason, f_valueDepth, f_objectCount, f_hasRun, f_begun, f_nowAt, f_endClass, (ar (mc_p g)), (ar (mc_e g)), (ar (mc_o g)), (mc_r g), (ar (mc_f g)), (ar (mc_t g)), (ar (mc_g g)), (ar (mc_k g)), (ar (xs_kr z)), (ar (xs_D z)), (ar (xs_w z)), (ar (xs_l z)), (ar (xs_f z)), a_found, a_hasFound, a_kept, a_hasMap, a_frame, a_kind, a_value, a_objectClass, a_objectReady)) : wpX_comeTo post ((nI (mc_cc g)), (nI (mc_hc g)), (nI (xs_m s)), (nI (xs_t s)), f_layAnswer, f_wrongKind, f_wrongKey, f_grown, f_frameDepth, f_frameThere, f_lastReason, f_valueDepth, f_objectCount, f_hasRun, f_begun, f_nowAt, f_endClass, (ar (mc_p g)), (ar (mc_e g)), (ar (mc_o g)), (mc_r g), (ar (mc_f g)), (ar (mc_t g)), (ar (mc_g g)), (ar (mc_k g)), (ar (xs_kr s)), (ar (xs_D s)), (ar (xs_w s)), (ar (xs_l s)), (ar (xs_f s)), a_found, a_hasFound, a_kept, a_hasMap, a_frame, a_kind, a_value, a_objectClass, a_objectReady) (nI (md_kx p)) (nI h) := by
  have hm := J.1.1
  obtain ⟨vp, hh⟩ := md_RV hG hM r
  have hp := md_Vlt hG.1 vp
  have hK : ∀ k, k < xs_m s → xs_K s k < 1327104 := fun k hk => md_Vlt hG.1 (xe_KV hG hM J hk)
  unfold wpX_comeTo
  dsimp only
  refine xa_po (K := xs_K s) hm J.2.1 hK hp (fun j hj e => ?_) (fun hn => ?_)
  · refine xb_n' (by omega) ⟨vp_in_nI (by omega) (by omega), vp_in_nI (by omega) (by omega), nm_r (e' := ar (mf_up (xs_w s) j (xs_w s j ||| 2 ^ h))) ?_ ?_⟩
    · rw [ar_at _ (by omega), mb_or (by omega), ar_ui _ _ (by omega)]
    · obtain ⟨I', at', up'⟩ := me_old J.1 hj e r hh (w' := mf_up (xs_w s) j (xs_w s j ||| 2 ^ h)) (fun k _ nk => up_n nk) up_s
      exact H (xs_m s, xs_K s, xs_t s, xs_kr s, xs_D s, mf_up (xs_w s) j (xs_w s j ||| 2 ^ h), xs_l s, xs_f s) ⟨I', J.2⟩ ⟨Nat.le_refl _, fun _ _ => ⟨rfl, rfl⟩, Nat.le_refl _, fun h => h, up'⟩ (Or.inr at')
  · refine xb_m' ?_
    refine pk_lt (xs_m s) 40 (fun hlt => ?_) (fun hge => ?_)
    · refine nm_r (nI_1 _) ⟨vp_in_nI (by omega) (by omega), nm_r (ar_ui _ _ (by omega)) ⟨vp_in_nI (by omega) (by omega), nm_r (ar_ui _ _ (by omega)) ⟨vp_in_nI (by omega) (by omega), nm_r (ar_ui _ 0 (by omega)) ⟨vp_in_nI (by omega) (by omega), nm_r (ar_ui _ 0 (by omega)) ⟨vp_in_nI (by omega) (by omega), nm_r (ar_ui _ 0 (by omega)) ?_⟩⟩⟩⟩⟩
      refine ⟨vp_in_nI (by omega) (by omega), vp_in_nI (by omega) (by omega), nm_r (e' := ar (mf_up (mf_up (xs_w s) (xs_m s) 0) (xs_m s) (2 ^ h))) ?_ ?_⟩
      · rw [ar_at _ (by omega), mb_or (by omega), ar_ui _ _ (by omega), up_s, Nat.zero_or]
      · have hs : ∀ k, k < xs_m s → mf_up (xs_K s) (xs_m s) p k = xs_K s k ∧ mf_up (mf_up (xs_w s) (xs_m s) 0) (xs_m s) (2 ^ h) k = xs_w s k ∧ mf_up (xs_l s) (xs_m s) 0 k = xs_l s k ∧ mf_up (xs_D s) (xs_m s) h k = xs_D s k := by
          intro k hk
          rw [up_n (by omega), up_n (by omega), up_n (by omega), up_n (by omega), up_n (by omega)]
          exact ⟨rfl, rfl, rfl, rfl⟩
        obtain ⟨I', at', up'⟩ := me_new J.1 hlt hn r hh hs up_s up_s up_s up_s (fun d => hE _ d (Nat.le_refl _))
        refine H (xs_m s + 1, mf_up (xs_K s) (xs_m s) p, xs_t s, mf_up (xs_kr s) (xs_m s) (md_kx p), mf_up (xs_D s) (xs_m s) h, mf_up (mf_up (xs_w s) (xs_m s) 0) (xs_m s) (2 ^ h), mf_up (xs_l s) (xs_m s) 0, mf_up (xs_f s) (xs_m s) 0) ⟨I', fun k hk => ?_, fun k hk => ?_, ?_⟩ ⟨Nat.le_succ _, fun k hk => ⟨(hs k hk).1, (hs k hk).2.2.1⟩, me_mu_new (fun k hk => (hs k hk).2.2.1) up_s, fun h => h, up'⟩ (Or.inr at')
        · show mf_up (xs_kr s) (xs_m s) (md_kx p) k = md_kx (mf_up (xs_K s) (xs_m s) p k)
          by_cases e : k = xs_m s
          · subst e; rw [up_s, up_s]
          · have hk' : k < xs_m s + 1 := hk
            rw [up_n e, up_n e]; exact J.2.1 k (by omega)
        · show mx_f1 g (mf_up (xs_K s) (xs_m s) p k) (mf_up (xs_l s) (xs_m s) 0 k) (mf_up (xs_f s) (xs_m s) 0 k)
          by_cases e : k = xs_m s
          · subst e; rw [up_s, up_s, up_s]
            refine ⟨false, false, false, false, false, rfl, ?_, ?_, ?_, ?_, ?_⟩ <;> simp
          · have hk' : k < xs_m s + 1 := hk
            rw [up_n e, up_n e, up_n e]; exact J.2.2.1 k (by omega)
        · left
          rcases J.2.2.2 with x | ⟨_, x, _⟩
          · exact x
          · omega
    · have e40 : xs_m s = 40 := by omega
      refine H (xs_m s, xs_K s, 1, xs_kr s, xs_D s, xs_w s, xs_l s, xs_f s) ⟨me_ov J.1 (fun _ => rfl), J.2.1, J.2.2.1, Or.inr ⟨rfl, e40, p, h, r, hn⟩⟩ ⟨Nat.le_refl _, fun _ _ => ⟨rfl, rfl⟩, Nat.le_refl _, fun _ => rfl, fun _ _ h => h⟩ (Or.inl rfl)
theorem xa_cov {post : Int32 → Prop} {x i : Nat} (hG : md_G g) (hx : x < 4) (hi : i < 24) (h1 : mc_f g x ≤ i ∧ i < mc_t g x → post 1) (h0 : ¬ (mc_f g x ≤ i ∧ i < mc_t g x) → post 0) : wpX_covers post ((nI (mc_cc g)), (nI (mc_hc g)), f_placeCount, f_tooMany, f_layAnswer, f_wrongKind, f_wrongKey, f_grown, f_frameDepth, f_frameThere, f_lastReason, f_valueDepth, f_objectCount, f_hasRun, f_begun, f_nowAt, f_endClass, (ar (mc_p g)), (ar (mc_e g)), (ar (mc_o g)), (mc_r g), (ar (mc_f g)), (ar (mc_t g)), (ar (mc_g g)), (ar (mc_k g)), a_placeKey, a_placeDepth, a_cameWith, a_ledWith, a_faults, a_found, a_hasFound, a_kept, a_hasMap, a_frame, a_kind, a_value, a_objectClass, a_objectReady) (nI x) (nI i) := by
  have hb := hG.2.2.2.2.1 x
  unfold wpX_covers
  dsimp only
  refine ⟨vp_in_nI (by omega) (by omega), ?_⟩
  rw [ar_at _ (by omega), ar_at _ (by omega)]
  refine pk_lt i (mc_f g x) (fun c => h0 (by omega)) (fun c => ⟨vp_in_nI (by omega) (by omega), pk_le (mc_t g x) i (fun d => h0 (by omega)) (fun d => h1 ⟨c, d⟩)⟩)
theorem xa_cgt {post : Int32 → Prop} {x p : Nat} (hG : md_G g) (hx : x < 4) (hp : p < 1327104) (h : post (nI (md_kx (md_at p (mc_g g x))))) : wpX_caughtKey post ((nI (mc_cc g)), (nI (mc_hc g)), f_placeCount, f_tooMany, f_layAnswer, f_wrongKind, f_wrongKey, f_grown, f_frameDepth, f_frameThere, f_lastReason, f_valueDepth, f_objectCount, f_hasRun, f_begun, f_nowAt, f_endClass, (ar (mc_p g)), (ar (mc_e g)), (ar (mc_o g)), (mc_r g), (ar (mc_f g)), (ar (mc_t g)), (ar (mc_g g)), (ar (mc_k g)), a_placeKey, a_placeDepth, a_cameWith, a_ledWith, a_faults, a_found, a_hasFound, a_kept, a_hasMap, a_frame, a_kind, a_value, a_objectClass, a_objectReady) (nI (md_kx p)) (nI x) := by
  have hb := hG.2.2.2.2.1 x
  unfold wpX_caughtKey
  dsimp only
  refine ⟨vp_in_nI (by omega) (by omega), ?_⟩
  rw [ar_at _ (by omega), xk_31 (md_kxlt p hp), xk_i, pk_sub (xk_ge p), nI_add]
  rw [xk_at p _ hb.2.2.1] at h
  exact h
end
end
section
/-! ===== the class: leading on, and all passes ===== -/
section
variable {f_codeCount f_coverCount f_placeCount f_tooMany f_layAnswer f_wrongKind f_wrongKey f_grown f_frameDepth f_frameThere f_lastReason f_valueDepth f_objectCount f_hasRun f_begun f_nowAt f_endClass : Int32} {a_parent a_entry a_code a_operand a_coverFrom a_coverTo a_coverTarget a_coverClass a_placeKey a_placeDepth a_cameWith a_ledWith a_faults a_found a_hasFound a_kept a_hasMap a_frame a_kind a_value a_objectClass a_objectReady : Nat → Int32}
variable {g : md_C}
def mx_dn (z : mx_S) (C : Nat → Nat → Prop) : Prop := ∀ p h, C p h → xs_t z = 1 ∨ me_at (xs_m z) (xs_K z) (xs_w z) p h
theorem mx_dnl {z y : mx_S} {C : Nat → Nat → Prop} (a : mx_le z y) (h : mx_dn z C) : mx_dn y C := by
  intro p d c
  rcases h p d c with x | x
  · exact Or.inl (a.2.2.2.1 x)
  · exact Or.inr (a.2.2.2.2 p d x)
def mx_T (g : md_C) (x p d p' h' : Nat) : Prop := (md_gb (mc_o g (p % 24)) ∧ p' = p + 1 ∧ h' = md_th g p d) ∨ (md_L g p = some p' ∧ h' = md_th g p d) ∨ (∃ y, y < x ∧ md_cv g y p ∧ p' = md_at p (mc_g g y) ∧ h' = 1)
theorem xe_108 {post : SX → Prop} {s : mx_S} {k d p : Nat} (hG : md_G g) (hM : md_M g) (hp : md_R g p d) (hW : md_W g p d = 0) (hk : k < xs_m s) (hKp : xs_K s k = p) (H : ∀ z : mx_S, mx_J g (fun _ _ => False) z → mx_le s z → post ((nI (mc_cc g)), (nI (mc_hc g)), (nI (xs_m z)), (nI (xs_t z)), f_layAnswer, f_wrongKind, f_wrongKey, f_grown, f_frameDepth, f_frameThere, f_lastReason, f_valueDepth, f_objectCount, f_hasRun, f_begun, f_nowAt, f_endClass, (ar (mc_p g)), (ar (mc_e g)), (ar (mc_o g)), (mc_r g), (ar (mc_f g)), (ar (mc_t g)), (ar (mc_g g)), (ar (mc_k g)), (ar (xs_kr z)), (ar (xs_D z)), (ar (xs_w z)), (ar (xs_l z)), (ar (xs_f z)), a_found, a_hasFound, a_kept, a_hasMap, a_frame, a_kind, a_value, a_objectClass, a_objectReady)) : ∀ e x, x + e = 4 → x ≤ mc_hc g → ∀ z : mx_S, mx_J g (fun k' d' => k' = k ∧ d' = d) z → mx_le s z → mx_dn z (mx_T g x p d) → wX_leadOn_108 post (nI (md_kx p)) (nI (p % 24)) (e + 1) (nI x) (nI (mc_cc g)) (nI (mc_hc g)) (nI (xs_m z)) (nI (xs_t z)) f_layAnswer f_wrongKind f_wrongKey f_grown f_frameDepth f_frameThere f_lastReason f_valueDepth f_objectCount f_hasRun f_begun f_nowAt f_endClass (ar (mc_p g)) (ar (mc_e g)) (ar (mc_o g)) (mc_r g) (ar (mc_f g)) (ar (mc_t g)) (ar (mc_g g)) (ar (mc_k g)) (ar (xs_kr z)) (ar (xs_D z)) (ar (xs_w z)) (ar (xs_l z)) (ar (xs_f z)) a_found a_hasFound a_kept a_hasMap a_frame a_kind a_value a_objectClass a_objectReady := by
  have vp := (md_RV hG hM hp).1
  have hhc := hG.2.1
  intro e
  induction e with
  | zero =>
    intro x hx hxc z J le dn
    refine pk_le 4 x (fun _ => ?_) (fun c => by omega)
    refine H z ⟨me_close J.1 (fun _ p' h' t => dn p' h' ?_), J.2⟩ le
    rw [(le.2.1 k hk).1, hKp] at t
    have : x = mc_hc g := by omega
    subst this; exact t
  | succ e ih =>
    intro x hx hxc z J le dn
    refine pk_le 4 x (fun c => by omega) (fun _ => pk_le (mc_hc g) x (fun c => ?_) (fun c => ?_))
    · refine H z ⟨me_close J.1 (fun _ p' h' t => dn p' h' ?_), J.2⟩ le
      rw [(le.2.1 k hk).1, hKp] at t
      have : x = mc_hc g := by omega
      subst this; exact t
    · refine xa_cov hG (by omega) (by omega) (fun cv => xb_1 ?_) (fun cv => xb_0 ?_)
      · refine xa_cgt hG (by omega) (md_Vlt hG.1 vp) ?_
        have r' : md_R g (md_at p (mc_g g x)) 1 := md_Rs hp ⟨hW, Or.inr (Or.inr ⟨x, by omega, cv, rfl, rfl⟩)⟩
        refine xe_come (h := 1) hG hM J (fun k' d' h1 h2 => ?_) r' (fun y Jy ley at' => ?_)
        · have := le.1; omega
        · refine nm_r (nI_1 x) (ih (x + 1) (by omega) (by omega) y Jy (mx_let le ley) ?_)
          rintro p' h' (t | t | ⟨i, hi, c1, c2, c3⟩)
          · exact mx_dnl ley dn p' h' (Or.inl t)
          · exact mx_dnl ley dn p' h' (Or.inr (Or.inl t))
          · by_cases ei : i = x
            · subst ei; rw [c2, c3]; exact at'
            · exact mx_dnl ley dn p' h' (Or.inr (Or.inr ⟨i, by omega, c1, c2, c3⟩))
      · refine nm_r (nI_1 x) (ih (x + 1) (by omega) (by omega) z J le ?_)
        rintro p' h' (t | t | ⟨i, hi, c1, c2, c3⟩)
        · exact dn p' h' (Or.inl t)
        · exact dn p' h' (Or.inr (Or.inl t))
        · by_cases ei : i = x
          · subst ei; exact absurd c1 cv
          · exact dn p' h' (Or.inr (Or.inr ⟨i, by omega, c1, c2, c3⟩))
theorem xe_83 {post : SX → Prop} {s : mx_S} {k d p : Nat} (hG : md_G g) (hM : md_M g) (hp : md_R g p d) (hW : md_W g p d = 0) (hk : k < xs_m s) (hKp : xs_K s k = p) (H : ∀ z : mx_S, mx_J g (fun _ _ => False) z → mx_le s z → post ((nI (mc_cc g)), (nI (mc_hc g)), (nI (xs_m z)), (nI (xs_t z)), f_layAnswer, f_wrongKind, f_wrongKey, f_grown, f_frameDepth, f_frameThere, f_lastReason, f_valueDepth, f_objectCount, f_hasRun, f_begun, f_nowAt, f_endClass, (ar (mc_p g)), (ar (mc_e g)), (ar (mc_o g)), (mc_r g), (ar (mc_f g)), (ar (mc_t g)), (ar (mc_g g)), (ar (mc_k g)), (ar (xs_kr z)), (ar (xs_D z)), (ar (xs_w z)), (ar (xs_l z)), (ar (xs_f z)), a_found, a_hasFound, a_kept, a_hasMap, a_frame, a_kind, a_value, a_objectClass, a_objectReady)) {z : mx_S} (J : mx_J g (fun k' d' => k' = k ∧ d' = d) z) (le : mx_le s z) (dn : mx_dn z (fun p' h' => md_L g p = some p' ∧ h' = md_th g p d)) : wX_leadOn_83 post (nI (md_kx p)) (nI (p % 24)) (nI (md_th g p d)) (nI (mc_cc g)) (nI (mc_hc g)) (nI (xs_m z)) (nI (xs_t z)) f_layAnswer f_wrongKind f_wrongKey f_grown f_frameDepth f_frameThere f_lastReason f_valueDepth f_objectCount f_hasRun f_begun f_nowAt f_endClass (ar (mc_p g)) (ar (mc_e g)) (ar (mc_o g)) (mc_r g) (ar (mc_f g)) (ar (mc_t g)) (ar (mc_g g)) (ar (mc_k g)) (ar (xs_kr z)) (ar (xs_D z)) (ar (xs_w z)) (ar (xs_l z)) (ar (xs_f z)) a_found a_hasFound a_kept a_hasMap a_frame a_kind a_value a_objectClass a_objectReady := by
  have vp := (md_RV hG hM hp).1
  have hi := md_Vi hG.1 vp
  have hcc := hG.1
  have f1 := (md_W0 hW).1
  unfold wX_leadOn_83
  refine ⟨vp_in_nI (by omega) (by omega), ?_⟩
  rw [ar_at _ (by omega)]
  refine xa_gb (hG.2.2.1 _) (fun b => xb_1 ?_) (fun b => xb_0 ?_)
  · have hlt : p % 24 + 1 < mc_cc g := by
      have : ¬ p % 24 + 1 = mc_cc g := fun e => f1 (Or.inl ⟨b, e⟩)
      omega
    rw [nI_1, ← xk_1 p (by omega)]
    have r' : md_R g (p + 1) (md_th g p d) := md_Rs hp ⟨hW, Or.inl ⟨b, rfl, rfl⟩⟩
    refine xe_come hG hM J (fun k' d' h1 h2 => ?_) r' (fun y Jy ley at' => ⟨5, ?_⟩)
    · have := le.1; omega
    · refine xe_108 hG hM hp hW hk hKp H 4 0 rfl (by omega) y Jy (mx_let le ley) ?_
      rintro p' h' (⟨_, c2, c3⟩ | t | ⟨i, hi, _⟩)
      · rw [c2, c3]; exact at'
      · exact mx_dnl ley dn p' h' t
      · omega
  · refine ⟨5, xe_108 hG hM hp hW hk hKp H 4 0 rfl (by omega) z J le ?_⟩
    rintro p' h' (⟨c, _⟩ | t | ⟨i, hi, _⟩)
    · exact absurd c b
    · exact dn p' h' t
    · omega
theorem mx_fold {p x f d : Nat} (F : mx_f1 g p x f) : ∃ f', nI f ||| nI (md_fb g p d) = nI f' ∧ mx_f1 g p (x ||| 2 ^ d) f' := by
  obtain ⟨a, b, c, e, i, rfl, h1, h2, h3, h4, h5⟩ := F
  refine ⟨_, mb_fmor _ _ _ _ _ _ _ _ _ _, ⟨_, _, _, _, _, rfl, ?_, ?_, ?_, ?_, ?_⟩⟩
  · rw [Bool.or_eq_true, h1, decide_eq_true_eq]
    constructor
    · rintro (⟨h, q, r⟩ | r)
      · exact ⟨h, mb_tb.mpr (Or.inl q), r⟩
      · exact ⟨d, mb_tb.mpr (Or.inr rfl), r⟩
    · rintro ⟨h, q, r⟩
      exact Or.inr r
  · rw [Bool.or_eq_true, h2, decide_eq_true_eq]
    constructor
    · rintro (⟨h, q, r⟩ | r)
      · exact ⟨h, mb_tb.mpr (Or.inl q), r⟩
      · exact ⟨d, mb_tb.mpr (Or.inr rfl), r⟩
    · rintro ⟨h, q, r⟩
      rcases mb_tb.mp q with q | q
      · exact Or.inl ⟨h, q, r⟩
      · subst q; exact Or.inr r
  · rw [Bool.or_eq_true, h3, decide_eq_true_eq]
    constructor
    · rintro (⟨h, q, r⟩ | r)
      · exact ⟨h, mb_tb.mpr (Or.inl q), r⟩
      · exact ⟨d, mb_tb.mpr (Or.inr rfl), r⟩
    · rintro ⟨h, q, r⟩
      rcases mb_tb.mp q with q | q
      · exact Or.inl ⟨h, q, r⟩
      · subst q; exact Or.inr r
  · rw [Bool.or_eq_true, h4, decide_eq_true_eq]
    constructor
    · rintro (⟨h, q, r⟩ | r)
      · exact ⟨h, mb_tb.mpr (Or.inl q), r⟩
      · exact ⟨d, mb_tb.mpr (Or.inr rfl), r⟩
    · rintro ⟨h, q, r⟩
      exact Or.inr r
  · rw [Bool.or_eq_true, h5, decide_eq_true_eq]
    constructor
    · rintro (⟨h, q, r⟩ | r)
      · exact ⟨h, mb_tb.mpr (Or.inl q), r⟩
      · exact ⟨d, mb_tb.mpr (Or.inr rfl), r⟩
    · rintro ⟨h, q, r⟩
      exact Or.inr r
theorem md_fb0 {p h : Nat} : nI (md_fb g p h) = 0 ↔ md_W g p h = 0 := by
  unfold md_fb
  rw [mb_fm0]
  simp only [decide_eq_false_iff_not]
  constructor
  · rintro ⟨a, b, c, d, e⟩; exact mw_0 a b c d e
  · exact md_W0
theorem xe_lead {post : SX → Prop} {s : mx_S} {k d : Nat} (hG : md_G g) (hM : md_M g) (J : mx_J g (fun _ _ => False) s) (hk : k < xs_m s) (hb : (xs_w s k).testBit d = true) (hnl : ¬ (xs_l s k).testBit d = true) (H : ∀ z : mx_S, mx_J g (fun _ _ => False) z → me_mu 40 (xs_m z) (xs_l z) < me_mu 40 (xs_m s) (xs_l s) → xs_m s ≤ xs_m z → post ((nI (mc_cc g)), (nI (mc_hc g)), (nI (xs_m z)), (nI (xs_t z)), f_layAnswer, f_wrongKind, f_wrongKey, f_grown, f_frameDepth, f_frameThere, f_lastReason, f_valueDepth, f_objectCount, f_hasRun, f_begun, f_nowAt, f_endClass, (ar (mc_p g)), (ar (mc_e g)), (ar (mc_o g)), (mc_r g), (ar (mc_f g)), (ar (mc_t g)), (ar (mc_g g)), (ar (mc_k g)), (ar (xs_kr z)), (ar (xs_D z)), (ar (xs_w z)), (ar (xs_l z)), (ar (xs_f z)), a_found, a_hasFound, a_kept, a_hasMap, a_frame, a_kind, a_value, a_objectClass, a_objectReady)) : wpX_leadOn post ((nI (mc_cc g)), (nI (mc_hc g)), (nI (xs_m s)), (nI (xs_t s)), f_layAnswer, f_wrongKind, f_wrongKey, f_grown, f_frameDepth, f_frameThere, f_lastReason, f_valueDepth, f_objectCount, f_hasRun, f_begun, f_nowAt, f_endClass, (ar (mc_p g)), (ar (mc_e g)), (ar (mc_o g)), (mc_r g), (ar (mc_f g)), (ar (mc_t g)), (ar (mc_g g)), (ar (mc_k g)), (ar (xs_kr s)), (ar (xs_D s)), (ar (xs_w s)), (ar (mf_up (xs_l s) k (xs_l s k ||| 2 ^ d))), (ar (xs_f s)), a_found, a_hasFound, a_kept, a_hasMap, a_frame, a_kind, a_value, a_objectClass, a_objectReady) (nI k) (nI d) := by
  have hcc := hG.1
  have hm := J.1.1
  have r := J.1.2.2.2.1 k d hk hb
  obtain ⟨vp, hd⟩ := md_RV hG hM r
  have hkr := J.2.1 k hk
  obtain ⟨f', ef, Ff⟩ := mx_fold (d := d) (J.2.2.1 k hk)
  have JK : ∀ p, p = xs_K s k → md_R g p d → md_V g p → wpX_leadOn post ((nI (mc_cc g)), (nI (mc_hc g)), (nI (xs_m s)), (nI (xs_t s)), f_layAnswer, f_wrongKind, f_wrongKey, f_grown, f_frameDepth, f_frameThere, f_lastReason, f_valueDepth, f_objectCount, f_hasRun, f_begun, f_nowAt, f_endClass, (ar (mc_p g)), (ar (mc_e g)), (ar (mc_o g)), (mc_r g), (ar (mc_f g)), (ar (mc_t g)), (ar (mc_g g)), (ar (mc_k g)), (ar (xs_kr s)), (ar (xs_D s)), (ar (xs_w s)), (ar (mf_up (xs_l s) k (xs_l s k ||| 2 ^ d))), (ar (xs_f s)), a_found, a_hasFound, a_kept, a_hasMap, a_frame, a_kind, a_value, a_objectClass, a_objectReady) (nI k) (nI d) := by
    intro p ep r vp
    rw [← ep] at hkr ef Ff
    have hp := md_Vlt hcc vp
    have hkx := md_kxlt p hp
    have hi := md_Vi hcc vp
    have h20 := hG.2.2.1 (p % 24)
    let s2 : mx_S := (xs_m s, xs_K s, xs_t s, xs_kr s, xs_D s, xs_w s, mf_up (xs_l s) k (xs_l s k ||| 2 ^ d), mf_up (xs_f s) k f')
    have J2 : mx_J g (fun k' d' => k' = k ∧ d' = d) s2 := by
      refine ⟨me_mark J.1 hk hb (fun k' _ nk => up_n nk) up_s, J.2.1, fun k' hk' => ?_, J.2.2.2⟩
      show mx_f1 g (xs_K s k') (mf_up (xs_l s) k (xs_l s k ||| 2 ^ d) k') (mf_up (xs_f s) k f' k')
      by_cases e : k' = k
      · subst e; rw [up_s, up_s, ← ep]; exact Ff
      · rw [up_n e, up_n e]; exact J.2.2.1 k' hk'
    have mu2 : me_mu 40 (xs_m s2) (xs_l s2) < me_mu 40 (xs_m s) (xs_l s) := me_mu_mark hm hk (by omega) hnl (fun k' _ nk => up_n nk) up_s
    have H2 : ∀ z : mx_S, mx_J g (fun _ _ => False) z → mx_le s2 z → post ((nI (mc_cc g)), (nI (mc_hc g)), (nI (xs_m z)), (nI (xs_t z)), f_layAnswer, f_wrongKind, f_wrongKey, f_grown, f_frameDepth, f_frameThere, f_lastReason, f_valueDepth, f_objectCount, f_hasRun, f_begun, f_nowAt, f_endClass, (ar (mc_p g)), (ar (mc_e g)), (ar (mc_o g)), (mc_r g), (ar (mc_f g)), (ar (mc_t g)), (ar (mc_g g)), (ar (mc_k g)), (ar (xs_kr z)), (ar (xs_D z)), (ar (xs_w z)), (ar (xs_l z)), (ar (xs_f z)), a_found, a_hasFound, a_kept, a_hasMap, a_frame, a_kind, a_value, a_objectClass, a_objectReady) := by
      intro z Jz le
      exact H z Jz (Nat.lt_of_le_of_lt le.2.2.1 mu2) le.1
    unfold wpX_leadOn
    dsimp only
    refine ⟨vp_in_nI (by omega) (by omega), nm_r (e' := nI (md_kx p)) (by rw [ar_at _ (by omega), hkr]) ?_⟩
    refine nm_r (e' := nI (p % 24)) (by rw [xk_31 hkx, xk_i]) ?_
    refine xa_fo hG hM.1 vp hd ?_
    refine ⟨vp_in_nI (by omega) (by omega), vp_in_nI (by omega) (by omega), nm_r (e' := ar (mf_up (xs_f s) k f')) (by rw [ar_at _ (by omega), ef, ar_ui _ _ (by omega)]) ?_⟩
    refine br_c (fun c => ?_) (fun c => ?_)
    · have W0 := md_fb0.mp c
      obtain ⟨f1, f2, f3, f4, f5⟩ := md_W0 W0
      have t2 := md_tk2 (mc_o g (p % 24))
      have p2 := md_pu2 (mc_o g (p % 24))
      refine ⟨vp_in_nI (by omega) (by omega), ?_⟩
      rw [ar_at _ (by omega)]
      refine xa_tk h20 ⟨vp_in_nI (by omega) (by omega), xa_pu h20 ?_⟩
      refine nm_r (e' := nI (md_th g p d)) (mi_add d (by omega) _ (by omega) _ (by omega) (by omega)) ?_
      have hn0 : mc_o g (p % 24) = 16 → 0 < md_n p := fun o => Nat.pos_of_ne_zero (fun z => f5 ⟨o, z⟩)
      refine xa_jk hG vp (fun o z => f4 ⟨o, Or.inl z⟩) hn0 (fun o => ?_) (fun q hq => ?_) (fun hq => ?_)
      · obtain ⟨v, e, _⟩ := md_Vcl hcc vp (hn0 o)
        have := md_Vi hcc v
        have : ¬ md_c p (md_n p - 1) + 1 = mc_cc g := fun z => f1 (Or.inr ⟨o, hn0 o, z⟩)
        omega
      · have r' : md_R g q (md_th g p d) := md_Rs r ⟨W0, Or.inr (Or.inl ⟨hq, rfl⟩)⟩
        have vq := (md_RV hG hM r').1
        have := md_kxlt q (md_Vlt hcc vq)
        refine xb_n (by omega) ?_
        refine xe_come (s := s2) hG hM J2 (fun k' d' h1 h2 => ?_) r' (fun y Jy ley at' => ?_)
        · have h1' : xs_m s ≤ k' := h1
          omega
        · refine xe_83 hG hM r W0 (s := s2) hk ep.symm H2 Jy ley ?_
          rintro p' h' ⟨c1, c2⟩
          rw [hq] at c1
          cases c1
          rw [c2]; exact at'
      · refine xb_m (xe_83 hG hM r W0 (s := s2) hk ep.symm H2 J2 (mx_ler s2) ?_)
        rintro p' h' ⟨c1, c2⟩
        rw [hq] at c1
        cases c1
    · have W1 : ¬ md_W g p d = 0 := fun z => c (md_fb0.mpr z)
      refine H2 s2 ⟨me_close J2.1 (fun z => ?_), J2.2⟩ (mx_ler s2)
      have z' : md_W g (xs_K s k) d = 0 := z
      rw [← ep] at z'
      exact absurd z' W1
  exact JK _ rfl r vp
end
end
section
/-! ===== the class: all passes of coming to places ===== -/
section
variable {f_codeCount f_coverCount f_placeCount f_tooMany f_layAnswer f_wrongKind f_wrongKey f_grown f_frameDepth f_frameThere f_lastReason f_valueDepth f_objectCount f_hasRun f_begun f_nowAt f_endClass : Int32} {a_parent a_entry a_code a_operand a_coverFrom a_coverTo a_coverTarget a_coverClass a_placeKey a_placeDepth a_cameWith a_ledWith a_faults a_found a_hasFound a_kept a_hasMap a_frame a_kind a_value a_objectClass a_objectReady : Nat → Int32}
variable {g : md_C}
def mx_mu (s : mx_S) : Nat := me_mu 40 (xs_m s) (xs_l s)
def mx_cl (s : mx_S) : Prop := ∀ k d, k < xs_m s → (xs_w s k).testBit d = true → (xs_l s k).testBit d = true
/-- within a pass that began at s: x1 says whether something led on -/
def mx_Q (s : mx_S) (k d : Nat) (x1 : Int32) (z : mx_S) : Prop := (x1 = 1 ∧ mx_mu z < mx_mu s) ∨ (x1 = 0 ∧ z = s ∧ ∀ k' d', k' < xs_m z → (k' < k ∨ k' = k ∧ d' < d) → (xs_w z k').testBit d' = true → (xs_l z k').testBit d' = true)
theorem xe_53 {post : SX → Prop} {s : mx_S} {k : Nat} {x2 : Int32} {J15 : _} {J36 : _} (hG : md_G g) (hM : md_M g) (H : ∀ x1 z, mx_J g (fun _ _ => False) z → mx_Q s (k + 1) 0 x1 z → J36 x1 (nI (k + 1)) (nI (mc_cc g)) (nI (mc_hc g)) (nI (xs_m z)) (nI (xs_t z)) f_layAnswer f_wrongKind f_wrongKey f_grown f_frameDepth f_frameThere f_lastReason f_valueDepth f_objectCount f_hasRun f_begun f_nowAt f_endClass (ar (mc_p g)) (ar (mc_e g)) (ar (mc_o g)) (mc_r g) (ar (mc_f g)) (ar (mc_t g)) (ar (mc_g g)) (ar (mc_k g)) (ar (xs_kr z)) (ar (xs_D z)) (ar (xs_w z)) (ar (xs_l z)) (ar (xs_f z)) a_found a_hasFound a_kept a_hasMap a_frame a_kind a_value a_objectClass a_objectReady) : ∀ e d, d + e = 7 → ∀ x1 z, mx_J g (fun _ _ => False) z → k < xs_m z → mx_Q s k d x1 z → wX_comeToPlaces_53 post J15 J36 x2 (nI k) (e + 1) x1 (nI d) (nI (mc_cc g)) (nI (mc_hc g)) (nI (xs_m z)) (nI (xs_t z)) f_layAnswer f_wrongKind f_wrongKey f_grown f_frameDepth f_frameThere f_lastReason f_valueDepth f_objectCount f_hasRun f_begun f_nowAt f_endClass (ar (mc_p g)) (ar (mc_e g)) (ar (mc_o g)) (mc_r g) (ar (mc_f g)) (ar (mc_t g)) (ar (mc_g g)) (ar (mc_k g)) (ar (xs_kr z)) (ar (xs_D z)) (ar (xs_w z)) (ar (xs_l z)) (ar (xs_f z)) a_found a_hasFound a_kept a_hasMap a_frame a_kind a_value a_objectClass a_objectReady := by
  intro e
  induction e with
  | zero =>
    intro d hd x1 z J hk Q
    refine pk_lt 6 d (fun _ => nm_r (nI_1 k) (H x1 z J ?_)) (fun c => by omega)
    rcases Q with ⟨a, b⟩ | ⟨a, b, c⟩
    · exact Or.inl ⟨a, b⟩
    · refine Or.inr ⟨a, b, fun k' d' hk' o hb => ?_⟩
      rcases o with o | ⟨_, o⟩
      · by_cases ek : k' = k
        · have := mb_ext (J.1.2.1 k' hk').1 hb
          exact c k' d' hk' (Or.inr ⟨ek, by omega⟩) hb
        · exact c k' d' hk' (Or.inl (by omega)) hb
      · omega
  | succ e ih =>
    intro d hd x1 z J hk Q
    have hm := J.1.1
    have hw := J.1.2.1 k hk
    refine pk_lt 6 d (fun c => by omega) (fun _ => nm_e ⟨vp_in_nI (by omega) (by omega), vp_in_nI (by omega) (by omega), ?_⟩)
    rw [ar_at _ (by omega), ar_at _ (by omega)]
    refine br_c (fun c => ?_) (fun c => ?_)
    · rw [mb_open hw.1 (by omega)] at c
      refine nm_r (nI_1 d) (ih (d + 1) (by omega) x1 z J hk ?_)
      rcases Q with ⟨a, b⟩ | ⟨a, b, f⟩
      · exact Or.inl ⟨a, b⟩
      · refine Or.inr ⟨a, b, fun k' d' hk' o hb => ?_⟩
        by_cases q : k' = k ∧ d' = d
        · obtain ⟨rfl, rfl⟩ := q
          exact Classical.byContradiction (fun n => c ⟨hb, n⟩)
        · exact f k' d' hk' (by omega) hb
    · rw [mb_open hw.1 (by omega)] at c
      have c' : (xs_w z k).testBit d = true ∧ ¬ (xs_l z k).testBit d = true := Classical.byContradiction c
      refine ⟨vp_in_nI (by omega) (by omega), vp_in_nI (by omega) (by omega), nm_r (e' := ar (mf_up (xs_l z) k (xs_l z k ||| 2 ^ d))) ?_ ?_⟩
      · rw [mb_or (by omega), ar_ui _ _ (by omega)]
      · refine xe_lead hG hM J hk c'.1 c'.2 (fun y Jy mu le => ?_)
        refine nm_r (nI_1 d) (ih (d + 1) (by omega) 1 y Jy (by omega) (Or.inl ⟨rfl, ?_⟩))
        have mu' : mx_mu y < mx_mu z := mu
        rcases Q with ⟨a, b⟩ | ⟨a, b, f⟩
        · omega
        · rw [b] at mu'; exact mu'
theorem xe_36 {post : SX → Prop} {s : mx_S} {x2 : Nat} {J15 : _} (hG : md_G g) (hM : md_M g) (H : ∀ x1 z, mx_J g (fun _ _ => False) z → (x1 = 1 ∧ mx_mu z < mx_mu s) ∨ (x1 = 0 ∧ z = s ∧ mx_cl z) → J15 x1 (nI (x2 + 1)) (nI (mc_cc g)) (nI (mc_hc g)) (nI (xs_m z)) (nI (xs_t z)) f_layAnswer f_wrongKind f_wrongKey f_grown f_frameDepth f_frameThere f_lastReason f_valueDepth f_objectCount f_hasRun f_begun f_nowAt f_endClass (ar (mc_p g)) (ar (mc_e g)) (ar (mc_o g)) (mc_r g) (ar (mc_f g)) (ar (mc_t g)) (ar (mc_g g)) (ar (mc_k g)) (ar (xs_kr z)) (ar (xs_D z)) (ar (xs_w z)) (ar (xs_l z)) (ar (xs_f z)) a_found a_hasFound a_kept a_hasMap a_frame a_kind a_value a_objectClass a_objectReady) : ∀ e k, k + e = 40 → ∀ x1 z, mx_J g (fun _ _ => False) z → mx_Q s k 0 x1 z → wX_comeToPlaces_36 post J15 (nI x2) (e + 1) x1 (nI k) (nI (mc_cc g)) (nI (mc_hc g)) (nI (xs_m z)) (nI (xs_t z)) f_layAnswer f_wrongKind f_wrongKey f_grown f_frameDepth f_frameThere f_lastReason f_valueDepth f_objectCount f_hasRun f_begun f_nowAt f_endClass (ar (mc_p g)) (ar (mc_e g)) (ar (mc_o g)) (mc_r g) (ar (mc_f g)) (ar (mc_t g)) (ar (mc_g g)) (ar (mc_k g)) (ar (xs_kr z)) (ar (xs_D z)) (ar (xs_w z)) (ar (xs_l z)) (ar (xs_f z)) a_found a_hasFound a_kept a_hasMap a_frame a_kind a_value a_objectClass a_objectReady := by
  have fin : ∀ k x1 z, xs_m z ≤ k → mx_Q s k 0 x1 z → (x1 = 1 ∧ mx_mu z < mx_mu s) ∨ (x1 = 0 ∧ z = s ∧ mx_cl z) := by
    intro k x1 z hk Q
    rcases Q with ⟨a, b⟩ | ⟨a, b, c⟩
    · exact Or.inl ⟨a, b⟩
    · exact Or.inr ⟨a, b, fun k' d' hk' hb => c k' d' hk' (Or.inl (by omega)) hb⟩
  intro e
  induction e with
  | zero =>
    intro k hk x1 z J Q
    have hm := J.1.1
    exact pk_le 40 k (fun _ => nm_r (nI_1 x2) (H x1 z J (fin k x1 z (by omega) Q))) (fun c => by omega)
  | succ e ih =>
    intro k hk x1 z J Q
    have hm := J.1.1
    refine pk_le 40 k (fun c => by omega) (fun _ => pk_le (xs_m z) k (fun c => nm_r (nI_1 x2) (H x1 z J (fin k x1 z c Q))) (fun c => ⟨8, ?_⟩))
    exact xe_53 hG hM (fun x1' z' J' Q' => ih (k + 1) (by omega) x1' z' J' Q') 7 0 rfl x1 z J c Q
theorem xe_15 {post : SX → Prop} (hG : md_G g) (hM : md_M g) (H : ∀ z, mx_J g (fun _ _ => False) z → (xs_t z = 1 ∨ mx_cl z) → post ((nI (mc_cc g)), (nI (mc_hc g)), (nI (xs_m z)), (nI (xs_t z)), f_layAnswer, f_wrongKind, f_wrongKey, f_grown, f_frameDepth, f_frameThere, f_lastReason, f_valueDepth, f_objectCount, f_hasRun, f_begun, f_nowAt, f_endClass, (ar (mc_p g)), (ar (mc_e g)), (ar (mc_o g)), (mc_r g), (ar (mc_f g)), (ar (mc_t g)), (ar (mc_g g)), (ar (mc_k g)), (ar (xs_kr z)), (ar (xs_D z)), (ar (xs_w z)), (ar (xs_l z)), (ar (xs_f z)), a_found, a_hasFound, a_kept, a_hasMap, a_frame, a_kind, a_value, a_objectClass, a_objectReady)) : ∀ n x2 x1 z, mx_J g (fun _ _ => False) z → (x1 = 1 ∧ mx_mu z + 2 ≤ n ∧ x2 + mx_mu z ≤ 500) ∨ (x1 = 0 ∧ mx_cl z ∧ 1 ≤ n ∧ x2 ≤ 501) → wX_comeToPlaces_15 post n x1 (nI x2) (nI (mc_cc g)) (nI (mc_hc g)) (nI (xs_m z)) (nI (xs_t z)) f_layAnswer f_wrongKind f_wrongKey f_grown f_frameDepth f_frameThere f_lastReason f_valueDepth f_objectCount f_hasRun f_begun f_nowAt f_endClass (ar (mc_p g)) (ar (mc_e g)) (ar (mc_o g)) (mc_r g) (ar (mc_f g)) (ar (mc_t g)) (ar (mc_g g)) (ar (mc_k g)) (ar (xs_kr z)) (ar (xs_D z)) (ar (xs_w z)) (ar (xs_l z)) (ar (xs_f z)) a_found a_hasFound a_kept a_hasMap a_frame a_kind a_value a_objectClass a_objectReady := by
  intro n
  induction n with
  | zero => intro x2 x1 z J h; rcases h with ⟨_, h⟩ | ⟨_, _, h⟩ <;> omega
  | succ n ih =>
    intro x2 x1 z J h
    have ht := J.2.2.2
    have hx : x2 ≤ 501 := by rcases h with ⟨_, _, h⟩ | ⟨_, _, _, h⟩ <;> omega
    refine pk_le 1000000 x2 (fun c => by omega) (fun _ => ?_)
    rcases h with ⟨rfl, h⟩ | ⟨rfl, hc, h⟩
    · refine xb_1 ?_
      rcases ht with t0 | ⟨t1, _⟩
      · refine pk_eq (xs_t z) 0 (fun _ => ⟨41, ?_⟩) (fun c => by omega)
        refine xe_36 (s := z) hG hM (fun x1' z' J' h' => ?_) 40 0 rfl 0 z J (Or.inr ⟨rfl, rfl, fun k' d' hk' o => by omega⟩)
        refine ih (x2 + 1) x1' z' J' ?_
        rcases h' with ⟨a, b⟩ | ⟨a, b, c⟩
        · exact Or.inl ⟨a, by omega, by omega⟩
        · exact Or.inr ⟨a, c, by omega, by omega⟩
      · refine pk_eq (xs_t z) 0 (fun c => by omega) (fun c => H z J (Or.inl t1))
    · exact xb_0 (H z J (Or.inr hc))
theorem xe_places {post : SX → Prop} {kr D w l f : Nat → Nat} (hG : md_G g) (hM : md_M g) (H : ∀ z, mx_J g (fun _ _ => False) z → (xs_t z = 1 ∨ mx_cl z) → post ((nI (mc_cc g)), (nI (mc_hc g)), (nI (xs_m z)), (nI (xs_t z)), f_layAnswer, f_wrongKind, f_wrongKey, f_grown, f_frameDepth, f_frameThere, f_lastReason, f_valueDepth, f_objectCount, f_hasRun, f_begun, f_nowAt, f_endClass, (ar (mc_p g)), (ar (mc_e g)), (ar (mc_o g)), (mc_r g), (ar (mc_f g)), (ar (mc_t g)), (ar (mc_g g)), (ar (mc_k g)), (ar (xs_kr z)), (ar (xs_D z)), (ar (xs_w z)), (ar (xs_l z)), (ar (xs_f z)), a_found, a_hasFound, a_kept, a_hasMap, a_frame, a_kind, a_value, a_objectClass, a_objectReady)) : wpX_comeToPlaces post ((nI (mc_cc g)), (nI (mc_hc g)), 0, f_tooMany, f_layAnswer, f_wrongKind, f_wrongKey, f_grown, f_frameDepth, f_frameThere, f_lastReason, f_valueDepth, f_objectCount, f_hasRun, f_begun, f_nowAt, f_endClass, (ar (mc_p g)), (ar (mc_e g)), (ar (mc_o g)), (mc_r g), (ar (mc_f g)), (ar (mc_t g)), (ar (mc_g g)), (ar (mc_k g)), (ar kr), (ar D), (ar w), (ar l), (ar f), a_found, a_hasFound, a_kept, a_hasMap, a_frame, a_kind, a_value, a_objectClass, a_objectReady) := by
  unfold wpX_comeToPlaces
  dsimp only
  unfold wpX_comeTo
  dsimp only
  refine xa_placeOf (m := 0) (kr := kr) (by omega) (fun k hk => by omega) (fun _ => xb_m' ?_)
  refine pk_lt 0 40 (fun _ => ?_) (fun c => by omega)
  refine nm_r (nI_1 0) ⟨vp_in_nI (n := 0) (by omega) (by omega), nm_r (ar_ui kr (k := 0) 0 (by omega)) ⟨vp_in_nI (n := 0) (by omega) (by omega), nm_r (ar_ui D (k := 0) 0 (by omega)) ⟨vp_in_nI (n := 0) (by omega) (by omega), nm_r (ar_ui w (k := 0) 0 (by omega)) ⟨vp_in_nI (n := 0) (by omega) (by omega), nm_r (ar_ui l (k := 0) 0 (by omega)) ⟨vp_in_nI (n := 0) (by omega) (by omega), nm_r (ar_ui f (k := 0) 0 (by omega)) ?_⟩⟩⟩⟩⟩
  refine ⟨vp_in_nI (n := 0) (by omega) (by omega), vp_in_nI (n := 0) (by omega) (by omega), nm_r (e' := ar (mf_up (mf_up w 0 0) 0 1)) ?_ ⟨600, ?_⟩⟩
  · have := mb_or (w := mf_up w 0 0 0) (d := 0) (by omega)
    rw [up_s] at this
    have e2 : ar (mf_up w 0 0) (0 : Int32).toNatClampNeg = nI 0 := rfl
    show upd (ar (mf_up w 0 0)) (nI 0).toNatClampNeg (ar (mf_up w 0 0) (0 : Int32).toNatClampNeg ||| (1 : Int32) <<< (nI 0 &&& 31)) = _
    rw [e2, this]
    exact ar_ui (mf_up w 0 0) (k := 0) 1 (by omega)
  · refine xe_15 hG hM H 600 0 1 (1, mf_up (fun _ => 0) 0 0, 0, mf_up kr 0 0, mf_up D 0 0, mf_up (mf_up w 0 0) 0 1, mf_up l 0 0, mf_up f 0 0) ?_ (Or.inl ⟨rfl, ?_, ?_⟩)
    · have z : ∀ k, k < 1 → k = 0 := fun k hk => by omega
      have b1 : ∀ d, (1 : Nat).testBit d = true → d = 0 := by
        intro d hd
        have : (2 ^ 0).testBit d = true := hd
        rw [Nat.testBit_two_pow] at this
        simp at this; omega
      refine ⟨⟨by show 1 ≤ 40; omega, fun k hk => ?_, fun i j hi hj _ => ?_, fun k d hk hb => ?_, fun k d hk hb => ?_, fun k d hk hb => ?_, ?_, fun k hk => ?_⟩, fun k hk => ?_, fun k hk => ?_, Or.inl rfl⟩
      · cases z k hk
        exact ⟨by show (1 : Nat) < 128; omega, by show (0 : Nat) < 128; omega⟩
      · have := z i hi; have := z j hj; omega
      · cases z k hk
        cases b1 d hb
        exact md_R0 g
      · cases z k hk
        have hb' : (0 : Nat).testBit d = true := hb
        rw [Nat.zero_testBit] at hb'; cases hb'
      · cases z k hk
        have hb' : (0 : Nat).testBit d = true := hb
        rw [Nat.zero_testBit] at hb'; cases hb'
      · exact ⟨0, by show 0 < 1; omega, rfl, by show (1 : Nat).testBit 0 = true; decide⟩
      · cases z k hk; show (1 : Nat).testBit 0 = true; decide
      · cases z k hk; show 0 = md_kx 0; decide
      · cases z k hk
        refine ⟨false, false, false, false, false, rfl, ?_, ?_, ?_, ?_, ?_⟩ <;> (show _ ↔ ∃ h, (0 : Nat).testBit h = true ∧ _) <;> simp
    · have := me_mu_b 40 1 (mf_up l 0 0)
      show me_mu 40 1 (mf_up l 0 0) + 2 ≤ 600; omega
    · have := me_mu_b 40 1 (mf_up l 0 0)
      show 0 + me_mu 40 1 (mf_up l 0 0) ≤ 500; omega
end
end
section
/-! ===== the class: sorting the places ===== -/
section
variable {f_codeCount f_coverCount f_placeCount f_tooMany f_layAnswer f_wrongKind f_wrongKey f_grown f_frameDepth f_frameThere f_lastReason f_valueDepth f_objectCount f_hasRun f_begun f_nowAt f_endClass : Int32} {a_parent a_entry a_code a_operand a_coverFrom a_coverTo a_coverTarget a_coverClass a_placeKey a_placeDepth a_cameWith a_ledWith a_faults a_found a_hasFound a_kept a_hasMap a_frame a_kind a_value a_objectClass a_objectReady : Nat → Int32}
theorem xs_sort {post : SX → Prop} {m : Nat} {kr0 D0 : Nat → Nat} (hm : m ≤ 40) (h0 : 0 < m) (inj0 : ms_inj m kr0) (hb0 : ∀ k, k < m → kr0 k < 4194304) (H : ∀ kr D, ml_inc m kr → ms_P m kr0 D0 kr D → post (f_codeCount, f_coverCount, (nI m), f_tooMany, f_layAnswer, f_wrongKind, f_wrongKey, f_grown, f_frameDepth, f_frameThere, f_lastReason, f_valueDepth, f_objectCount, f_hasRun, f_begun, f_nowAt, f_endClass, a_parent, a_entry, a_code, a_operand, a_coverFrom, a_coverTo, a_coverTarget, a_coverClass, (ar kr), (ar D), a_cameWith, a_ledWith, a_faults, a_found, a_hasFound, a_kept, a_hasMap, a_frame, a_kind, a_value, a_objectClass, a_objectReady)) : wpX_sortPlaces post (f_codeCount, f_coverCount, (nI m), f_tooMany, f_layAnswer, f_wrongKind, f_wrongKey, f_grown, f_frameDepth, f_frameThere, f_lastReason, f_valueDepth, f_objectCount, f_hasRun, f_begun, f_nowAt, f_endClass, a_parent, a_entry, a_code, a_operand, a_coverFrom, a_coverTo, a_coverTarget, a_coverClass, (ar kr0), (ar D0), a_cameWith, a_ledWith, a_faults, a_found, a_hasFound, a_kept, a_hasMap, a_frame, a_kind, a_value, a_objectClass, a_objectReady) := by
  have bd : ∀ kr D, ms_P m kr0 D0 kr D → ∀ k, k < m → kr k < 4194304 := by
    intro kr D p k hk
    obtain ⟨j, hj, e, _⟩ := p.1 k hk
    rw [e]; exact hb0 j hj
  have L : ∀ d e, e + d = m → 1 ≤ e → ∀ kr D, ml_inc e kr → ms_inj m kr → ms_P m kr0 D0 kr D → wX_sortPlaces_2 post f_codeCount f_coverCount (nI m) f_tooMany f_layAnswer f_wrongKind f_wrongKey f_grown f_frameDepth f_frameThere f_lastReason f_valueDepth f_objectCount f_hasRun f_begun f_nowAt f_endClass (d + 1) (nI e) a_parent a_entry a_code a_operand a_coverFrom a_coverTo a_coverTarget a_coverClass (ar kr) (ar D) a_cameWith a_ledWith a_faults a_found a_hasFound a_kept a_hasMap a_frame a_kind a_value a_objectClass a_objectReady := by
    intro d
    induction d with
    | zero =>
      intro e he h1 kr D inc inj p
      have em : e = m := by omega
      subst em
      refine pk_le 40 e (fun _ => H kr D inc p) (fun c => pk_le e e (fun _ => H kr D inc p) (fun c => by omega))
    | succ d ih =>
      intro e he h1 kr D inc inj p
      refine pk_le 40 e (fun c => by omega) (fun _ => pk_le m e (fun c => by omega) (fun _ => ⟨vp_in_nI (by omega) (by omega), nm_r (ar_at _ (by omega)) ⟨vp_in_nI (by omega) (by omega), nm_r (ar_at _ (by omega)) ⟨e + 1, ?_⟩⟩⟩))
      have hkey : kr e < 4194304 := bd kr D p e (by omega)
      have I : ∀ k, k ≤ e → ∀ a b, ms_H e k (mf_up a k (kr e)) → ms_inj m (mf_up a k (kr e)) → ms_P m kr0 D0 (mf_up a k (kr e)) (mf_up b k (D e)) → wX_sortPlaces_33 post (wX_sortPlaces_2 post f_codeCount f_coverCount (nI m) f_tooMany f_layAnswer f_wrongKind f_wrongKey f_grown f_frameDepth f_frameThere f_lastReason f_valueDepth f_objectCount f_hasRun f_begun f_nowAt f_endClass (d + 1)) (nI e) (nI (kr e)) (nI (D e)) f_codeCount f_coverCount (nI m) f_tooMany f_layAnswer f_wrongKind f_wrongKey f_grown f_frameDepth f_frameThere f_lastReason f_valueDepth f_objectCount f_hasRun f_begun f_nowAt f_endClass (k + 1) (nI k) a_parent a_entry a_code a_operand a_coverFrom a_coverTo a_coverTarget a_coverClass (ar a) (ar b) a_cameWith a_ledWith a_faults a_found a_hasFound a_kept a_hasMap a_frame a_kind a_value a_objectClass a_objectReady := by
        intro k
        have done : ∀ k, k ≤ e → ∀ a b, ms_H e k (mf_up a k (kr e)) → ms_inj m (mf_up a k (kr e)) → ms_P m kr0 D0 (mf_up a k (kr e)) (mf_up b k (D e)) → (k = 0 ∨ mf_up a k (kr e) (k - 1) < mf_up a k (kr e) k) → wX_sortPlaces_89 post (wX_sortPlaces_2 post f_codeCount f_coverCount (nI m) f_tooMany f_layAnswer f_wrongKind f_wrongKey f_grown f_frameDepth f_frameThere f_lastReason f_valueDepth f_objectCount f_hasRun f_begun f_nowAt f_endClass (d + 1)) (nI e) (nI (kr e)) (nI (D e)) (nI k) f_codeCount f_coverCount (nI m) f_tooMany f_layAnswer f_wrongKind f_wrongKey f_grown f_frameDepth f_frameThere f_lastReason f_valueDepth f_objectCount f_hasRun f_begun f_nowAt f_endClass a_parent a_entry a_code a_operand a_coverFrom a_coverTo a_coverTarget a_coverClass (ar a) (ar b) a_cameWith a_ledWith a_faults a_found a_hasFound a_kept a_hasMap a_frame a_kind a_value a_objectClass a_objectReady := by
          intro k hk a b hH hi hp hl
          refine ⟨vp_in_nI (by omega) (by omega), nm_r (ar_ui _ _ (by omega)) ⟨vp_in_nI (by omega) (by omega), nm_r (ar_ui _ _ (by omega)) (nm_r (nI_1 e) ?_)⟩⟩
          exact ih (e + 1) (by omega) (by omega) _ _ (ms_H_end hk hH hl) hi hp
        induction k with
        | zero =>
          intro hk a b hH hi hp
          exact pk_le 0 0 (fun _ => done 0 hk a b hH hi hp (Or.inl rfl)) (fun c => by omega)
        | succ k ihk =>
          intro hk a b hH hi hp
          have ba := bd _ _ hp
          refine pk_le (k + 1) 0 (fun c => by omega) (fun _ => ?_)
          rw [nI_pred]
          refine ⟨vp_in_nI (by omega) (by omega), ?_⟩
          rw [ar_at _ (by omega), ar_at _ (by omega)]
          have ek : mf_up a (k + 1) (kr e) k = a k := up_n (by omega)
          have ek1 : mf_up a (k + 1) (kr e) (k + 1) = kr e := up_s
          have bak := ba k (by omega)
          rw [ek] at bak
          refine pk_le (a k) (kr e) (fun c => ?_) (fun c => ?_)
          · refine done (k + 1) hk a b hH hi hp (Or.inr ?_)
            show mf_up a (k + 1) (kr e) k < _
            rw [ek, ek1]
            have : a k ≠ kr e := by
              intro q
              have := hi k (k + 1) (by omega) (by omega) (by rw [ek, ek1, q])
              omega
            omega
          · refine ⟨vp_in_nI (by omega) (by omega), vp_in_nI (by omega) (by omega), nm_r (ar_ui _ _ (by omega)) ⟨vp_in_nI (by omega) (by omega), vp_in_nI (by omega) (by omega), nm_r (ar_ui _ _ (by omega)) (nm_r (pk_m1 k) ?_)⟩⟩
            refine ihk (by omega) _ _ ?_ ?_ ?_
            · refine ms_H_step (by omega) hH (fun t _ => ms_ins t) ?_
              rw [ek, ek1]; exact c
            · exact ms_swi (i := k) (j := k + 1) (by omega) (by omega) (fun t _ => ms_ins t) hi
            · exact ms_Pt hp (ms_sw (i := k) (j := k + 1) (by omega) (by omega) (fun t _ => ms_ins t) (fun t _ => ms_ins t))
      have e0 : mf_up kr e (kr e) = kr := by
        funext t; unfold mf_up; split
        · rename_i q; rw [q]
        · rfl
      have e1 : mf_up D e (D e) = D := by
        funext t; unfold mf_up; split
        · rename_i q; rw [q]
        · rfl
      refine I e (Nat.le_refl _) kr D ?_ ?_ ?_
      · rw [e0]; exact ms_H_0 inc
      · rw [e0]; exact inj
      · rw [e0, e1]; exact p
  exact ⟨m, by
    have := L (m - 1) 1 (by omega) (by omega) kr0 D0 (fun i j hij hj => by omega) inj0 (ms_Pr m kr0 D0)
    have e : m - 1 + 1 = m := by omega
    rw [e] at this
    exact this⟩
end
end
section
/-! ===== the class: the first wrong place; methods that lead outside ===== -/
section
variable {f_codeCount f_coverCount f_placeCount f_tooMany f_layAnswer f_wrongKind f_wrongKey f_grown f_frameDepth f_frameThere f_lastReason f_valueDepth f_objectCount f_hasRun f_begun f_nowAt f_endClass : Int32} {a_parent a_entry a_code a_operand a_coverFrom a_coverTo a_coverTarget a_coverClass a_placeKey a_placeDepth a_cameWith a_ledWith a_faults a_found a_hasFound a_kept a_hasMap a_frame a_kind a_value a_objectClass a_objectReady : Nat → Int32}
variable {g : md_C}
def mw_lw (w : Nat) : Nat := if w.testBit 1 = true then 1 else if w.testBit 2 = true then 2 else if w.testBit 3 = true then 3 else if w.testBit 4 = true then 4 else if w.testBit 5 = true then 5 else 6
theorem mw_lwf : ∀ a b c d e : Bool, mw_lw (mb_fm a b c d e) = mw_low a b c d e ∧ mw_lw (mb_fm a b c d e ||| 64) = mw_low a b c d e ∧ mb_fm a b c d e < 64 := by decide +kernel
theorem xa_low {post : Int32 → Prop} {w : Nat} (hw : w < 128) (h : post (nI (mw_lw w))) : wpX_lowestBit post (nI w) := by
  have S : ∀ n d, 1 ≤ d → d ≤ 5 → (w.testBit d = true → post (nI d)) → (¬ w.testBit d = true → wX_lowestBit_2 post (nI w) n (nI (d + 1))) → wX_lowestBit_2 post (nI w) (n + 1) (nI d) := by
    intro n d h1 h5 ht hf
    refine pk_le 6 d (fun c => by omega) (fun _ => ?_)
    have I := mb_bit w hw d (by omega)
    rw [mb_sh d (by omega)]
    refine br_c (fun c => nm_r (nI_1 d) (hf (I.mp c))) (fun c => ht (Classical.byContradiction fun n => c (I.mpr n)))
  unfold mw_lw at h
  refine ⟨6, S 5 1 (by omega) (by omega) (fun t => ?_) (fun f1 => S 4 2 (by omega) (by omega) (fun t => ?_) (fun f2 => S 3 3 (by omega) (by omega) (fun t => ?_) (fun f3 => S 2 4 (by omega) (by omega) (fun t => ?_) (fun f4 => S 1 5 (by omega) (by omega) (fun t => ?_) (fun f5 => ?_)))))⟩
  · rw [if_pos t] at h; exact h
  · rw [if_neg f1, if_pos t] at h; exact h
  · rw [if_neg f1, if_neg f2, if_pos t] at h; exact h
  · rw [if_neg f1, if_neg f2, if_neg f3, if_pos t] at h; exact h
  · rw [if_neg f1, if_neg f2, if_neg f3, if_neg f4, if_pos t] at h; exact h
  · rw [if_neg f1, if_neg f2, if_neg f3, if_neg f4, if_neg f5] at h
    exact pk_le 6 6 (fun _ => h) (fun c => by omega)
/-- what has been noted among the first k places -/
def mx_nt (g : md_C) (s : mx_S) (k : Nat) (wk wy : Int32) : Prop := (wk = 0 ∧ wy = -1 ∧ ∀ j, j < k → ∀ n, ¬ ml_B g (xs_K s j) n) ∨ (∃ j n, j < k ∧ wk = nI n ∧ wy = nI (md_kx (xs_K s j)) ∧ ml_B g (xs_K s j) n ∧ ∀ i n', i < k → ml_B g (xs_K s i) n' → xs_K s j ≤ xs_K s i)
theorem xe_note {post : SX → Prop} {s : mx_S} (hG : md_G g) (hM : md_M g) (J : mx_J g (fun _ _ => False) s) (cl : xs_t s = 1 ∨ mx_cl s) (h7 : xs_t s = 1 → ml_Many g → post ((nI (mc_cc g)), (nI (mc_hc g)), (nI (xs_m s)), (nI (xs_t s)), f_layAnswer, 7, (-1), f_grown, f_frameDepth, f_frameThere, f_lastReason, f_valueDepth, f_objectCount, f_hasRun, f_begun, f_nowAt, f_endClass, (ar (mc_p g)), (ar (mc_e g)), (ar (mc_o g)), (mc_r g), (ar (mc_f g)), (ar (mc_t g)), (ar (mc_g g)), (ar (mc_k g)), (ar (xs_kr s)), (ar (xs_D s)), (ar (xs_w s)), (ar (xs_l s)), (ar (xs_f s)), a_found, a_hasFound, a_kept, a_hasMap, a_frame, a_kind, a_value, a_objectClass, a_objectReady)) (h0 : xs_t s = 0 → mx_cl s → (∀ p h, md_R g p h ↔ me_at (xs_m s) (xs_K s) (xs_w s) p h) → (∀ p n, ¬ ml_B g p n) → post ((nI (mc_cc g)), (nI (mc_hc g)), (nI (xs_m s)), (nI (xs_t s)), f_layAnswer, 0, (-1), f_grown, f_frameDepth, f_frameThere, f_lastReason, f_valueDepth, f_objectCount, f_hasRun, f_begun, f_nowAt, f_endClass, (ar (mc_p g)), (ar (mc_e g)), (ar (mc_o g)), (mc_r g), (ar (mc_f g)), (ar (mc_t g)), (ar (mc_g g)), (ar (mc_k g)), (ar (xs_kr s)), (ar (xs_D s)), (ar (xs_w s)), (ar (xs_l s)), (ar (xs_f s)), a_found, a_hasFound, a_kept, a_hasMap, a_frame, a_kind, a_value, a_objectClass, a_objectReady)) (h1 : xs_t s = 0 → (∀ p h, md_R g p h → ∃ k, k < xs_m s ∧ xs_K s k = p) → ∀ p n, ml_F g p n → md_V g p → post ((nI (mc_cc g)), (nI (mc_hc g)), (nI (xs_m s)), (nI (xs_t s)), f_layAnswer, (nI n), (nI (md_kx p)), f_grown, f_frameDepth, f_frameThere, f_lastReason, f_valueDepth, f_objectCount, f_hasRun, f_begun, f_nowAt, f_endClass, (ar (mc_p g)), (ar (mc_e g)), (ar (mc_o g)), (mc_r g), (ar (mc_f g)), (ar (mc_t g)), (ar (mc_g g)), (ar (mc_k g)), (ar (xs_kr s)), (ar (xs_D s)), (ar (xs_w s)), (ar (xs_l s)), (ar (xs_f s)), a_found, a_hasFound, a_kept, a_hasMap, a_frame, a_kind, a_value, a_objectClass, a_objectReady)) : wpX_noteFirstWrong post ((nI (mc_cc g)), (nI (mc_hc g)), (nI (xs_m s)), (nI (xs_t s)), f_layAnswer, 0, (-1), f_grown, f_frameDepth, f_frameThere, f_lastReason, f_valueDepth, f_objectCount, f_hasRun, f_begun, f_nowAt, f_endClass, (ar (mc_p g)), (ar (mc_e g)), (ar (mc_o g)), (mc_r g), (ar (mc_f g)), (ar (mc_t g)), (ar (mc_g g)), (ar (mc_k g)), (ar (xs_kr s)), (ar (xs_D s)), (ar (xs_w s)), (ar (xs_l s)), (ar (xs_f s)), a_found, a_hasFound, a_kept, a_hasMap, a_frame, a_kind, a_value, a_objectClass, a_objectReady) := by
  have hm := J.1.1
  unfold wpX_noteFirstWrong
  dsimp only
  rcases J.2.2.2 with t0 | ⟨t1, m40, p, h, r, hno⟩
  · have cl : mx_cl s := by
      rcases cl with c | c
      · omega
      · exact c
    have fin : ∀ p h, md_R g p h ↔ me_at (xs_m s) (xs_K s) (xs_w s) p h := me_fin J.1 (by omega) cl
    have reach : ∀ p h, md_R g p h → ∃ k, k < xs_m s ∧ xs_K s k = p := by
      intro p h r
      obtain ⟨k, a, b, _⟩ := (fin p h).mp r
      exact ⟨k, a, b⟩
    have BK : ∀ p n, ml_B g p n → ∃ k, k < xs_m s ∧ xs_K s k = p := by
      rintro p n (⟨h, r, _⟩ | ⟨_, _, h, _, _, r, _⟩)
      · exact reach p h r
      · exact reach p h r
    refine pk_eq (xs_t s) 0 (fun _ => ?_) (fun c => by omega)
    have fi : ∀ wk wy, mx_nt g s (xs_m s) wk wy → post ((nI (mc_cc g)), (nI (mc_hc g)), (nI (xs_m s)), (nI (xs_t s)), f_layAnswer, wk, wy, f_grown, f_frameDepth, f_frameThere, f_lastReason, f_valueDepth, f_objectCount, f_hasRun, f_begun, f_nowAt, f_endClass, (ar (mc_p g)), (ar (mc_e g)), (ar (mc_o g)), (mc_r g), (ar (mc_f g)), (ar (mc_t g)), (ar (mc_g g)), (ar (mc_k g)), (ar (xs_kr s)), (ar (xs_D s)), (ar (xs_w s)), (ar (xs_l s)), (ar (xs_f s)), a_found, a_hasFound, a_kept, a_hasMap, a_frame, a_kind, a_value, a_objectClass, a_objectReady) := by
      intro wk wy nt
      rcases nt with ⟨rfl, rfl, no⟩ | ⟨j, n, hj, rfl, rfl, B, least⟩
      · refine h0 t0 cl fin (fun p n b => ?_)
        obtain ⟨k, hk, rfl⟩ := BK p n b
        exact no k hk n b
      · refine h1 t0 reach _ n ⟨B, fun q n' hq b => ?_⟩ (xe_KV hG hM J hj)
        obtain ⟨k, hk, rfl⟩ := BK q n' b
        have := least k n' hk b
        omega
    have L : ∀ d k, k + d = xs_m s → ∀ wk wy, mx_nt g s k wk wy → wX_noteFirstWrong_16 post (nI (mc_cc g)) (nI (mc_hc g)) (nI (xs_m s)) (nI (xs_t s)) f_layAnswer f_grown f_frameDepth f_frameThere f_lastReason f_valueDepth f_objectCount f_hasRun f_begun f_nowAt f_endClass (ar (mc_p g)) (ar (mc_e g)) (ar (mc_o g)) (mc_r g) (ar (mc_f g)) (ar (mc_t g)) (ar (mc_g g)) (ar (mc_k g)) (ar (xs_kr s)) (ar (xs_D s)) (ar (xs_w s)) (ar (xs_l s)) (ar (xs_f s)) a_found a_hasFound a_kept a_hasMap a_frame a_kind a_value a_objectClass a_objectReady (d + 1) (nI k) wk wy := by
      intro d
      induction d with
      | zero =>
        intro k hk wk wy nt
        have ek : k = xs_m s := by omega
        subst ek
        exact pk_le 40 (xs_m s) (fun _ => fi wk wy nt) (fun _ => pk_le (xs_m s) (xs_m s) (fun _ => fi wk wy nt) (fun c => by omega))
      | succ d ih =>
        intro k hk wk wy nt
        have hkm : k < xs_m s := by omega
        have hw := J.1.2.1 k hkm
        have hV := xe_KV hG hM J hkm
        have hkx := md_kxlt _ (md_Vlt hG.1 hV)
        obtain ⟨a, b, c, e, f, ef, f1, f2, f3, f4, f5⟩ := J.2.2.1 k hkm
        have bitR : ∀ h, (xs_l s k).testBit h = true ↔ md_R g (xs_K s k) h := by
          intro h
          constructor
          · intro q; exact J.1.2.2.2.1 k h hkm (J.1.2.2.2.2.1 k h hkm q)
          · intro q
            obtain ⟨j, hj, ej, hb⟩ := (fin _ h).mp q
            have := J.1.2.2.1 j k hj hkm ej
            subst this
            exact cl j h hj hb
        have wR : ∀ h, (xs_w s k).testBit h = true ↔ md_R g (xs_K s k) h := by
          intro h
          exact ⟨fun q => J.1.2.2.2.1 k h hkm q, fun q => J.1.2.2.2.2.1 k h hkm ((bitR h).mpr q)⟩
        simp only [bitR] at f1 f2 f3 f4 f5
        have r0 : md_R g (xs_K s k) (xs_D s k) := (wR _).mp (J.1.2.2.2.2.2.2.2 k hkm)
        have sev : (nI (xs_w s k) &&& (nI (xs_w s k) - 1) = 0) ↔ ¬ ∃ h h', h ≠ h' ∧ md_R g (xs_K s k) h ∧ md_R g (xs_K s k) h' := by
          rw [mb_one _ hw.1]
          constructor
          · rintro q ⟨h, h', ne, x, y⟩
            have x' := (wR h).mpr x
            have y' := (wR h').mpr y
            exact ne (q h (mb_ext hw.1 x') h' (mb_ext hw.1 y') x' y')
          · intro q x hx y hy hbx hby
            exact Classical.byContradiction fun ne => q ⟨x, y, ne, (wR x).mp hbx, (wR y).mp hby⟩
        obtain ⟨l1, l2, l3⟩ := mw_lwf a b c e f
        have F0 := mb_fm0 a b c e f
        -- at place k with the bits x: none wrong, or wrong with the lowest
        have step : ∀ x, x < 128 → mw_lw x = mw_low a b c e f → (nI x = 0 → ∀ n, ¬ ml_B g (xs_K s k) n) → (¬ nI x = 0 → ml_B g (xs_K s k) (mw_low a b c e f)) → wX_noteFirstWrong_60 post (wX_noteFirstWrong_16 post (nI (mc_cc g)) (nI (mc_hc g)) (nI (xs_m s)) (nI (xs_t s)) f_layAnswer f_grown f_frameDepth f_frameThere f_lastReason f_valueDepth f_objectCount f_hasRun f_begun f_nowAt f_endClass (ar (mc_p g)) (ar (mc_e g)) (ar (mc_o g)) (mc_r g) (ar (mc_f g)) (ar (mc_t g)) (ar (mc_g g)) (ar (mc_k g)) (ar (xs_kr s)) (ar (xs_D s)) (ar (xs_w s)) (ar (xs_l s)) (ar (xs_f s)) a_found a_hasFound a_kept a_hasMap a_frame a_kind a_value a_objectClass a_objectReady (d + 1)) (nI k) (nI x) (nI (mc_cc g)) (nI (mc_hc g)) (nI (xs_m s)) (nI (xs_t s)) f_layAnswer wk wy f_grown f_frameDepth f_frameThere f_lastReason f_valueDepth f_objectCount f_hasRun f_begun f_nowAt f_endClass (ar (mc_p g)) (ar (mc_e g)) (ar (mc_o g)) (mc_r g) (ar (mc_f g)) (ar (mc_t g)) (ar (mc_g g)) (ar (mc_k g)) (ar (xs_kr s)) (ar (xs_D s)) (ar (xs_w s)) (ar (xs_l s)) (ar (xs_f s)) a_found a_hasFound a_kept a_hasMap a_frame a_kind a_value a_objectClass a_objectReady := by
          intro x hx128 elw hz hnz
          have take : ¬ nI x = 0 → (∀ i n', i < k → ml_B g (xs_K s i) n' → xs_K s k ≤ xs_K s i) → wX_noteFirstWrong_84 post (wX_noteFirstWrong_16 post (nI (mc_cc g)) (nI (mc_hc g)) (nI (xs_m s)) (nI (xs_t s)) f_layAnswer f_grown f_frameDepth f_frameThere f_lastReason f_valueDepth f_objectCount f_hasRun f_begun f_nowAt f_endClass (ar (mc_p g)) (ar (mc_e g)) (ar (mc_o g)) (mc_r g) (ar (mc_f g)) (ar (mc_t g)) (ar (mc_g g)) (ar (mc_k g)) (ar (xs_kr s)) (ar (xs_D s)) (ar (xs_w s)) (ar (xs_l s)) (ar (xs_f s)) a_found a_hasFound a_kept a_hasMap a_frame a_kind a_value a_objectClass a_objectReady (d + 1)) (nI k) (nI x) (nI (mc_cc g)) (nI (mc_hc g)) (nI (xs_m s)) (nI (xs_t s)) f_layAnswer wk wy f_grown f_frameDepth f_frameThere f_lastReason f_valueDepth f_objectCount f_hasRun f_begun f_nowAt f_endClass (ar (mc_p g)) (ar (mc_e g)) (ar (mc_o g)) (mc_r g) (ar (mc_f g)) (ar (mc_t g)) (ar (mc_g g)) (ar (mc_k g)) (ar (xs_kr s)) (ar (xs_D s)) (ar (xs_w s)) (ar (xs_l s)) (ar (xs_f s)) a_found a_hasFound a_kept a_hasMap a_frame a_kind a_value a_objectClass a_objectReady := by
            intro nz lea
            refine ⟨vp_in_nI (by omega) (by omega), nm_r (e' := nI (md_kx (xs_K s k))) (by rw [ar_at _ (by omega), J.2.1 k hkm]) (xa_low hx128 (nm_r (nI_1 k) (ih (k + 1) (by omega) _ _ (Or.inr ⟨k, mw_lw x, by omega, rfl, rfl, by rw [elw]; exact hnz nz, fun i n' hi hB => ?_⟩))))⟩
            by_cases q : i = k
            · subst q; exact Nat.le_refl _
            · exact lea i n' (by omega) hB
          unfold wX_noteFirstWrong_60
          refine br_c (fun z => nm_r (nI_1 k) (ih (k + 1) (by omega) wk wy ?_)) (fun nz => ?_)
          · rcases nt with ⟨q1, q2, q3⟩ | ⟨j, n, hj, q1, q2, q3, q4⟩
            · refine Or.inl ⟨q1, q2, fun i hi => ?_⟩
              by_cases q : i = k
              · subst q; exact hz z
              · exact q3 i (by omega)
            · refine Or.inr ⟨j, n, by omega, q1, q2, q3, fun i n' hi hB => ?_⟩
              by_cases q : i = k
              · subst q; exact absurd hB (hz z n')
              · exact q4 i n' (by omega) hB
          · rcases nt with ⟨rfl, rfl, q3⟩ | ⟨j, n, hj, rfl, rfl, q3, q4⟩
            · exact xb_0 (take nz (fun i n' hi hB => absurd hB (q3 i hi n')))
            · have n0 := ml_B0 q3
              have hjx := md_kxlt _ (md_Vlt hG.1 (xe_KV hG hM J (k := j) (by omega)))
              refine pk_eq n 0 (fun q => by omega) (fun _ => ⟨vp_in_nI (by omega) (by omega), ?_⟩)
              rw [ar_at _ (by omega), J.2.1 k hkm]
              refine pk_le (md_kx (xs_K s j)) (md_kx (xs_K s k)) (fun q => nm_r (nI_1 k) (ih (k + 1) (by omega) _ _ (Or.inr ⟨j, n, by omega, rfl, rfl, q3, fun i n' hi hB => ?_⟩))) (fun q => take nz (fun i n' hi hB => ?_))
              · by_cases e : i = k
                · subst e
                  have := @md_kx_lt (xs_K s i) (xs_K s j)
                  omega
                · exact q4 i n' (by omega) hB
              · have := q4 i n' hi hB
                have := @md_kx_lt (xs_K s k) (xs_K s j)
                omega
        refine pk_le 40 k (fun c => by omega) (fun _ => pk_le (xs_m s) k (fun c => by omega) (fun _ => ⟨vp_in_nI (by omega) (by omega), nm_r (e' := nI (xs_f s k)) (ar_at _ (by omega)) ⟨vp_in_nI (by omega) (by omega), vp_in_nI (by omega) (by omega), ?_⟩⟩))
        rw [ar_at _ (by omega)]
        refine br_c (fun z => ?_) (fun z => ?_)
        · rw [sev] at z
          rw [ef]
          refine step _ (by omega) l1 (fun q => ?_) (fun q => ?_)
          · rw [F0] at q
            obtain ⟨rfl, rfl, rfl, rfl, rfl⟩ := q
            refine mw_none r0 f1 f2 f3 f4 f5 ?_
            rintro ((h | h | h | h | h) | h)
            · cases h
            · cases h
            · cases h
            · cases h
            · cases h
            · exact z h
          · refine mw_bits r0 f1 f2 f3 f4 f5 (Or.inl ?_)
            rw [F0] at q
            cases a <;> cases b <;> cases c <;> cases e <;> cases f <;> simp at q ⊢
        · have z' : ∃ h h', h ≠ h' ∧ md_R g (xs_K s k) h ∧ md_R g (xs_K s k) h' := Classical.byContradiction fun n => z (sev.mpr n)
          rw [ef]
          have e64 : nI (mb_fm a b c e f) ||| 64 = nI (mb_fm a b c e f ||| 64) := nx_or _ 64
          have h64 : mb_fm a b c e f ||| 64 < 128 := Nat.or_lt_two_pow (n := 7) (by omega) (by omega)
          refine nm_r e64 (step _ h64 l2 (fun q => ?_) (fun _ => mw_bits r0 f1 f2 f3 f4 f5 (Or.inr z')))
          have g64 : 64 ≤ mb_fm a b c e f ||| 64 := Nat.right_le_or
          exact absurd q (nI_ne0 (by omega) (by omega))
    exact ⟨xs_m s + 1, L (xs_m s) 0 (by omega) 0 (-1) (Or.inl ⟨rfl, rfl, fun j hj => by omega⟩)⟩
  · refine pk_eq (xs_t s) 0 (fun c => by omega) (fun _ => h7 t1 ⟨fun i => if i < 40 then xs_K s i else p, fun i hi => ?_, fun i j hi hj e => ?_⟩)
    · by_cases q : i < 40
      · dsimp only; rw [if_pos q]
        exact ⟨_, J.1.2.2.2.1 i _ (by omega) (J.1.2.2.2.2.2.2.2 i (by omega))⟩
      · dsimp only; rw [if_neg q]; exact ⟨h, r⟩
    · dsimp only at e
      by_cases q : i < 40 <;> by_cases q' : j < 40
      · rw [if_pos q, if_pos q'] at e
        exact J.1.2.2.1 i j (by omega) (by omega) e
      · rw [if_pos q, if_neg q'] at e
        exact absurd e (hno i (by omega))
      · rw [if_neg q, if_pos q'] at e
        exact absurd e.symm (hno j (by omega))
      · omega
theorem xa_lo {post : Int32 → Prop} (hG : md_G g) (h1 : ¬ md_M g → post 1) (h0 : md_M g → post 0) : wpX_leadsOutside post ((nI (mc_cc g)), (nI (mc_hc g)), f_placeCount, f_tooMany, f_layAnswer, f_wrongKind, f_wrongKey, f_grown, f_frameDepth, f_frameThere, f_lastReason, f_valueDepth, f_objectCount, f_hasRun, f_begun, f_nowAt, f_endClass, (ar (mc_p g)), (ar (mc_e g)), (ar (mc_o g)), (mc_r g), (ar (mc_f g)), (ar (mc_t g)), (ar (mc_g g)), (ar (mc_k g)), a_placeKey, a_placeDepth, a_cameWith, a_ledWith, a_faults, a_found, a_hasFound, a_kept, a_hasMap, a_frame, a_kind, a_value, a_objectClass, a_objectReady) := by
  have hcc := hG.1
  have hhc := hG.2.1
  unfold wpX_leadsOutside
  dsimp only
  have bad : ∀ i, i < mc_cc g → 12 ≤ mc_o g i → mc_o g i ≤ 15 → ¬ mc_a g i < mc_cc g → post 1 := fun i a b c d => h1 (fun M => d (M.2.1 i a b c))
  have C : (∀ i, i < mc_cc g → 12 ≤ mc_o g i → mc_o g i ≤ 15 → mc_a g i < mc_cc g) → (∀ x, x < mc_hc g → mc_g g x < mc_cc g) → wX_leadsOutside_105 post (nI (mc_cc g)) (nI (mc_hc g)) f_placeCount f_tooMany f_layAnswer f_wrongKind f_wrongKey f_grown f_frameDepth f_frameThere f_lastReason f_valueDepth f_objectCount f_hasRun f_begun f_nowAt f_endClass (ar (mc_p g)) (ar (mc_e g)) (ar (mc_o g)) (mc_r g) (ar (mc_f g)) (ar (mc_t g)) (ar (mc_g g)) (ar (mc_k g)) a_placeKey a_placeDepth a_cameWith a_ledWith a_faults a_found a_hasFound a_kept a_hasMap a_frame a_kind a_value a_objectClass a_objectReady := by
    intro a b
    unfold wX_leadsOutside_105
    exact pk_eq (mc_cc g) 0 (fun z => h1 (fun M => by have := M.1; omega)) (fun z => h0 ⟨by omega, a, b⟩)
  have B : (∀ i, i < mc_cc g → 12 ≤ mc_o g i → mc_o g i ≤ 15 → mc_a g i < mc_cc g) → ∀ d x, x + d = 4 → (∀ y, y < x → y < mc_hc g → mc_g g y < mc_cc g) → wX_leadsOutside_71 post (nI (mc_cc g)) (nI (mc_hc g)) f_placeCount f_tooMany f_layAnswer f_wrongKind f_wrongKey f_grown f_frameDepth f_frameThere f_lastReason f_valueDepth f_objectCount f_hasRun f_begun f_nowAt f_endClass (ar (mc_p g)) (ar (mc_e g)) (ar (mc_o g)) (mc_r g) (ar (mc_f g)) (ar (mc_t g)) (ar (mc_g g)) (ar (mc_k g)) a_placeKey a_placeDepth a_cameWith a_ledWith a_faults a_found a_hasFound a_kept a_hasMap a_frame a_kind a_value a_objectClass a_objectReady (d + 1) (nI x) := by
    intro a d
    induction d with
    | zero =>
      intro x hx hno
      exact pk_le 4 x (fun _ => C a (fun y hy => hno y (by omega) hy)) (fun c => by omega)
    | succ d ih =>
      intro x hx hno
      have hb := hG.2.2.2.2.1 x
      refine pk_le 4 x (fun c => by omega) (fun _ => pk_le (mc_hc g) x (fun c => C a (fun y hy => hno y (by omega) hy)) (fun c => ⟨vp_in_nI (by omega) (by omega), ?_⟩))
      rw [ar_at _ (by omega)]
      refine pk_lt (mc_g g x) (mc_cc g) (fun q => nm_r (nI_1 x) (ih (x + 1) (by omega) (fun y hy hc => ?_))) (fun q => h1 (fun M => by have := M.2.2 x c; omega))
      by_cases e : y = x
      · subst e; exact q
      · exact hno y (by omega) hc
  have A : ∀ d i, i + d = 24 → (∀ j, j < i → j < mc_cc g → 12 ≤ mc_o g j → mc_o g j ≤ 15 → mc_a g j < mc_cc g) → wX_leadsOutside_2 post (nI (mc_cc g)) (nI (mc_hc g)) f_placeCount f_tooMany f_layAnswer f_wrongKind f_wrongKey f_grown f_frameDepth f_frameThere f_lastReason f_valueDepth f_objectCount f_hasRun f_begun f_nowAt f_endClass (ar (mc_p g)) (ar (mc_e g)) (ar (mc_o g)) (mc_r g) (ar (mc_f g)) (ar (mc_t g)) (ar (mc_g g)) (ar (mc_k g)) a_placeKey a_placeDepth a_cameWith a_ledWith a_faults a_found a_hasFound a_kept a_hasMap a_frame a_kind a_value a_objectClass a_objectReady (d + 1) (nI i) := by
    intro d
    induction d with
    | zero =>
      intro i hi hno
      exact pk_le 24 i (fun _ => ⟨5, B (fun j hj => hno j (by omega) hj) 4 0 rfl (fun y hy => by omega)⟩) (fun c => by omega)
    | succ d ih =>
      intro i hi hno
      have h20 := hG.2.2.1 i
      refine pk_le 24 i (fun c => by omega) (fun _ => pk_le (mc_cc g) i (fun c => ⟨5, B (fun j hj => hno j (by omega) hj) 4 0 rfl (fun y hy => by omega)⟩) (fun c => ⟨vp_in_nI (by omega) (by omega), ?_⟩))
      rw [ar_at _ (by omega)]
      have nx : (12 ≤ mc_o g i → mc_o g i ≤ 15 → mc_a g i < mc_cc g) → wX_leadsOutside_2 post (nI (mc_cc g)) (nI (mc_hc g)) f_placeCount f_tooMany f_layAnswer f_wrongKind f_wrongKey f_grown f_frameDepth f_frameThere f_lastReason f_valueDepth f_objectCount f_hasRun f_begun f_nowAt f_endClass (ar (mc_p g)) (ar (mc_e g)) (ar (mc_o g)) (mc_r g) (ar (mc_f g)) (ar (mc_t g)) (ar (mc_g g)) (ar (mc_k g)) a_placeKey a_placeDepth a_cameWith a_ledWith a_faults a_found a_hasFound a_kept a_hasMap a_frame a_kind a_value a_objectClass a_objectReady (d + 1) (nI (i + 1)) := by
        intro q
        refine ih (i + 1) (by omega) (fun j hj hc => ?_)
        by_cases e : j = i
        · subst e; exact q
        · exact hno j (by omega) hc
      refine pk_lt (mc_o g i) 12 (fun q => ?_) (fun q => ⟨vp_in_nI (by omega) (by omega), pk_lt 15 (mc_o g i) (fun q2 => ?_) (fun q2 => ?_)⟩)
      · unfold wX_leadsOutside_42 wX_leadsOutside_43
        exact xb_0 (nm_r (nI_1 i) (nx (fun z => by omega)))
      · unfold wX_leadsOutside_42 wX_leadsOutside_43
        exact xb_0 (nm_r (nI_1 i) (nx (fun z => by omega)))
      · unfold wX_leadsOutside_43
        refine xb_1 ⟨vp_in_nI (by omega) (by omega), ?_⟩
        obtain ⟨ha, hr⟩ := mn_lim24 hG (i := i) ⟨q, q2⟩
        rw [nI_clamp (by omega), hr]
        exact pk_lt (mc_a g i) (mc_cc g) (fun z => nm_r (nI_1 i) (nx (fun _ _ => z))) (fun z => bad i c q q2 (by omega))
  exact ⟨25, A 24 0 rfl (fun j hj => by omega)⟩
end
end
section
/-! ===== the class: fitting, joining, frames ===== -/
section
variable {f_codeCount f_coverCount f_placeCount f_tooMany f_layAnswer f_wrongKind f_wrongKey f_grown f_frameDepth f_frameThere f_lastReason f_valueDepth f_objectCount f_hasRun f_begun f_nowAt f_endClass : Int32} {a_parent a_entry a_code a_operand a_coverFrom a_coverTo a_coverTarget a_coverClass a_placeKey a_placeDepth a_cameWith a_ledWith a_faults a_found a_hasFound a_kept a_hasMap a_frame a_kind a_value a_objectClass a_objectReady : Nat → Int32}
variable {g : md_C}
theorem xa_und {post : Int32 → Prop} {c p : Nat} (hG : md_G g) (hc : c < 8) (hp : p < 8) (h1 : mt_ab g p c → post 1) (h0 : ¬ mt_ab g p c → post 0) : wpX_isUnder post ((nI (mc_cc g)), (nI (mc_hc g)), f_placeCount, f_tooMany, f_layAnswer, f_wrongKind, f_wrongKey, f_grown, f_frameDepth, f_frameThere, f_lastReason, f_valueDepth, f_objectCount, f_hasRun, f_begun, f_nowAt, f_endClass, (ar (mc_p g)), (ar (mc_e g)), (ar (mc_o g)), (mc_r g), (ar (mc_f g)), (ar (mc_t g)), (ar (mc_g g)), (ar (mc_k g)), a_placeKey, a_placeDepth, a_cameWith, a_ledWith, a_faults, a_found, a_hasFound, a_kept, a_hasMap, a_frame, a_kind, a_value, a_objectClass, a_objectReady) (nI c) (nI p) := by
  have hpar := hG.2.2.2.2.2.1
  have L : ∀ d k e, k + d = 8 → e < 8 → (mt_cl g d p e = p → post 1) → (¬ mt_cl g d p e = p → post 0) → wX_isUnder_5 post (nI p) (nI (mc_cc g)) (nI (mc_hc g)) f_placeCount f_tooMany f_layAnswer f_wrongKind f_wrongKey f_grown f_frameDepth f_frameThere f_lastReason f_valueDepth f_objectCount f_hasRun f_begun f_nowAt f_endClass (ar (mc_p g)) (ar (mc_e g)) (ar (mc_o g)) (mc_r g) (ar (mc_f g)) (ar (mc_t g)) (ar (mc_g g)) (ar (mc_k g)) a_placeKey a_placeDepth a_cameWith a_ledWith a_faults a_found a_hasFound a_kept a_hasMap a_frame a_kind a_value a_objectClass a_objectReady (d + 1) (nI e) (nI k) := by
    intro d
    induction d with
    | zero =>
      intro k e hk he a b
      refine pk_le 8 k (fun _ => ?_) (fun c => by omega)
      exact pk_eq e p (fun q => a q) (fun q => b q)
    | succ d ih =>
      intro k e hk he a b
      refine pk_le 8 k (fun c => by omega) (fun _ => pk_le e p (fun q => ?_) (fun q => ⟨vp_in_nI (by omega) (by omega), nm_r (ar_at _ (by omega)) (nm_r (nI_1 k) ?_)⟩))
      · have e1 : mt_cl g (d + 1) p e = e := by
          show (if p < e then _ else e) = e
          rw [if_neg (by omega)]
        rw [e1] at a b
        exact pk_eq e p (fun q => a q) (fun q => b q)
      · have e1 : mt_cl g (d + 1) p e = mt_cl g d p (mc_p g e) := by
          show (if p < e then _ else e) = _
          rw [if_pos q]
        rw [e1] at a b
        have := hpar e
        exact ih (k + 1) (mc_p g e) (by omega) (by omega) a b
  unfold wpX_isUnder
  dsimp only
  exact ⟨9, L 8 0 c rfl hc h1 h0⟩
theorem xa_fits {post : Int32 → Prop} {t o : Nat} (hG : md_G g) (ht : t ≤ 90) (ho : o ≤ 90) (h1 : mt_fit g t o → post 1) (h0 : ¬ mt_fit g t o → post 0) : wpX_fits post ((nI (mc_cc g)), (nI (mc_hc g)), f_placeCount, f_tooMany, f_layAnswer, f_wrongKind, f_wrongKey, f_grown, f_frameDepth, f_frameThere, f_lastReason, f_valueDepth, f_objectCount, f_hasRun, f_begun, f_nowAt, f_endClass, (ar (mc_p g)), (ar (mc_e g)), (ar (mc_o g)), (mc_r g), (ar (mc_f g)), (ar (mc_t g)), (ar (mc_g g)), (ar (mc_k g)), a_placeKey, a_placeDepth, a_cameWith, a_ledWith, a_faults, a_found, a_hasFound, a_kept, a_hasMap, a_frame, a_kind, a_value, a_objectClass, a_objectReady) (nI t) (nI o) := by
  unfold wpX_fits
  dsimp only
  refine pk_eq t o (fun c => h1 (Or.inl c)) (fun c1 => pk_eq o 0 (fun c => h1 (Or.inr (Or.inl c))) (fun c2 => pk_lt o 3 (fun c => h0 ?_) (fun c3 => pk_le o 10 (fun c4 => pk_eq t 2 (fun c => h1 (Or.inr (Or.inr ⟨⟨c3, c4⟩, Or.inl c⟩))) (fun c5 => pk_lt t 3 (fun c => h0 ?_) (fun c6 => pk_lt 10 t (fun c => h0 ?_) (fun c7 => ?_)))) (fun c => h0 ?_))))
  · unfold mt_fit mt_C; omega
  · unfold mt_fit mt_C; omega
  · unfold mt_fit mt_C; omega
  · have e1 : nI t - 3 = nI (t - 3) := pk_sub (b := 3) c6
    have e2 : nI o - 3 = nI (o - 3) := pk_sub (b := 3) c3
    rw [e1, e2]
    refine xa_und hG (by omega) (by omega) (fun q => xb_1 (h1 (Or.inr (Or.inr ⟨⟨c3, c4⟩, Or.inr ⟨⟨c6, c7⟩, q⟩⟩)))) (fun q => xb_0 (h0 ?_))
    rintro (z | z | ⟨_, z | ⟨_, z⟩⟩)
    · exact c1 z
    · exact c2 z
    · exact c5 z
    · exact q z
  · unfold mt_fit mt_C; omega
theorem xa_join {post : Int32 → Prop} {t o : Nat} (hG : md_G g) (ht : t ≤ 90) (ho : o ≤ 90) (h : post (nI (mt_j g t o))) : wpX_join post ((nI (mc_cc g)), (nI (mc_hc g)), f_placeCount, f_tooMany, f_layAnswer, f_wrongKind, f_wrongKey, f_grown, f_frameDepth, f_frameThere, f_lastReason, f_valueDepth, f_objectCount, f_hasRun, f_begun, f_nowAt, f_endClass, (ar (mc_p g)), (ar (mc_e g)), (ar (mc_o g)), (mc_r g), (ar (mc_f g)), (ar (mc_t g)), (ar (mc_g g)), (ar (mc_k g)), a_placeKey, a_placeDepth, a_cameWith, a_ledWith, a_faults, a_found, a_hasFound, a_kept, a_hasMap, a_frame, a_kind, a_value, a_objectClass, a_objectReady) (nI t) (nI o) := by
  have hpar := hG.2.2.2.2.2.1
  unfold mt_j at h
  unfold wpX_join
  dsimp only
  refine pk_eq t o (fun c => ?_) (fun c1 => ?_)
  · rw [if_pos c] at h; exact h
  rw [if_neg c1] at h
  -- the two flags
  have S65 : ∀ b1 b2 : Bool, (b1 = true ↔ mt_C t) → (b2 = true ↔ mt_C o) → ¬ (t = 2 ∧ mt_C o) → ¬ (o = 2 ∧ mt_C t) → wX_join_65 post (nI t) (nI o) (mf_b b1) (mf_b b2) (nI (mc_cc g)) (nI (mc_hc g)) f_placeCount f_tooMany f_layAnswer f_wrongKind f_wrongKey f_grown f_frameDepth f_frameThere f_lastReason f_valueDepth f_objectCount f_hasRun f_begun f_nowAt f_endClass (ar (mc_p g)) (ar (mc_e g)) (ar (mc_o g)) (mc_r g) (ar (mc_f g)) (ar (mc_t g)) (ar (mc_g g)) (ar (mc_k g)) a_placeKey a_placeDepth a_cameWith a_ledWith a_faults a_found a_hasFound a_kept a_hasMap a_frame a_kind a_value a_objectClass a_objectReady := by
    intro b1 b2 e1 e2 n1 n2
    rw [if_neg n1, if_neg n2] at h
    unfold wX_join_65
    cases b1 with
    | false =>
      have : ¬ mt_C t := fun z => by have := e1.mpr z; cases this
      rw [if_pos (Or.inl this)] at h
      exact xb_0 h
    | true =>
      refine xb_1 ?_
      cases b2 with
      | false =>
        have : ¬ mt_C o := fun z => by have := e2.mpr z; cases this
        rw [if_pos (Or.inr this)] at h
        exact xb_0 h
      | true =>
        have a1 := e1.mp rfl
        have a2 := e2.mp rfl
        have : ¬ (¬ mt_C t ∨ ¬ mt_C o) := by
          rintro (z | z)
          · exact z a1
          · exact z a2
        rw [if_neg this] at h
        unfold mt_C at a1 a2
        have L : ∀ d k c e, k + d = 16 → c < 8 → e < 8 → post (nI (3 + mt_lca g d c e)) → wX_join_89 post (nI (mc_cc g)) (nI (mc_hc g)) f_placeCount f_tooMany f_layAnswer f_wrongKind f_wrongKey f_grown f_frameDepth f_frameThere f_lastReason f_valueDepth f_objectCount f_hasRun f_begun f_nowAt f_endClass (ar (mc_p g)) (ar (mc_e g)) (ar (mc_o g)) (mc_r g) (ar (mc_f g)) (ar (mc_t g)) (ar (mc_g g)) (ar (mc_k g)) a_placeKey a_placeDepth a_cameWith a_ledWith a_faults a_found a_hasFound a_kept a_hasMap a_frame a_kind a_value a_objectClass a_objectReady (d + 1) (nI c) (nI e) (nI k) := by
          intro d
          induction d with
          | zero =>
            intro k c e hk hc he hp
            refine pk_le 16 k (fun _ => ?_) (fun c => by omega)
            show post (nI 3 + nI c)
            rw [nI_add]; exact hp
          | succ d ih =>
            intro k c e hk hc he hp
            simp only [mt_lca] at hp
            refine pk_le 16 k (fun c => by omega) (fun _ => pk_eq c e (fun q => ?_) (fun q => pk_le c e (fun q2 => ⟨vp_in_nI (by omega) (by omega), nm_r (ar_at _ (by omega)) (nm_r (nI_1 k) ?_)⟩) (fun q2 => ⟨vp_in_nI (by omega) (by omega), nm_r (ar_at _ (by omega)) (nm_r (nI_1 k) ?_)⟩)))
            · rw [if_pos q] at hp
              show post (nI 3 + nI c)
              rw [nI_add]; exact hp
            · rw [if_neg q, if_neg (by omega)] at hp
              have := hpar e
              exact ih (k + 1) c _ (by omega) hc (by omega) hp
            · rw [if_neg q, if_pos (by omega)] at hp
              have := hpar c
              exact ih (k + 1) _ e (by omega) (by omega) he hp
        refine xb_1 (nm_r (pk_sub (b := 3) a1.1) (nm_r (pk_sub (b := 3) a2.1) ⟨17, L 16 0 _ _ rfl (by omega) (by omega) h⟩))
  have S54 : ∀ b1 b2 : Bool, (b1 = true ↔ mt_C t) → (b2 = true ↔ mt_C o) → ¬ (t = 2 ∧ mt_C o) → wX_join_54 post (nI t) (nI o) (mf_b b1) (mf_b b2) (nI (mc_cc g)) (nI (mc_hc g)) f_placeCount f_tooMany f_layAnswer f_wrongKind f_wrongKey f_grown f_frameDepth f_frameThere f_lastReason f_valueDepth f_objectCount f_hasRun f_begun f_nowAt f_endClass (ar (mc_p g)) (ar (mc_e g)) (ar (mc_o g)) (mc_r g) (ar (mc_f g)) (ar (mc_t g)) (ar (mc_g g)) (ar (mc_k g)) a_placeKey a_placeDepth a_cameWith a_ledWith a_faults a_found a_hasFound a_kept a_hasMap a_frame a_kind a_value a_objectClass a_objectReady := by
    intro b1 b2 e1 e2 n1
    unfold wX_join_54
    refine pk_eq o 2 (fun c => ?_) (fun c => S65 b1 b2 e1 e2 n1 (fun z => c z.1))
    cases b1 with
    | false => exact xb_0 (S65 false b2 e1 e2 n1 (fun z => by have := e1.mpr z.2; cases this))
    | true =>
      refine xb_1 ?_
      rw [if_neg n1, if_pos ⟨c, e1.mp rfl⟩] at h; exact h
  have S40 : ∀ b1 b2 : Bool, (b1 = true ↔ mt_C t) → (b2 = true ↔ mt_C o) → wX_join_40 post (nI t) (nI o) (mf_b b1) (mf_b b2) (nI (mc_cc g)) (nI (mc_hc g)) f_placeCount f_tooMany f_layAnswer f_wrongKind f_wrongKey f_grown f_frameDepth f_frameThere f_lastReason f_valueDepth f_objectCount f_hasRun f_begun f_nowAt f_endClass (ar (mc_p g)) (ar (mc_e g)) (ar (mc_o g)) (mc_r g) (ar (mc_f g)) (ar (mc_t g)) (ar (mc_g g)) (ar (mc_k g)) a_placeKey a_placeDepth a_cameWith a_ledWith a_faults a_found a_hasFound a_kept a_hasMap a_frame a_kind a_value a_objectClass a_objectReady := by
    intro b1 b2 e1 e2
    unfold wX_join_40
    refine pk_eq t 2 (fun c => ?_) (fun c => S54 b1 b2 e1 e2 (fun z => c z.1))
    cases b2 with
    | false => exact xb_0 (S54 b1 false e1 e2 (fun z => by have := e2.mpr z.2; cases this))
    | true =>
      refine xb_1 ?_
      rw [if_pos ⟨c, e2.mp rfl⟩] at h; exact h
  have S23 : ∀ b1 : Bool, (b1 = true ↔ mt_C t) → wX_join_23 post (nI t) (nI o) (mf_b b1) (nI (mc_cc g)) (nI (mc_hc g)) f_placeCount f_tooMany f_layAnswer f_wrongKind f_wrongKey f_grown f_frameDepth f_frameThere f_lastReason f_valueDepth f_objectCount f_hasRun f_begun f_nowAt f_endClass (ar (mc_p g)) (ar (mc_e g)) (ar (mc_o g)) (mc_r g) (ar (mc_f g)) (ar (mc_t g)) (ar (mc_g g)) (ar (mc_k g)) a_placeKey a_placeDepth a_cameWith a_ledWith a_faults a_found a_hasFound a_kept a_hasMap a_frame a_kind a_value a_objectClass a_objectReady := by
    intro b1 e1
    unfold wX_join_23 wX_join_39
    refine pk_lt o 3 (fun c => S40 b1 false e1 ?_) (fun c => pk_lt 10 o (fun d => S40 b1 false e1 ?_) (fun d => S40 b1 true e1 ?_))
    · unfold mt_C; exact ⟨fun z => (by cases z), fun z => by omega⟩
    · unfold mt_C; exact ⟨fun z => (by cases z), fun z => by omega⟩
    · exact ⟨fun _ => ⟨c, d⟩, fun _ => rfl⟩
  unfold wX_join_22
  refine pk_lt t 3 (fun c => S23 false ?_) (fun c => pk_lt 10 t (fun d => S23 false ?_) (fun d => S23 true ?_))
  · unfold mt_C; exact ⟨fun z => (by cases z), fun z => by omega⟩
  · unfold mt_C; exact ⟨fun z => (by cases z), fun z => by omega⟩
  · exact ⟨fun _ => ⟨c, d⟩, fun _ => rfl⟩
theorem xa_loadF {post : SX → Prop} {k : Nat} {fd fr D : Nat → Nat} (hk : k < 40) (H : ∀ fr' : Nat → Nat, (∀ s, s < 10 → fr' s = fd (10 * k + s)) → post (f_codeCount, f_coverCount, f_placeCount, f_tooMany, f_layAnswer, f_wrongKind, f_wrongKey, f_grown, (nI (D k)), f_frameThere, f_lastReason, f_valueDepth, f_objectCount, f_hasRun, f_begun, f_nowAt, f_endClass, a_parent, a_entry, a_code, a_operand, a_coverFrom, a_coverTo, a_coverTarget, a_coverClass, a_placeKey, (ar D), a_cameWith, a_ledWith, a_faults, (ar fd), a_hasFound, a_kept, a_hasMap, (ar fr'), a_kind, a_value, a_objectClass, a_objectReady)) : wpX_loadFrame__found post (f_codeCount, f_coverCount, f_placeCount, f_tooMany, f_layAnswer, f_wrongKind, f_wrongKey, f_grown, f_frameDepth, f_frameThere, f_lastReason, f_valueDepth, f_objectCount, f_hasRun, f_begun, f_nowAt, f_endClass, a_parent, a_entry, a_code, a_operand, a_coverFrom, a_coverTo, a_coverTarget, a_coverClass, a_placeKey, (ar D), a_cameWith, a_ledWith, a_faults, (ar fd), a_hasFound, a_kept, a_hasMap, (ar fr), a_kind, a_value, a_objectClass, a_objectReady) (nI k) := by
  have L : ∀ d s, s + d = 10 → ∀ fr : Nat → Nat, (∀ t, t < s → fr t = fd (10 * k + t)) → wX_loadFrame__found_2 post (nI k) f_codeCount f_coverCount f_placeCount f_tooMany f_layAnswer f_wrongKind f_wrongKey f_grown f_frameDepth f_frameThere f_lastReason f_valueDepth f_objectCount f_hasRun f_begun f_nowAt f_endClass (d + 1) (nI s) a_parent a_entry a_code a_operand a_coverFrom a_coverTo a_coverTarget a_coverClass a_placeKey (ar D) a_cameWith a_ledWith a_faults (ar fd) a_hasFound a_kept a_hasMap (ar fr) a_kind a_value a_objectClass a_objectReady := by
    intro d
    induction d with
    | zero =>
      intro s hs fr hf
      exact pk_le 10 s (fun _ => ⟨vp_in_nI (by omega) (by omega), nm_r (ar_at _ (by omega)) (H fr (fun t ht => hf t (by omega)))⟩) (fun c => by omega)
    | succ d ih =>
      intro s hs fr hf
      have e : nI k * 10 + nI s = nI (10 * k + s) := by
        show nI k * nI 10 + nI s = _
        rw [pk_mul, nI_add, Nat.mul_comm]
      refine pk_le 10 s (fun c => by omega) (fun _ => ?_)
      rw [e, ar_at _ (by omega)]
      refine ⟨vp_in_nI (by omega) (by omega), vp_in_nI (by omega) (by omega), nm_r (ar_ui _ _ (by omega)) (nm_r (nI_1 s) (ih (s + 1) (by omega) _ (fun t ht => ?_)))⟩
      by_cases q : t = s
      · subst q; exact up_s
      · rw [up_n q]; exact hf t (by omega)
  unfold wpX_loadFrame__found
  dsimp only
  exact ⟨11, L 10 0 rfl fr (fun t ht => by omega)⟩
theorem xa_loadK {post : SX → Prop} {k : Nat} {fd fr D : Nat → Nat} (hk : k < 40) (H : ∀ fr' : Nat → Nat, (∀ s, s < 10 → fr' s = fd (10 * k + s)) → post (f_codeCount, f_coverCount, f_placeCount, f_tooMany, f_layAnswer, f_wrongKind, f_wrongKey, f_grown, (nI (D k)), f_frameThere, f_lastReason, f_valueDepth, f_objectCount, f_hasRun, f_begun, f_nowAt, f_endClass, a_parent, a_entry, a_code, a_operand, a_coverFrom, a_coverTo, a_coverTarget, a_coverClass, a_placeKey, (ar D), a_cameWith, a_ledWith, a_faults, a_found, a_hasFound, (ar fd), a_hasMap, (ar fr'), a_kind, a_value, a_objectClass, a_objectReady)) : wpX_loadFrame__kept post (f_codeCount, f_coverCount, f_placeCount, f_tooMany, f_layAnswer, f_wrongKind, f_wrongKey, f_grown, f_frameDepth, f_frameThere, f_lastReason, f_valueDepth, f_objectCount, f_hasRun, f_begun, f_nowAt, f_endClass, a_parent, a_entry, a_code, a_operand, a_coverFrom, a_coverTo, a_coverTarget, a_coverClass, a_placeKey, (ar D), a_cameWith, a_ledWith, a_faults, a_found, a_hasFound, (ar fd), a_hasMap, (ar fr), a_kind, a_value, a_objectClass, a_objectReady) (nI k) := by
  have L : ∀ d s, s + d = 10 → ∀ fr : Nat → Nat, (∀ t, t < s → fr t = fd (10 * k + t)) → wX_loadFrame__kept_2 post (nI k) f_codeCount f_coverCount f_placeCount f_tooMany f_layAnswer f_wrongKind f_wrongKey f_grown f_frameDepth f_frameThere f_lastReason f_valueDepth f_objectCount f_hasRun f_begun f_nowAt f_endClass (d + 1) (nI s) a_parent a_entry a_code a_operand a_coverFrom a_coverTo a_coverTarget a_coverClass a_placeKey (ar D) a_cameWith a_ledWith a_faults a_found a_hasFound (ar fd) a_hasMap (ar fr) a_kind a_value a_objectClass a_objectReady := by
    intro d
    induction d with
    | zero =>
      intro s hs fr hf
      exact pk_le 10 s (fun _ => ⟨vp_in_nI (by omega) (by omega), nm_r (ar_at _ (by omega)) (H fr (fun t ht => hf t (by omega)))⟩) (fun c => by omega)
    | succ d ih =>
      intro s hs fr hf
      have e : nI k * 10 + nI s = nI (10 * k + s) := by
        show nI k * nI 10 + nI s = _
        rw [pk_mul, nI_add, Nat.mul_comm]
      refine pk_le 10 s (fun c => by omega) (fun _ => ?_)
      rw [e, ar_at _ (by omega)]
      refine ⟨vp_in_nI (by omega) (by omega), vp_in_nI (by omega) (by omega), nm_r (ar_ui _ _ (by omega)) (nm_r (nI_1 s) (ih (s + 1) (by omega) _ (fun t ht => ?_)))⟩
      by_cases q : t = s
      · subst q; exact up_s
      · rw [up_n q]; exact hf t (by omega)
  unfold wpX_loadFrame__kept
  dsimp only
  exact ⟨11, L 10 0 rfl fr (fun t ht => by omega)⟩
end
end
section
/-! ===== the class: giving a frame ===== -/
section
variable {f_codeCount f_coverCount f_placeCount f_tooMany f_layAnswer f_wrongKind f_wrongKey f_grown f_frameDepth f_frameThere f_lastReason f_valueDepth f_objectCount f_hasRun f_begun f_nowAt f_endClass : Int32} {a_parent a_entry a_code a_operand a_coverFrom a_coverTo a_coverTarget a_coverClass a_placeKey a_placeDepth a_cameWith a_ledWith a_faults a_found a_hasFound a_kept a_hasMap a_frame a_kind a_value a_objectClass a_objectReady : Nat → Int32}
variable {g : md_C}
/-- what is known and found, in arrays -/
def mf_A (m : Nat) (D : Nat → Nat) (T : mf_T) (hf fd : Nat → Nat) : Prop := (∀ q, q < m → hf q = (T.1 q).toNat) ∧ (∀ q, q < m → T.1 q = true → ∀ s, s < 4 + D q → fd (10 * q + s) = T.2 q s)
theorem mf_bn (b : Bool) : mf_b b = nI b.toNat := by cases b <;> rfl
theorem xa_give {post : SX → Prop} {m p : Nat} {gr : Bool} {T : mf_T} {hf fd fr f D : Nat → Nat} (hG : md_G g) (hm : m ≤ 40) (hp : p < m) (hD : ∀ q, q < m → D q ≤ 6) (A : mf_A m D T hf fd) (T90 : mn_90 T) (f90 : ∀ s, f s ≤ 90) (hfr : ∀ s, s < 4 + D p → fr s = f s) (H : ∀ hf' fd' : Nat → Nat, mf_A m D (mf_gv g T p (4 + D p) f) hf' fd' → post ((nI (mc_cc g)), (nI (mc_hc g)), (nI m), f_tooMany, f_layAnswer, f_wrongKind, f_wrongKey, (mf_b (gr || mf_fl g T p (4 + D p) f)), f_frameDepth, f_frameThere, f_lastReason, f_valueDepth, f_objectCount, f_hasRun, f_begun, f_nowAt, f_endClass, (ar (mc_p g)), (ar (mc_e g)), (ar (mc_o g)), (mc_r g), (ar (mc_f g)), (ar (mc_t g)), (ar (mc_g g)), (ar (mc_k g)), a_placeKey, (ar D), a_cameWith, a_ledWith, a_faults, (ar fd'), (ar hf'), a_kept, a_hasMap, (ar fr), a_kind, a_value, a_objectClass, a_objectReady)) : wpX_giveFrame post ((nI (mc_cc g)), (nI (mc_hc g)), (nI m), f_tooMany, f_layAnswer, f_wrongKind, f_wrongKey, (mf_b gr), f_frameDepth, f_frameThere, f_lastReason, f_valueDepth, f_objectCount, f_hasRun, f_begun, f_nowAt, f_endClass, (ar (mc_p g)), (ar (mc_e g)), (ar (mc_o g)), (mc_r g), (ar (mc_f g)), (ar (mc_t g)), (ar (mc_g g)), (ar (mc_k g)), a_placeKey, (ar D), a_cameWith, a_ledWith, a_faults, (ar fd), (ar hf), a_kept, a_hasMap, (ar fr), a_kind, a_value, a_objectClass, a_objectReady) (nI p) := by
  have hDp := hD p hp
  have hfp := A.1 p hp
  -- along the slots
  let I : Nat → (Nat → Nat) → Int32 → Prop := fun s fd' gr' => (∀ q, q < m → q ≠ p → T.1 q = true → ∀ t, t < 4 + D q → fd' (10 * q + t) = T.2 q t) ∧ (∀ t, t < s → fd' (10 * p + t) = mf_nw g T p f t) ∧ (T.1 p = true → ∀ t, s ≤ t → t < 4 + D p → fd' (10 * p + t) = T.2 p t) ∧ (T.1 p = true → gr' = mf_b (gr || mf_ch g T p f s)) ∧ (∃ b, gr' = mf_b b)
  have fin : ∀ fd' gr', I (4 + D p) fd' gr' → wX_giveFrame_112 post (nI p) (nI (mc_cc g)) (nI (mc_hc g)) (nI m) f_tooMany f_layAnswer f_wrongKind f_wrongKey gr' f_frameDepth f_frameThere f_lastReason f_valueDepth f_objectCount f_hasRun f_begun f_nowAt f_endClass (ar (mc_p g)) (ar (mc_e g)) (ar (mc_o g)) (mc_r g) (ar (mc_f g)) (ar (mc_t g)) (ar (mc_g g)) (ar (mc_k g)) a_placeKey (ar D) a_cameWith a_ledWith a_faults (ar fd') (ar hf) a_kept a_hasMap (ar fr) a_kind a_value a_objectClass a_objectReady := by
    intro fd' gr' ⟨i1, i2, i3, i4, i5⟩
    have AA : ∀ hf' : Nat → Nat, hf' p = 1 → (∀ q, q ≠ p → hf' q = hf q) → mf_A m D (mf_gv g T p (4 + D p) f) hf' fd' := by
      intro hf' h1 h2
      refine ⟨fun q hq => ?_, fun q hq kq s hs => ?_⟩
      · show hf' q = (if q = p then true else T.1 q).toNat
        by_cases e : q = p
        · subst e; rw [h1, if_pos rfl]; rfl
        · rw [h2 q e, if_neg e]; exact A.1 q hq
      · show fd' (10 * q + s) = if q = p ∧ s < 4 + D p then mf_nw g T p f s else T.2 q s
        by_cases e : q = p
        · subst e; rw [if_pos ⟨rfl, hs⟩]; exact i2 s hs
        · rw [if_neg (fun z => e z.1)]
          have kq' : T.1 q = true := by
            have : (if q = p then true else T.1 q) = true := kq
            rw [if_neg e] at this; exact this
          exact i1 q hq e kq' s hs
    refine ⟨vp_in_nI (by omega) (by omega), ?_⟩
    rw [ar_at _ (by omega), hfp]
    cases hk : T.1 p with
    | false =>
      refine xb_0 ⟨vp_in_nI (by omega) (by omega), nm_r (e' := ar (mf_up hf p 1)) (by rw [mi_n1]; exact ar_ui hf 1 (by omega)) ?_⟩
      have := H (mf_up hf p 1) fd' (AA _ up_s (fun q e => up_n e))
      have ef : (gr || mf_fl g T p (4 + D p) f) = true := by
        unfold mf_fl; rw [hk]; simp
      rw [ef] at this; exact this
    | true =>
      refine xb_1 ?_
      have hh : hf p = 1 := by rw [hfp, hk]; rfl
      have := H hf fd' (AA hf hh (fun q _ => rfl))
      have ef : (gr || mf_fl g T p (4 + D p) f) = (gr || mf_ch g T p f (4 + D p)) := by
        unfold mf_fl; rw [hk]; simp
      rw [ef, ← i4 hk] at this; exact this
  have L : ∀ d s, s + d = 4 + D p → ∀ fd' gr', I s fd' gr' → wX_giveFrame_24 post (nI p) (nI (4 + D p)) (nI (mc_cc g)) (nI (mc_hc g)) (nI m) f_tooMany f_layAnswer f_wrongKind f_wrongKey f_frameDepth f_frameThere f_lastReason f_valueDepth f_objectCount f_hasRun f_begun f_nowAt f_endClass (d + 1) (nI s) gr' (ar (mc_p g)) (ar (mc_e g)) (ar (mc_o g)) (mc_r g) (ar (mc_f g)) (ar (mc_t g)) (ar (mc_g g)) (ar (mc_k g)) a_placeKey (ar D) a_cameWith a_ledWith a_faults (ar fd') (ar hf) a_kept a_hasMap (ar fr) a_kind a_value a_objectClass a_objectReady := by
    intro d
    induction d with
    | zero =>
      intro s hs fd' gr' i
      have es : s = 4 + D p := by omega
      subst es
      exact pk_le 10 (4 + D p) (fun _ => fin fd' gr' i) (fun _ => pk_le (4 + D p) (4 + D p) (fun _ => fin fd' gr' i) (fun c => by omega))
    | succ d ih =>
      intro s hs fd' gr' i
      obtain ⟨i1, i2, i3, i4, i5⟩ := i
      have e : nI p * 10 + nI s = nI (10 * p + s) := by
        show nI p * nI 10 + nI s = _
        rw [pk_mul, nI_add, Nat.mul_comm]
      refine pk_le 10 s (fun c => by omega) (fun _ => pk_le (4 + D p) s (fun c => by omega) (fun _ => nm_r e ⟨vp_in_nI (by omega) (by omega), nm_r (ar_at _ (by omega)) ⟨vp_in_nI (by omega) (by omega), ?_⟩⟩))
      rw [ar_at _ (by omega), ar_at _ (by omega), hfp, hfr s (by omega)]
      have J : ∀ z : Nat, z = mf_nw g T p f s → z ≤ 90 → wX_giveFrame_88 post (wX_giveFrame_24 post (nI p) (nI (4 + D p)) (nI (mc_cc g)) (nI (mc_hc g)) (nI m) f_tooMany f_layAnswer f_wrongKind f_wrongKey f_frameDepth f_frameThere f_lastReason f_valueDepth f_objectCount f_hasRun f_begun f_nowAt f_endClass (d + 1)) (nI p) (nI (4 + D p)) (nI s) (nI (10 * p + s)) (nI (fd' (10 * p + s))) (nI z) (nI (10 * p + s)) (nI (mc_cc g)) (nI (mc_hc g)) (nI m) f_tooMany f_layAnswer f_wrongKind f_wrongKey gr' f_frameDepth f_frameThere f_lastReason f_valueDepth f_objectCount f_hasRun f_begun f_nowAt f_endClass (ar (mc_p g)) (ar (mc_e g)) (ar (mc_o g)) (mc_r g) (ar (mc_f g)) (ar (mc_t g)) (ar (mc_g g)) (ar (mc_k g)) a_placeKey (ar D) a_cameWith a_ledWith a_faults (ar fd') (ar hf) a_kept a_hasMap (ar fr) a_kind a_value a_objectClass a_objectReady := by
        intro z ez z90
        refine ⟨vp_in_nI (by omega) (by omega), nm_r (ar_ui _ _ (by omega)) ⟨vp_in_nI (by omega) (by omega), ?_⟩⟩
        rw [ar_at _ (by omega), up_s]
        have b1 : ∀ q, q < m → q ≠ p → T.1 q = true → ∀ t, t < 4 + D q → mf_up fd' (10 * p + s) z (10 * q + t) = T.2 q t := by
          intro q hq nq kq t ht
          have := hD q hq
          rw [up_n (by omega)]; exact i1 q hq nq kq t ht
        have b2 : ∀ t, t < s + 1 → mf_up fd' (10 * p + s) z (10 * p + t) = mf_nw g T p f t := by
          intro t ht
          by_cases q : t = s
          · subst q; rw [up_s]; exact ez
          · rw [up_n (by omega)]; exact i2 t (by omega)
        have b3 : T.1 p = true → ∀ t, s + 1 ≤ t → t < 4 + D p → mf_up fd' (10 * p + s) z (10 * p + t) = T.2 p t := by
          intro k t h1 h2
          rw [up_n (by omega)]; exact i3 k t (by omega) h2
        refine br_c (fun q => nm_r (nI_1 s) (ih (s + 1) (by omega) _ gr' ⟨b1, b2, b3, fun k => ?_, i5⟩)) (fun q => nm_r (nI_1 s) (ih (s + 1) (by omega) _ 1 ⟨b1, b2, b3, fun k => ?_, ⟨true, rfl⟩⟩))
        · rw [i4 k]
          have old := i3 k s (Nat.le_refl _) (by omega)
          have t90 := T90 p s
          rw [old] at q
          have : z = T.2 p s := (nI_eq (by omega) (by omega)).mp q
          simp only [mf_ch, ← ez, this]
          simp
        · have old := i3 k s (Nat.le_refl _) (by omega)
          rw [old] at q
          have : z ≠ T.2 p s := fun w => q (by rw [w])
          have dt : decide (mf_nw g T p f s ≠ T.2 p s) = true := by rw [← ez]; exact decide_eq_true this
          show (1 : Int32) = mf_b (gr || (mf_ch g T p f s || decide (mf_nw g T p f s ≠ T.2 p s)))
          rw [dt]; simp [mf_b]
      cases hk : T.1 p with
      | false =>
        refine xb_0 ⟨vp_in_nI (by omega) (by omega), ?_⟩
        refine J (f s) ?_ (f90 s)
        unfold mf_nw; rw [hk]; simp
      | true =>
        refine xb_1 ⟨vp_in_nI (by omega) (by omega), ?_⟩
        have old := i3 hk s (Nat.le_refl _) (by omega)
        have o90 : fd' (10 * p + s) ≤ 90 := by rw [old]; exact T90 p s
        refine xa_join hG o90 (f90 s) (J _ ?_ (mt_j90 hG.2.2.2.2.2.1 o90 (f90 s)))
        unfold mf_nw; rw [if_pos hk, old]
  unfold wpX_giveFrame
  dsimp only
  refine xb_n (by omega) (pk_lt p m (fun _ => ⟨vp_in_nI (by omega) (by omega), nm_r (e' := nI (4 + D p)) ?_ ⟨4 + D p + 1, L (4 + D p) 0 (by omega) fd (mf_b gr) ⟨fun q hq _ kq => A.2 q hq kq, fun t ht => by omega, fun k t _ ht => A.2 p hp k t ht, fun _ => ?_, ⟨gr, rfl⟩⟩⟩⟩) (fun c => by omega))
  · rw [ar_at _ (by omega)]
    show nI 4 + nI (D p) = _
    rw [nI_add]
  · simp [mf_ch]
end
end
section
/-! ===== the reference: numbers of instructions, keys ===== -/
section
variable {f_length f_handlers f_many f_there f_typed f_wrongNumber f_wrongPlace f_size f_why f_height f_objects f_line f_begun f_last f_end : Int32} {a_parent a_begin a_op a_arg a_from a_to a_target a_caught a_places a_heights a_gone a_worst a_frames a_maps a_high a_known a_mapped a_now a_sorts a_ints a_classes a_ready : Nat → Int32}
variable {g : md_C} {post : Int32 → Prop}
theorem ya_tk {o : Nat} (ho : o < 20) (h : post (nI (md_tk o))) : wpY_takes post (nI o) := by
  have : o = 0 ∨ o = 1 ∨ o = 2 ∨ o = 3 ∨ o = 4 ∨ o = 5 ∨ o = 6 ∨ o = 7 ∨ o = 8 ∨ o = 9 ∨ o = 10 ∨ o = 11 ∨ o = 12 ∨ o = 13 ∨ o = 14 ∨ o = 15 ∨ o = 16 ∨ o = 17 ∨ o = 18 ∨ o = 19 := by omega
  unfold wpY_takes wY_takes_26 wY_takes_38
  rcases this with rfl | rfl | rfl | rfl | rfl | rfl | rfl | rfl | rfl | rfl | rfl | rfl | rfl | rfl | rfl | rfl | rfl | rfl | rfl | rfl <;> (repeat' (first | exact h | refine br_t (by decide) ?_ | refine br_f (by decide) ?_))
theorem ya_pu {o : Nat} (ho : o < 20) (h : post (nI (md_pu o))) : wpY_puts post (nI o) := by
  have : o = 0 ∨ o = 1 ∨ o = 2 ∨ o = 3 ∨ o = 4 ∨ o = 5 ∨ o = 6 ∨ o = 7 ∨ o = 8 ∨ o = 9 ∨ o = 10 ∨ o = 11 ∨ o = 12 ∨ o = 13 ∨ o = 14 ∨ o = 15 ∨ o = 16 ∨ o = 17 ∨ o = 18 ∨ o = 19 := by omega
  unfold wpY_puts
  rcases this with rfl | rfl | rfl | rfl | rfl | rfl | rfl | rfl | rfl | rfl | rfl | rfl | rfl | rfl | rfl | rfl | rfl | rfl | rfl | rfl <;> (repeat' (first | exact h | refine br_t (by decide) ?_ | refine br_f (by decide) ?_))
theorem ya_gb {o : Nat} (ho : o < 20) (h1 : md_gb o → post 1) (h0 : ¬ md_gb o → post 0) : wpY_goesBehind post (f_length, f_handlers, f_many, f_there, f_typed, f_wrongNumber, f_wrongPlace, f_size, f_why, f_height, f_objects, f_line, f_begun, f_last, f_end, a_parent, a_begin, a_op, a_arg, a_from, a_to, a_target, a_caught, a_places, a_heights, a_gone, a_worst, a_frames, a_maps, a_high, a_known, a_mapped, a_now, a_sorts, a_ints, a_classes, a_ready) (nI o) := by
  unfold wpY_goesBehind
  dsimp only
  refine pk_lt o 12 (fun c => h1 (Or.inl c)) (fun c => pk_eq o 13 (fun d => h1 (Or.inr (Or.inl d))) (fun d => pk_eq o 14 (fun e => h1 (Or.inr (Or.inr e))) (fun e => h0 ?_)))
  unfold md_gb; omega
theorem ya_jp {o : Nat} (ho : o < 20) (h1 : 12 ≤ o ∧ o ≤ 15 → post 1) (h0 : ¬ (12 ≤ o ∧ o ≤ 15) → post 0) : wpY_jumps post (nI o) := by
  unfold wpY_jumps
  exact pk_lt o 12 (fun c => h0 (by omega)) (fun c => pk_lt 15 o (fun d => h0 (by omega)) (fun d => h1 ⟨c, d⟩))
theorem yk_24 {p : Nat} (hp : p < 2 ^ 31) : nI p - nI p / 24 * 24 = nI (p % 24) := pk_rem (d := 24) hp (by omega) (by omega)
theorem ya_ins {p : Nat} (hp : p < 2 ^ 31) (h : post (nI (p % 24))) : wpY_instruction post (nI p) := by
  refine ⟨by decide, ?_⟩
  rw [yk_24 hp]; exact h
theorem ya_calls {p : Nat} (hp : p < 2 ^ 31) (h : post (nI (md_n p))) : wpY_calls post (nI p) := by
  refine ⟨by decide, ?_⟩
  have e : nI p / 331776 = nI (p / 331776) := pk_div (d := 331776) hp (by omega) (by omega)
  rw [e]; exact h
theorem ya_callOf {p j : Nat} (hp : p < 2 ^ 31) (hj : j < 3) (h : post (nI (md_c p j))) : wpY_callOf post (nI p) (nI j) := by
  unfold wpY_callOf
  have e0 : nI p / 13824 = nI (p / 13824) := pk_div (d := 13824) hp (by omega) (by omega)
  have e1 : nI p / 576 = nI (p / 576) := pk_div (d := 576) hp (by omega) (by omega)
  have e2 : nI p / 24 = nI (p / 24) := pk_div (d := 24) hp (by omega) (by omega)
  refine pk_eq j 0 (fun c => ⟨by decide, by decide, ?_⟩) (fun c => pk_eq j 1 (fun d => ⟨by decide, by decide, ?_⟩) (fun d => ⟨by decide, by decide, ?_⟩))
  · subst c
    rw [e0, yk_24 (by omega)]; exact h
  · subst d
    rw [e1, yk_24 (by omega)]; exact h
  · have : j = 2 := by omega
    subst this
    rw [e2, yk_24 (by omega)]; exact h
theorem ya_weight {j : Nat} (hj : j < 2 ^ 31) (h : post (nI (md_w j))) : wpY_weight post (nI j) := by
  unfold wpY_weight
  refine pk_eq j 0 (fun c => ?_) (fun c => pk_eq j 1 (fun d => ?_) (fun d => ?_))
  · subst c; exact h
  · subst d; exact h
  · unfold md_w at h; rw [if_neg c, if_neg d] at h; exact h
theorem yk_at {p i : Nat} (hp : p < 2 ^ 31) : nI p - (nI p - nI p / 24 * 24) + nI i = nI (md_at p i) := by
  rw [yk_24 hp, pk_sub (Nat.mod_le _ _), nI_add]; rfl
theorem ya_at {p i : Nat} (hp : p < 2 ^ 31) (h : post (nI (md_at p i))) : wpY_at post (nI p) (nI i) := by
  refine ⟨by decide, ?_⟩
  rw [yk_at hp]; exact h
theorem ya_dp {p i : Nat} (hp : p < 2 ^ 31) (h : post (nI (md_dp p i))) : wpY_deeper post (nI p) (nI i) := by
  unfold wpY_deeper
  refine ya_calls hp ⟨by decide, ya_ins hp (ya_weight (by unfold md_n; omega) ?_)⟩
  have e : nI p - (nI p - nI p / 24 * 24) + nI i + 331776 + nI (p % 24) * nI (md_w (md_n p)) = nI (md_dp p i) := by
    rw [yk_at hp, pk_mul]
    show nI (md_at p i) + nI 331776 + _ = _
    rw [nI_add, nI_add]; rfl
  rw [e]; exact h
theorem ya_cl {p : Nat} (hG : mc_cc g ≤ 24) (hV : md_V g p) (hn : 0 < md_n p) (h : post (nI (md_cl p))) : wpY_caller post (nI p) := by
  have hp := md_Vlt hG hV
  have hn3 := md_Vn hG hV
  unfold wpY_caller
  refine ya_calls (by omega) (nm_r (e' := nI (md_n p - 1)) (pk_sub (b := 1) hn) ?_)
  refine ya_callOf (by omega) (by omega) (ya_at (by omega) (ya_weight (by omega) ?_))
  have e : nI (md_at p (md_c p (md_n p - 1))) - 331776 - nI (md_c p (md_n p - 1)) * nI (md_w (md_n p - 1)) = nI (md_cl p) := by
    have hle : 331776 + md_c p (md_n p - 1) * md_w (md_n p - 1) ≤ md_at p (md_c p (md_n p - 1)) := by
      rcases md_V4 hV with ⟨i, hi, rfl⟩ | ⟨a, i, ha, hi, rfl⟩ | ⟨a, b, i, ha, hb, hi, rfl⟩ | ⟨a, b, c, i, ha, hb, hc, hi, rfl⟩
      · exact absurd hn (by unfold md_n; rw [my_n (by omega) (by omega) (by omega) (by omega)]; omega)
      · rw [show md_n (md_y 1 a 0 0 i) = 1 from my_n (by omega) (by omega) (by omega) (by omega), md_c1 (by omega) (by omega), my_at (by omega)]
        unfold md_w md_y; simp <;> omega
      · rw [show md_n (md_y 2 a b 0 i) = 2 from my_n (by omega) (by omega) (by omega) (by omega), md_c2 (by omega) (by omega), my_at (by omega)]
        unfold md_w md_y; simp <;> omega
      · rw [show md_n (md_y 3 a b c i) = 3 from my_n (by omega) (by omega) (by omega) (by omega), md_c3 (by omega) (by omega), my_at (by omega)]
        unfold md_w md_y; simp <;> omega
    rw [pk_mul]
    show nI _ - nI 331776 - _ = _
    rw [pk_sub (by omega), pk_sub (by omega)]; rfl
  rw [e]; exact h
theorem ya_bh {p : Nat} (hG : md_G g) (hV : md_V g p) (h1 : md_gb (mc_o g (p % 24)) → post (nI (p + 1))) (h0 : ¬ md_gb (mc_o g (p % 24)) → post (-1)) : wpY_behind post ((nI (mc_cc g)), (nI (mc_hc g)), f_many, f_there, f_typed, f_wrongNumber, f_wrongPlace, f_size, f_why, f_height, f_objects, f_line, f_begun, f_last, f_end, (ar (mc_p g)), (ar (mc_e g)), (ar (mc_o g)), (mc_r g), (ar (mc_f g)), (ar (mc_t g)), (ar (mc_g g)), (ar (mc_k g)), a_places, a_heights, a_gone, a_worst, a_frames, a_maps, a_high, a_known, a_mapped, a_now, a_sorts, a_ints, a_classes, a_ready) (nI p) := by
  have hp := md_Vlt hG.1 hV
  have hi := md_Vi hG.1 hV
  have hcc := hG.1
  unfold wpY_behind
  dsimp only
  refine ya_ins (by omega) ⟨vp_in_nI (by omega) (by omega), ?_⟩
  rw [ar_at _ (by omega)]
  refine ya_gb (hG.2.2.1 _) (fun b => xb_1 ?_) (fun b => xb_0 (h0 b))
  rw [nI_1]; exact h1 b
theorem ya_led {p : Nat} (hG : md_G g) (hV : md_V g p) (n0 : mc_o g (p % 24) = 16 → 0 < md_n p) (hs : ∀ q, md_L g p = some q → post (nI q)) (hn : md_L g p = none → post (-1)) : wpY_led post ((nI (mc_cc g)), (nI (mc_hc g)), f_many, f_there, f_typed, f_wrongNumber, f_wrongPlace, f_size, f_why, f_height, f_objects, f_line, f_begun, f_last, f_end, (ar (mc_p g)), (ar (mc_e g)), (ar (mc_o g)), (mc_r g), (ar (mc_f g)), (ar (mc_t g)), (ar (mc_g g)), (ar (mc_k g)), a_places, a_heights, a_gone, a_worst, a_frames, a_maps, a_high, a_known, a_mapped, a_now, a_sorts, a_ints, a_classes, a_ready) (nI p) := by
  have hp := md_Vlt hG.1 hV
  have hi := md_Vi hG.1 hV
  have hcc := hG.1
  have h20 := hG.2.2.1 (p % 24)
  unfold wpY_led
  dsimp only
  refine ya_ins (by omega) ⟨vp_in_nI (by omega) (by omega), nm_r (ar_at _ (by omega)) ?_⟩
  refine pk_eq (mc_o g (p % 24)) 15 (fun c => ⟨vp_in_nI (by omega) (by omega), ?_⟩) (fun c => pk_eq (mc_o g (p % 24)) 16 (fun d => ?_) (fun d => ?_))
  · rw [nI_clamp (by omega), (mn_lim24 hG (i := p % 24) (by omega)).2]
    refine ya_dp (by omega) (hs _ ?_)
    unfold md_L; rw [if_pos c]
  · refine ya_cl hcc hV (n0 d) ?_
    rw [nI_1]
    refine hs _ ?_
    unfold md_L; rw [if_neg c, if_pos d]
  · refine ya_jp h20 (fun e => xb_1 ⟨vp_in_nI (by omega) (by omega), ?_⟩) (fun e => xb_0 (hn ?_))
    · rw [nI_clamp (by omega), (mn_lim24 hG (i := p % 24) (by omega)).2]
      refine ya_at (by omega) (hs _ ?_)
      unfold md_L; rw [if_neg c, if_neg d, if_pos (by omega)]
    · unfold md_L; rw [if_neg c, if_neg d, if_neg (by omega)]
theorem ya_cov {x p : Nat} (hG : md_G g) (hx : x < 4) (hp : p < 2 ^ 31) (h1 : md_cv g x p → post 1) (h0 : ¬ md_cv g x p → post 0) : wpY_covers post ((nI (mc_cc g)), (nI (mc_hc g)), f_many, f_there, f_typed, f_wrongNumber, f_wrongPlace, f_size, f_why, f_height, f_objects, f_line, f_begun, f_last, f_end, (ar (mc_p g)), (ar (mc_e g)), (ar (mc_o g)), (mc_r g), (ar (mc_f g)), (ar (mc_t g)), (ar (mc_g g)), (ar (mc_k g)), a_places, a_heights, a_gone, a_worst, a_frames, a_maps, a_high, a_known, a_mapped, a_now, a_sorts, a_ints, a_classes, a_ready) (nI x) (nI p) := by
  have hb := hG.2.2.2.2.1 x
  unfold wpY_covers
  dsimp only
  refine ⟨vp_in_nI (by omega) (by omega), ya_ins hp ?_⟩
  rw [ar_at _ (by omega)]
  refine pk_lt (p % 24) (mc_f g x) (fun c => h0 (by unfold md_cv; omega)) (fun c => ya_ins hp ⟨vp_in_nI (by omega) (by omega), ?_⟩)
  rw [ar_at _ (by omega)]
  exact pk_le (mc_t g x) (p % 24) (fun d => h0 (by unfold md_cv; omega)) (fun d => h1 ⟨c, d⟩)
theorem ya_number {m : Nat} {K : Nat → Nat} {x : Int32} (hm : m ≤ 41) (h1 : ∀ k, k < m → nI (K k) = x → (∀ j, j < k → ¬ nI (K j) = x) → post (nI k)) (h0 : (∀ j, j < m → ¬ nI (K j) = x) → post (-1)) : wpY_number post (f_length, f_handlers, (nI m), f_there, f_typed, f_wrongNumber, f_wrongPlace, f_size, f_why, f_height, f_objects, f_line, f_begun, f_last, f_end, a_parent, a_begin, a_op, a_arg, a_from, a_to, a_target, a_caught, (ar K), a_heights, a_gone, a_worst, a_frames, a_maps, a_high, a_known, a_mapped, a_now, a_sorts, a_ints, a_classes, a_ready) x := by
  have L : ∀ d k, k + d = m → (∀ j, j < k → ¬ nI (K j) = x) → wY_number_2 post x f_length f_handlers (nI m) f_there f_typed f_wrongNumber f_wrongPlace f_size f_why f_height f_objects f_line f_begun f_last f_end a_parent a_begin a_op a_arg a_from a_to a_target a_caught (ar K) a_heights a_gone a_worst a_frames a_maps a_high a_known a_mapped a_now a_sorts a_ints a_classes a_ready (d + 1) (nI k) := by
    intro d
    induction d with
    | zero =>
      intro k hk hno
      exact pk_le m k (fun _ => h0 (fun j hj => hno j (by omega))) (fun c => by omega)
    | succ d ih =>
      intro k hk hno
      refine pk_le m k (fun c => by omega) (fun c => ⟨vp_in_nI (by omega) (by omega), ?_⟩)
      rw [ar_at K (by omega)]
      refine br_c (fun e => h1 k c e hno) (fun e => nm_r (nI_1 k) (ih (k + 1) (by omega) (fun j hj => ?_)))
      by_cases q : j = k
      · subst q; exact e
      · exact hno j (by omega)
  exact ⟨m + 1, L m 0 (by omega) (fun j hj => by omega)⟩
theorem ya_num {m p : Nat} {K : Nat → Nat} (hm : m ≤ 41) (hK : ∀ k, k < m → K k < 1327104) (hp : p < 1327104) (h1 : ∀ k, k < m → K k = p → post (nI k)) (h0 : (∀ j, j < m → K j ≠ p) → post (-1)) : wpY_number post (f_length, f_handlers, (nI m), f_there, f_typed, f_wrongNumber, f_wrongPlace, f_size, f_why, f_height, f_objects, f_line, f_begun, f_last, f_end, a_parent, a_begin, a_op, a_arg, a_from, a_to, a_target, a_caught, (ar K), a_heights, a_gone, a_worst, a_frames, a_maps, a_high, a_known, a_mapped, a_now, a_sorts, a_ints, a_classes, a_ready) (nI p) := by
  have I : ∀ k, k < m → (nI (K k) = nI p ↔ K k = p) := by
    intro k hk
    have a := hK k hk
    rw [nI_eq (by omega) (by omega)]
  refine ya_number hm (fun k hk e _ => h1 k hk ((I k hk).mp e)) (fun h => h0 (fun j hj e => h j hj ((I j hj).mpr e)))
end
end
section
/-! ===== the reference: the least number that is wrong ===== -/
section
variable {f_length f_handlers f_many f_there f_typed f_wrongNumber f_wrongPlace f_size f_why f_height f_objects f_line f_begun f_last f_end : Int32} {a_parent a_begin a_op a_arg a_from a_to a_target a_caught a_places a_heights a_gone a_worst a_frames a_maps a_high a_known a_mapped a_now a_sorts a_ints a_classes a_ready : Nat → Int32}
variable {g : md_C} {post : Int32 → Prop}
theorem yw_177 {p h : Nat} (h20 : mc_o g (p % 24) < 20) (hn : md_n p ≤ 3) (f1 : ¬ md_f1 g p) (f2 : ¬ md_f2 g p h) (f3 : ¬ md_f3 g p h) (f4 : ¬ md_f4 g p) (H : post (nI (md_W g p h))) : wY_wrongAt_177 post (nI (mc_o g (p % 24))) (nI (md_n p)) f_length f_handlers f_many f_there f_typed f_wrongNumber f_wrongPlace f_size f_why f_height f_objects f_line f_begun f_last f_end a_parent a_begin a_op a_arg a_from a_to a_target a_caught a_places a_heights a_gone a_worst a_frames a_maps a_high a_known a_mapped a_now a_sorts a_ints a_classes a_ready := by
  unfold wY_wrongAt_177
  refine pk_eq (mc_o g (p % 24)) 16 (fun c1 => pk_eq (md_n p) 0 (fun c2 => ?_) (fun c2 => ?_)) (fun c1 => ?_)
  · rw [mw_5 f1 f2 f3 f4 ⟨c1, c2⟩] at H; exact H
  · rw [mw_0 f1 f2 f3 f4 (fun z => c2 z.2)] at H; exact H
  · rw [mw_0 f1 f2 f3 f4 (fun z => c1 z.1)] at H; exact H
theorem yw_81 {p h : Nat} (hp : p < 1327104) (h20 : mc_o g (p % 24) < 20) (hn : md_n p ≤ 3) (hh : h ≤ 6) (f1 : ¬ md_f1 g p) (H : post (nI (md_W g p h))) : wY_wrongAt_81 post (nI p) (nI h) (nI (p % 24)) (nI (mc_o g (p % 24))) (nI (md_n p)) f_length f_handlers f_many f_there f_typed f_wrongNumber f_wrongPlace f_size f_why f_height f_objects f_line f_begun f_last f_end a_parent a_begin a_op a_arg a_from a_to a_target a_caught a_places a_heights a_gone a_worst a_frames a_maps a_high a_known a_mapped a_now a_sorts a_ints a_classes a_ready := by
  have t2 := md_tk2 (mc_o g (p % 24))
  have p2 := md_pu2 (mc_o g (p % 24))
  have hc24 : ∀ j, md_c p j < 24 := by
    intro j; unfold md_c; split
    · omega
    · split <;> omega
  unfold wY_wrongAt_81
  refine ya_tk h20 (pk_le (md_tk (mc_o g (p % 24))) h (fun c => ya_tk h20 (ya_pu h20 ?_)) (fun c => ?_))
  · have f2 : ¬ md_f2 g p h := by unfold md_f2; omega
    have I := mi_le6 h (by omega) _ (show md_tk (mc_o g (p % 24)) < 3 by omega) _ (show md_pu (mc_o g (p % 24)) < 3 by omega)
    refine br_c (fun d => ?_) (fun d => ?_)
    · rw [I] at d
      have f3 : ¬ md_f3 g p h := by unfold md_f3; omega
      -- x7 is 1 exactly if one of the calls so far, or three calls
      have L : ∀ e k (b : Bool), k + e = md_n p → (b = true ↔ md_n p = 3 ∨ ∃ j, j < k ∧ md_c p j = p % 24) → wY_wrongAt_128 post (nI p) (nI (p % 24)) (nI (mc_o g (p % 24))) (nI (md_n p)) f_length f_handlers f_many f_there f_typed f_wrongNumber f_wrongPlace f_size f_why f_height f_objects f_line f_begun f_last f_end a_parent a_begin a_op a_arg a_from a_to a_target a_caught a_places a_heights a_gone a_worst a_frames a_maps a_high a_known a_mapped a_now a_sorts a_ints a_classes a_ready (e + 1) (mf_b b) (nI k) := by
        intro e
        induction e with
        | zero =>
          intro k b hk hb
          have ek : k = md_n p := by omega
          subst ek
          have hb4 : mc_o g (p % 24) = 15 → (b = true ↔ md_f4 g p) := by
            intro o
            rw [hb]
            constructor
            · rintro (z | ⟨j, hj, ej⟩)
              · exact ⟨o, Or.inl z⟩
              · have : j = 0 ∨ j = 1 ∨ j = 2 := by omega
                rcases this with rfl | rfl | rfl
                · exact ⟨o, Or.inr (Or.inl ⟨by omega, ej⟩)⟩
                · exact ⟨o, Or.inr (Or.inr (Or.inl ⟨by omega, ej⟩))⟩
                · exact ⟨o, Or.inr (Or.inr (Or.inr ⟨by omega, ej⟩))⟩
            · rintro ⟨_, z | ⟨z1, z2⟩ | ⟨z1, z2⟩ | ⟨z1, z2⟩⟩
              · exact Or.inl z
              · exact Or.inr ⟨0, by omega, z2⟩
              · exact Or.inr ⟨1, by omega, z2⟩
              · exact Or.inr ⟨2, by omega, z2⟩
          refine pk_le (md_n p) (md_n p) (fun _ => ?_) (fun z => by omega)
          refine pk_eq (mc_o g (p % 24)) 15 (fun o => ?_) (fun o => yw_177 h20 hn f1 f2 f3 (fun z => o z.1) H)
          cases b with
          | true =>
            refine xb_1 ?_
            rw [mw_4 f1 f2 f3 ((hb4 o).mp rfl)] at H; exact H
          | false =>
            refine xb_0 (yw_177 h20 hn f1 f2 f3 (fun z => ?_) H)
            have := (hb4 o).mpr z
            cases this
        | succ e ih =>
          intro k b hk hb
          refine pk_le (md_n p) k (fun z => by omega) (fun _ => ya_callOf (by omega) (by omega) ?_)
          refine pk_eq (md_c p k) (p % 24) (fun z => ?_) (fun z => ?_) rfl rfl (by have := hc24 k; omega) (by omega)
          · refine nm_r (e' := mf_b true) (by cases b <;> decide) (nm_r (nI_1 k) (ih (k + 1) true (by omega) ?_))
            constructor
            · intro _; exact Or.inr ⟨k, by omega, z⟩
            · intro _; rfl
          · refine nm_r (e' := mf_b b) (by cases b <;> decide) (nm_r (nI_1 k) (ih (k + 1) b (by omega) ?_))
            rw [hb]
            constructor
            · rintro (y | ⟨j, hj, ej⟩)
              · exact Or.inl y
              · exact Or.inr ⟨j, by omega, ej⟩
            · rintro (y | ⟨j, hj, ej⟩)
              · exact Or.inl y
              · by_cases ejk : j = k
                · subst ejk; exact absurd ej z
                · exact Or.inr ⟨j, by omega, ej⟩
      refine pk_eq (md_n p) 3 (fun c3 => ⟨md_n p + 1, ?_⟩) (fun c3 => ⟨md_n p + 1, ?_⟩)
      · exact L (md_n p) 0 true (by omega) ⟨fun _ => Or.inl c3, fun _ => rfl⟩
      · refine L (md_n p) 0 false (by omega) ⟨fun z => (by cases z), ?_⟩
        rintro (z | ⟨j, hj, _⟩)
        · exact absurd z c3
        · omega
    · rw [I] at d
      rw [mw_3 f1 f2 (by unfold md_f3; omega)] at H; exact H
  · rw [mw_2 f1 c] at H; exact H
theorem ya_wr {p h : Nat} (hG : md_G g) (hV : md_V g p) (hh : h ≤ 6) (H : post (nI (md_W g p h))) : wpY_wrongAt post ((nI (mc_cc g)), (nI (mc_hc g)), f_many, f_there, f_typed, f_wrongNumber, f_wrongPlace, f_size, f_why, f_height, f_objects, f_line, f_begun, f_last, f_end, (ar (mc_p g)), (ar (mc_e g)), (ar (mc_o g)), (mc_r g), (ar (mc_f g)), (ar (mc_t g)), (ar (mc_g g)), (ar (mc_k g)), a_places, a_heights, a_gone, a_worst, a_frames, a_maps, a_high, a_known, a_mapped, a_now, a_sorts, a_ints, a_classes, a_ready) (nI p) (nI h) := by
  have hcc := hG.1
  have hp := md_Vlt hcc hV
  have hi := md_Vi hcc hV
  have h20 := hG.2.2.1 (p % 24)
  have hn := md_Vn hcc hV
  unfold wpY_wrongAt
  dsimp only
  refine ya_ins (by omega) ⟨vp_in_nI (by omega) (by omega), nm_r (ar_at _ (by omega)) (ya_calls (by omega) ?_)⟩
  have S : ¬ (md_gb (mc_o g (p % 24)) ∧ p % 24 + 1 = mc_cc g) → wY_wrongAt_50 post (nI p) (nI h) (nI (p % 24)) (nI (mc_o g (p % 24))) (nI (md_n p)) (nI (mc_cc g)) (nI (mc_hc g)) f_many f_there f_typed f_wrongNumber f_wrongPlace f_size f_why f_height f_objects f_line f_begun f_last f_end (ar (mc_p g)) (ar (mc_e g)) (ar (mc_o g)) (mc_r g) (ar (mc_f g)) (ar (mc_t g)) (ar (mc_g g)) (ar (mc_k g)) a_places a_heights a_gone a_worst a_frames a_maps a_high a_known a_mapped a_now a_sorts a_ints a_classes a_ready := by
    intro nb
    unfold wY_wrongAt_50
    refine pk_eq (mc_o g (p % 24)) 16 (fun c => pk_le (md_n p) 0 (fun d => ?_) (fun d => ?_)) (fun c => ?_)
    · refine yw_81 hp h20 hn hh ?_ H
      rintro (z | ⟨_, z, _⟩)
      · exact nb z
      · omega
    · have e1 : nI (md_n p) - 1 = nI (md_n p - 1) := pk_sub (b := 1) d
      rw [e1]
      refine ya_callOf (by omega) (by omega) ?_
      rw [nI_1]
      obtain ⟨v, e, _⟩ := md_Vcl hcc hV d
      have hlt := md_Vi hcc v
      refine pk_eq (md_c p (md_n p - 1) + 1) (mc_cc g) (fun z => ?_) (fun z => ?_)
      · rw [mw_1 (Or.inr ⟨c, d, z⟩)] at H; exact H
      · refine yw_81 hp h20 hn hh ?_ H
        rintro (y | ⟨_, _, y⟩)
        · exact nb y
        · exact z y
    · refine yw_81 hp h20 hn hh ?_ H
      rintro (z | ⟨z, _, _⟩)
      · exact nb z
      · exact c z
  rw [nI_1]
  refine pk_eq (p % 24 + 1) (mc_cc g) (fun c => ?_) (fun c => ?_)
  · unfold wY_wrongAt_34
    refine xb_1 (ya_gb h20 (fun b => xb_1 ?_) (fun b => xb_0 (S (fun z => b z.1))))
    rw [mw_1 (Or.inl ⟨b, c⟩)] at H; exact H
  · unfold wY_wrongAt_34
    exact xb_0 (S (fun z => c z.2))
end
end
section
/-! ===== the reference: walking ===== -/
section
variable {f_length f_handlers f_many f_there f_typed f_wrongNumber f_wrongPlace f_size f_why f_height f_objects f_line f_begun f_last f_end : Int32} {a_parent a_begin a_op a_arg a_from a_to a_target a_caught a_places a_heights a_gone a_worst a_frames a_maps a_high a_known a_mapped a_now a_sorts a_ints a_classes a_ready : Nat → Int32}
variable {g : md_C}
/-- m, K, heights, gone, worst, first depths (kept by nobody) -/
abbrev my_S : Type := Nat × (Nat → Nat) × (Nat → Nat) × (Nat → Nat) × (Nat → Nat) × (Nat → Nat)
def ys_m (s : my_S) : Nat := s.1
def ys_K (s : my_S) : Nat → Nat := s.2.1
def ys_w (s : my_S) : Nat → Nat := s.2.2.1
def ys_l (s : my_S) : Nat → Nat := s.2.2.2.1
def ys_f (s : my_S) : Nat → Nat := s.2.2.2.2.1
def ys_D (s : my_S) : Nat → Nat := s.2.2.2.2.2
def my_f (g : md_C) (p x f : Nat) : Prop := (∀ d, x.testBit d = true → md_W g p d = 0 ∨ f ≤ md_W g p d) ∧ (f = 9 ∨ ∃ d, x.testBit d = true ∧ md_W g p d = f ∧ f ≠ 0)
def my_J (g : md_C) (E : Nat → Nat → Prop) (s : my_S) : Prop :=
  me_I g 41 (ys_m s = 41) E (ys_m s) (ys_K s) (ys_w s) (ys_l s) (ys_D s) ∧ (∀ k, k < ys_m s → my_f g (ys_K s k) (ys_l s k) (ys_f s k))
def my_le (s z : my_S) : Prop := ys_m s ≤ ys_m z ∧ (∀ k, k < ys_m s → ys_K z k = ys_K s k ∧ ys_l z k = ys_l s k) ∧ me_mu 41 (ys_m z) (ys_l z) ≤ me_mu 41 (ys_m s) (ys_l s) ∧ (ys_m s = 41 → ys_m z = 41) ∧ (∀ q d, me_at (ys_m s) (ys_K s) (ys_w s) q d → me_at (ys_m z) (ys_K z) (ys_w z) q d)
theorem my_ler (s : my_S) : my_le s s := ⟨Nat.le_refl _, fun _ _ => ⟨rfl, rfl⟩, Nat.le_refl _, fun h => h, fun _ _ h => h⟩
theorem my_let {s z y : my_S} (a : my_le s z) (b : my_le z y) : my_le s y := by
  obtain ⟨a1, a2, a3, a4, a5⟩ := a
  obtain ⟨b1, b2, b3, b4, b5⟩ := b
  refine ⟨by omega, fun k hk => ?_, by omega, fun h => b4 (a4 h), fun q d h => b5 q d (a5 q d h)⟩
  have x := a2 k hk
  have y := b2 k (by omega)
  exact ⟨y.1.trans x.1, y.2.trans x.2⟩
theorem ye_KV {E : Nat → Nat → Prop} {s : my_S} (hG : md_G g) (hM : md_M g) (J : my_J g E s) {k : Nat} (hk : k < ys_m s) : md_V g (ys_K s k) :=
  (md_RV hG hM (J.1.2.2.2.1 k _ hk (J.1.2.2.2.2.2.2.2 k hk))).1
theorem ye_come {post : SY → Prop} {E : Nat → Nat → Prop} {s : my_S} {p h : Nat} (hG : md_G g) (hM : md_M g) (J : my_J g E s) (hE : ∀ k d, ys_m s ≤ k → ¬ E k d) (r : md_R g p h) (H : ∀ z : my_S, my_J g E z → my_le s z → (ys_m z = 41 ∨ me_at (ys_m z) (ys_K z) (ys_w z) p h) → post ((nI (mc_cc g)), (nI (mc_hc g)), (nI (ys_m z)), f_there, f_typed, f_wrongNumber, f_wrongPlace, f_size, f_why, f_height, f_objects, f_line, f_begun, f_last, f_end, (ar (mc_p g)), (ar (mc_e g)), (ar (mc_o g)), (mc_r g), (ar (mc_f g)), (ar (mc_t g)), (ar (mc_g g)), (ar (mc_k g)), (ar (ys_K z)), (ar (ys_w z)), (ar (ys_l z)), (ar (ys_f z)), a_frames, a_maps, a_high, a_known, a_mapped, a_now, a_sorts, a_ints, a_classes, a_ready)) : wpY_come post ((nI (mc_cc g)), (nI (mc_hc g)), (nI (ys_m s)), f_there, f_typed, f_wrongNumber, f_wrongPlace, f_size, f_why, f_height, f_objects, f_line, f_begun, f_last, f_end, (ar (mc_p g)), (ar (mc_e g)), (ar (mc_o g)), (mc_r g), (ar (mc_f g)), (ar (mc_t g)), (ar (mc_g g)), (ar (mc_k g)), (ar (ys_K s)), (ar (ys_w s)), (ar (ys_l s)), (ar (ys_f s)), a_frames, a_maps, a_high, a_known, a_mapped, a_now, a_sorts, a_ints, a_classes, a_ready) (nI p) (nI h) := by
  have hm := J.1.1
  obtain ⟨vp, hh⟩ := md_RV hG hM r
  have hp := md_Vlt hG.1 vp
  have hK : ∀ k, k < ys_m s → ys_K s k < 1327104 := fun k hk => md_Vlt hG.1 (ye_KV hG hM J hk)
  unfold wpY_come
  dsimp only
  refine ya_num hm hK hp (fun j hj e => ?_) (fun hn => ?_)
  · refine xb_n' (by omega) ?_
    unfold wY_come_20
    refine xb_n' (by omega) ⟨vp_in_nI (by omega) (by omega), vp_in_nI (by omega) (by omega), nm_r (e' := ar (mf_up (ys_w s) j (ys_w s j ||| 2 ^ h))) ?_ ?_⟩
    · rw [ar_at _ (by omega), mb_or (by omega), ar_ui _ _ (by omega)]
    · obtain ⟨I', at', up'⟩ := me_old J.1 hj e r hh (w' := mf_up (ys_w s) j (ys_w s j ||| 2 ^ h)) (fun k _ nk => up_n nk) up_s
      exact H (ys_m s, ys_K s, mf_up (ys_w s) j (ys_w s j ||| 2 ^ h), ys_l s, ys_f s, ys_D s) ⟨I', J.2⟩ ⟨Nat.le_refl _, fun _ _ => ⟨rfl, rfl⟩, Nat.le_refl _, fun h => h, up'⟩ (Or.inr at')
  · refine xb_m' ?_
    refine pk_eq (ys_m s) 41 (fun e41 => H s J (my_ler s) (Or.inl e41)) (fun n41 => ?_)
    unfold wY_come_20
    refine xb_m' ?_
    refine nm_r (nI_1 _) ⟨vp_in_nI (by omega) (by omega), nm_r (ar_ui _ _ (by omega)) ⟨vp_in_nI (by omega) (by omega), nm_r (ar_ui _ 0 (by omega)) ⟨vp_in_nI (by omega) (by omega), nm_r (ar_ui _ 0 (by omega)) ⟨vp_in_nI (by omega) (by omega), nm_r (ar_ui _ 9 (by omega)) ?_⟩⟩⟩⟩
    refine ⟨vp_in_nI (by omega) (by omega), vp_in_nI (by omega) (by omega), nm_r (e' := ar (mf_up (mf_up (ys_w s) (ys_m s) 0) (ys_m s) (2 ^ h))) ?_ ?_⟩
    · rw [ar_at _ (by omega), mb_or (by omega), ar_ui _ _ (by omega), up_s, Nat.zero_or]
    · have hs : ∀ k, k < ys_m s → mf_up (ys_K s) (ys_m s) p k = ys_K s k ∧ mf_up (mf_up (ys_w s) (ys_m s) 0) (ys_m s) (2 ^ h) k = ys_w s k ∧ mf_up (ys_l s) (ys_m s) 0 k = ys_l s k ∧ mf_up (ys_D s) (ys_m s) h k = ys_D s k := by
        intro k hk
        rw [up_n (by omega), up_n (by omega), up_n (by omega), up_n (by omega), up_n (by omega)]
        exact ⟨rfl, rfl, rfl, rfl⟩
      have J1 : me_I g 41 (ys_m s + 1 = 41) E (ys_m s) (ys_K s) (ys_w s) (ys_l s) (ys_D s) := me_ov J.1 (fun z => absurd z n41)
      obtain ⟨I', at', up'⟩ := me_new J1 (by omega) hn r hh hs up_s up_s up_s up_s (fun d => hE _ d (Nat.le_refl _))
      refine H (ys_m s + 1, mf_up (ys_K s) (ys_m s) p, mf_up (mf_up (ys_w s) (ys_m s) 0) (ys_m s) (2 ^ h), mf_up (ys_l s) (ys_m s) 0, mf_up (ys_f s) (ys_m s) 9, mf_up (ys_D s) (ys_m s) h) ⟨I', fun k hk => ?_⟩ ⟨Nat.le_succ _, fun k hk => ⟨(hs k hk).1, (hs k hk).2.2.1⟩, me_mu_new (fun k hk => (hs k hk).2.2.1) up_s, fun z => absurd z n41, up'⟩ (Or.inr at')
      show my_f g (mf_up (ys_K s) (ys_m s) p k) (mf_up (ys_l s) (ys_m s) 0 k) (mf_up (ys_f s) (ys_m s) 9 k)
      by_cases e : k = ys_m s
      · subst e; rw [up_s, up_s, up_s]
        refine ⟨fun d hd => ?_, Or.inl rfl⟩
        rw [Nat.zero_testBit] at hd; cases hd
      · have hk' : k < ys_m s + 1 := hk
        rw [up_n e, up_n e, up_n e]; exact J.2 k (by omega)
def my_dn (z : my_S) (C : Nat → Nat → Prop) : Prop := ∀ p h, C p h → ys_m z = 41 ∨ me_at (ys_m z) (ys_K z) (ys_w z) p h
theorem my_dnl {z y : my_S} {C : Nat → Nat → Prop} (a : my_le z y) (h : my_dn z C) : my_dn y C := by
  intro p d c
  rcases h p d c with x | x
  · exact Or.inl (a.2.2.2.1 x)
  · exact Or.inr (a.2.2.2.2 p d x)
theorem ye_109 {post : SY → Prop} {s : my_S} {k d p : Nat} (hG : md_G g) (hM : md_M g) (hp : md_R g p d) (hW : md_W g p d = 0) (hk : k < ys_m s) (hKp : ys_K s k = p) (H : ∀ z : my_S, my_J g (fun _ _ => False) z → my_le s z → post ((nI (mc_cc g)), (nI (mc_hc g)), (nI (ys_m z)), f_there, f_typed, f_wrongNumber, f_wrongPlace, f_size, f_why, f_height, f_objects, f_line, f_begun, f_last, f_end, (ar (mc_p g)), (ar (mc_e g)), (ar (mc_o g)), (mc_r g), (ar (mc_f g)), (ar (mc_t g)), (ar (mc_g g)), (ar (mc_k g)), (ar (ys_K z)), (ar (ys_w z)), (ar (ys_l z)), (ar (ys_f z)), a_frames, a_maps, a_high, a_known, a_mapped, a_now, a_sorts, a_ints, a_classes, a_ready)) : ∀ e x, x + e = mc_hc g → ∀ z : my_S, my_J g (fun k' d' => k' = k ∧ d' = d) z → my_le s z → my_dn z (mx_T g x p d) → wY_goOn_109 post (nI p) (e + 1) (nI x) (nI (mc_cc g)) (nI (mc_hc g)) (nI (ys_m z)) f_there f_typed f_wrongNumber f_wrongPlace f_size f_why f_height f_objects f_line f_begun f_last f_end (ar (mc_p g)) (ar (mc_e g)) (ar (mc_o g)) (mc_r g) (ar (mc_f g)) (ar (mc_t g)) (ar (mc_g g)) (ar (mc_k g)) (ar (ys_K z)) (ar (ys_w z)) (ar (ys_l z)) (ar (ys_f z)) a_frames a_maps a_high a_known a_mapped a_now a_sorts a_ints a_classes a_ready := by
  have vp := (md_RV hG hM hp).1
  have hpl := md_Vlt hG.1 vp
  have hhc := hG.2.1
  intro e
  induction e with
  | zero =>
    intro x hx z J le dn
    refine pk_le (mc_hc g) x (fun _ => ?_) (fun c => by omega)
    refine H z ⟨me_close J.1 (fun _ p' h' t => dn p' h' ?_), J.2⟩ le
    rw [(le.2.1 k hk).1, hKp] at t
    have : x = mc_hc g := by omega
    subst this; exact t
  | succ e ih =>
    intro x hx z J le dn
    refine pk_le (mc_hc g) x (fun c => by omega) (fun _ => ⟨vp_in_nI (by omega) (by omega), ?_⟩)
    rw [ar_at _ (by omega)]
    refine ya_at (by omega) (ya_cov hG (by omega) (by omega) (fun cv => xb_1 ?_) (fun cv => xb_0 ?_))
    · have r' : md_R g (md_at p (mc_g g x)) 1 := md_Rs hp ⟨hW, Or.inr (Or.inr ⟨x, by omega, cv, rfl, rfl⟩)⟩
      refine ye_come (h := 1) hG hM J (fun k' d' h1 h2 => ?_) r' (fun y Jy ley at' => ?_)
      · have := le.1; omega
      · refine nm_r (nI_1 x) (ih (x + 1) (by omega) y Jy (my_let le ley) ?_)
        rintro p' h' (t | t | ⟨i, hi, c1, c2, c3⟩)
        · exact my_dnl ley dn p' h' (Or.inl t)
        · exact my_dnl ley dn p' h' (Or.inr (Or.inl t))
        · by_cases ei : i = x
          · subst ei; rw [c2, c3]; exact at'
          · exact my_dnl ley dn p' h' (Or.inr (Or.inr ⟨i, by omega, c1, c2, c3⟩))
    · refine nm_r (nI_1 x) (ih (x + 1) (by omega) z J le ?_)
      rintro p' h' (t | t | ⟨i, hi, c1, c2, c3⟩)
      · exact dn p' h' (Or.inl t)
      · exact dn p' h' (Or.inr (Or.inl t))
      · by_cases ei : i = x
        · subst ei; exact absurd c1 cv
        · exact dn p' h' (Or.inr (Or.inr ⟨i, by omega, c1, c2, c3⟩))
end
end
section
/-! ===== the reference: going on, and the whole walk ===== -/
section
variable {f_length f_handlers f_many f_there f_typed f_wrongNumber f_wrongPlace f_size f_why f_height f_objects f_line f_begun f_last f_end : Int32} {a_parent a_begin a_op a_arg a_from a_to a_target a_caught a_places a_heights a_gone a_worst a_frames a_maps a_high a_known a_mapped a_now a_sorts a_ints a_classes a_ready : Nat → Int32}
variable {g : md_C}
theorem ye_93 {post : SY → Prop} {s : my_S} {k d p : Nat} {x8 : Int32} (hG : md_G g) (hM : md_M g) (hp : md_R g p d) (hW : md_W g p d = 0) (hk : k < ys_m s) (hKp : ys_K s k = p) (H : ∀ z : my_S, my_J g (fun _ _ => False) z → my_le s z → post ((nI (mc_cc g)), (nI (mc_hc g)), (nI (ys_m z)), f_there, f_typed, f_wrongNumber, f_wrongPlace, f_size, f_why, f_height, f_objects, f_line, f_begun, f_last, f_end, (ar (mc_p g)), (ar (mc_e g)), (ar (mc_o g)), (mc_r g), (ar (mc_f g)), (ar (mc_t g)), (ar (mc_g g)), (ar (mc_k g)), (ar (ys_K z)), (ar (ys_w z)), (ar (ys_l z)), (ar (ys_f z)), a_frames, a_maps, a_high, a_known, a_mapped, a_now, a_sorts, a_ints, a_classes, a_ready)) {z : my_S} (J : my_J g (fun k' d' => k' = k ∧ d' = d) z) (le : my_le s z) (dn : my_dn z (fun p' h' => md_gb (mc_o g (p % 24)) ∧ p' = p + 1 ∧ h' = md_th g p d)) (h8 : (md_L g p = none ∧ x8 = -1) ∨ ∃ q, md_L g p = some q ∧ x8 = nI q) : wY_goOn_93 post (nI p) (nI (md_th g p d)) x8 (nI (mc_cc g)) (nI (mc_hc g)) (nI (ys_m z)) f_there f_typed f_wrongNumber f_wrongPlace f_size f_why f_height f_objects f_line f_begun f_last f_end (ar (mc_p g)) (ar (mc_e g)) (ar (mc_o g)) (mc_r g) (ar (mc_f g)) (ar (mc_t g)) (ar (mc_g g)) (ar (mc_k g)) (ar (ys_K z)) (ar (ys_w z)) (ar (ys_l z)) (ar (ys_f z)) a_frames a_maps a_high a_known a_mapped a_now a_sorts a_ints a_classes a_ready := by
  unfold wY_goOn_93
  rcases h8 with ⟨hq, rfl⟩ | ⟨q, hq, rfl⟩
  · refine xb_m ⟨mc_hc g + 1, ye_109 hG hM hp hW hk hKp H (mc_hc g) 0 (by omega) z J le ?_⟩
    rintro p' h' (t | ⟨c1, c2⟩ | ⟨i, hi, _⟩)
    · exact dn p' h' t
    · rw [hq] at c1; cases c1
    · omega
  · have r' : md_R g q (md_th g p d) := md_Rs hp ⟨hW, Or.inr (Or.inl ⟨hq, rfl⟩)⟩
    have vq := (md_RV hG hM r').1
    have := md_Vlt hG.1 vq
    refine xb_n (by omega) (ye_come hG hM J (fun k' d' h1 h2 => ?_) r' (fun y Jy ley at' => ⟨mc_hc g + 1, ?_⟩))
    · have := le.1; omega
    · refine ye_109 hG hM hp hW hk hKp H (mc_hc g) 0 (by omega) y Jy (my_let le ley) ?_
      rintro p' h' (t | ⟨c1, c2⟩ | ⟨i, hi, _⟩)
      · exact my_dnl ley dn p' h' t
      · rw [hq] at c1; cases c1; rw [c2]; exact at'
      · omega
theorem ye_goOn {post : SY → Prop} {s : my_S} {k d : Nat} (hG : md_G g) (hM : md_M g) (J : my_J g (fun _ _ => False) s) (hk : k < ys_m s) (hb : (ys_w s k).testBit d = true) (hnl : ¬ (ys_l s k).testBit d = true) (H : ∀ z : my_S, my_J g (fun _ _ => False) z → me_mu 41 (ys_m z) (ys_l z) < me_mu 41 (ys_m s) (ys_l s) → ys_m s ≤ ys_m z → post ((nI (mc_cc g)), (nI (mc_hc g)), (nI (ys_m z)), f_there, f_typed, f_wrongNumber, f_wrongPlace, f_size, f_why, f_height, f_objects, f_line, f_begun, f_last, f_end, (ar (mc_p g)), (ar (mc_e g)), (ar (mc_o g)), (mc_r g), (ar (mc_f g)), (ar (mc_t g)), (ar (mc_g g)), (ar (mc_k g)), (ar (ys_K z)), (ar (ys_w z)), (ar (ys_l z)), (ar (ys_f z)), a_frames, a_maps, a_high, a_known, a_mapped, a_now, a_sorts, a_ints, a_classes, a_ready)) : wpY_goOn post ((nI (mc_cc g)), (nI (mc_hc g)), (nI (ys_m s)), f_there, f_typed, f_wrongNumber, f_wrongPlace, f_size, f_why, f_height, f_objects, f_line, f_begun, f_last, f_end, (ar (mc_p g)), (ar (mc_e g)), (ar (mc_o g)), (mc_r g), (ar (mc_f g)), (ar (mc_t g)), (ar (mc_g g)), (ar (mc_k g)), (ar (ys_K s)), (ar (ys_w s)), (ar (mf_up (ys_l s) k (ys_l s k ||| 2 ^ d))), (ar (ys_f s)), a_frames, a_maps, a_high, a_known, a_mapped, a_now, a_sorts, a_ints, a_classes, a_ready) (nI k) (nI d) := by
  have hcc := hG.1
  have hm := J.1.1
  have r := J.1.2.2.2.1 k d hk hb
  obtain ⟨vp, hd⟩ := md_RV hG hM r
  have Jf := J.2 k hk
  have JK : ∀ p, p = ys_K s k → md_R g p d → md_V g p → wpY_goOn post ((nI (mc_cc g)), (nI (mc_hc g)), (nI (ys_m s)), f_there, f_typed, f_wrongNumber, f_wrongPlace, f_size, f_why, f_height, f_objects, f_line, f_begun, f_last, f_end, (ar (mc_p g)), (ar (mc_e g)), (ar (mc_o g)), (mc_r g), (ar (mc_f g)), (ar (mc_t g)), (ar (mc_g g)), (ar (mc_k g)), (ar (ys_K s)), (ar (ys_w s)), (ar (mf_up (ys_l s) k (ys_l s k ||| 2 ^ d))), (ar (ys_f s)), a_frames, a_maps, a_high, a_known, a_mapped, a_now, a_sorts, a_ints, a_classes, a_ready) (nI k) (nI d) := by
    intro p ep r vp
    rw [← ep] at Jf
    have hp := md_Vlt hcc vp
    have hi := md_Vi hcc vp
    have h20 := hG.2.2.1 (p % 24)
    have W5 := ml_W5 g p d
    have mk : ∀ f', my_f g p (ys_l s k ||| 2 ^ d) f' → my_J g (fun k' d' => k' = k ∧ d' = d) (ys_m s, ys_K s, ys_w s, mf_up (ys_l s) k (ys_l s k ||| 2 ^ d), mf_up (ys_f s) k f', ys_D s) := by
      intro f' Ff
      refine ⟨me_mark J.1 hk hb (fun k' _ nk => up_n nk) up_s, fun k' hk' => ?_⟩
      show my_f g (ys_K s k') (mf_up (ys_l s) k (ys_l s k ||| 2 ^ d) k') (mf_up (ys_f s) k f' k')
      by_cases e : k' = k
      · subst e; rw [up_s, up_s, ← ep]; exact Ff
      · rw [up_n e, up_n e]; exact J.2 k' hk'
    have mk0 : my_f g p (ys_l s k ||| 2 ^ d) (ys_f s k) → my_J g (fun k' d' => k' = k ∧ d' = d) (ys_m s, ys_K s, ys_w s, mf_up (ys_l s) k (ys_l s k ||| 2 ^ d), ys_f s, ys_D s) := by
      intro Ff
      refine ⟨me_mark J.1 hk hb (fun k' _ nk => up_n nk) up_s, fun k' hk' => ?_⟩
      show my_f g (ys_K s k') (mf_up (ys_l s) k (ys_l s k ||| 2 ^ d) k') (ys_f s k')
      by_cases e : k' = k
      · subst e; rw [up_s, ← ep]; exact Ff
      · rw [up_n e]; exact J.2 k' hk'
    have mu2 : me_mu 41 (ys_m s) (mf_up (ys_l s) k (ys_l s k ||| 2 ^ d)) < me_mu 41 (ys_m s) (ys_l s) := me_mu_mark hm hk (by omega) hnl (fun k' _ nk => up_n nk) up_s
    unfold wpY_goOn
    dsimp only
    refine ⟨vp_in_nI (by omega) (by omega), nm_r (e' := nI p) (by rw [ar_at _ (by omega), ep]) ?_⟩
    refine ya_ins (by omega) ⟨vp_in_nI (by omega) (by omega), nm_r (ar_at _ (by omega)) (ya_wr hG vp hd ?_)⟩
    refine pk_le (md_W g p d) 0 (fun c => ?_) (fun c => ?_)
    · have W0 : md_W g p d = 0 := by omega
      obtain ⟨f1, f2, f3, f4, f5⟩ := md_W0 W0
      have t2 := md_tk2 (mc_o g (p % 24))
      have p2 := md_pu2 (mc_o g (p % 24))
      have J2 := mk0 ⟨fun d' hd' => by
        rcases mb_tb.mp hd' with q | q
        · exact Jf.1 d' q
        · subst q; exact Or.inl W0, by
        rcases Jf.2 with q | ⟨d', q1, q2⟩
        · exact Or.inl q
        · exact Or.inr ⟨d', mb_tb.mpr (Or.inl q1), q2⟩⟩
      have H2 : ∀ z : my_S, my_J g (fun _ _ => False) z → my_le (ys_m s, ys_K s, ys_w s, mf_up (ys_l s) k (ys_l s k ||| 2 ^ d), ys_f s, ys_D s) z → post ((nI (mc_cc g)), (nI (mc_hc g)), (nI (ys_m z)), f_there, f_typed, f_wrongNumber, f_wrongPlace, f_size, f_why, f_height, f_objects, f_line, f_begun, f_last, f_end, (ar (mc_p g)), (ar (mc_e g)), (ar (mc_o g)), (mc_r g), (ar (mc_f g)), (ar (mc_t g)), (ar (mc_g g)), (ar (mc_k g)), (ar (ys_K z)), (ar (ys_w z)), (ar (ys_l z)), (ar (ys_f z)), a_frames, a_maps, a_high, a_known, a_mapped, a_now, a_sorts, a_ints, a_classes, a_ready) := by
        intro z Jz le
        exact H z Jz (Nat.lt_of_le_of_lt le.2.2.1 mu2) le.1
      refine ya_tk h20 (ya_pu h20 (nm_r (e' := nI (md_th g p d)) (mi_add d (by omega) _ (by omega) _ (by omega) (by omega)) ?_))
      have hn0 : mc_o g (p % 24) = 16 → 0 < md_n p := fun o => Nat.pos_of_ne_zero (fun z => f5 ⟨o, z⟩)
      have rest : ∀ x8 : Int32, ((md_L g p = none ∧ x8 = -1) ∨ ∃ q, md_L g p = some q ∧ x8 = nI q) → ∀ z, my_J g (fun k' d' => k' = k ∧ d' = d) z → my_le (ys_m s, ys_K s, ys_w s, mf_up (ys_l s) k (ys_l s k ||| 2 ^ d), ys_f s, ys_D s) z → my_dn z (fun p' h' => md_gb (mc_o g (p % 24)) ∧ p' = p + 1 ∧ h' = md_th g p d) → wY_goOn_93 post (nI p) (nI (md_th g p d)) x8 (nI (mc_cc g)) (nI (mc_hc g)) (nI (ys_m z)) f_there f_typed f_wrongNumber f_wrongPlace f_size f_why f_height f_objects f_line f_begun f_last f_end (ar (mc_p g)) (ar (mc_e g)) (ar (mc_o g)) (mc_r g) (ar (mc_f g)) (ar (mc_t g)) (ar (mc_g g)) (ar (mc_k g)) (ar (ys_K z)) (ar (ys_w z)) (ar (ys_l z)) (ar (ys_f z)) a_frames a_maps a_high a_known a_mapped a_now a_sorts a_ints a_classes a_ready := by
        intro x8 h8 z Jz le dn
        exact ye_93 hG hM r W0 (s := (ys_m s, ys_K s, ys_w s, mf_up (ys_l s) k (ys_l s k ||| 2 ^ d), ys_f s, ys_D s)) hk ep.symm H2 Jz le dn h8
      refine ya_bh hG vp (fun b => ?_) (fun b => ?_)
      · have r' : md_R g (p + 1) (md_th g p d) := md_Rs r ⟨W0, Or.inl ⟨b, rfl, rfl⟩⟩
        have go : ∀ x8 : Int32, ((md_L g p = none ∧ x8 = -1) ∨ ∃ q, md_L g p = some q ∧ x8 = nI q) → wpY_come (fun u => match u with | (f_length, f_handlers, f_many, f_there, f_typed, f_wrongNumber, f_wrongPlace, f_size, f_why, f_height, f_objects, f_line, f_begun, f_last, f_end, a_parent, a_begin, a_op, a_arg, a_from, a_to, a_target, a_caught, a_places, a_heights, a_gone, a_worst, a_frames, a_maps, a_high, a_known, a_mapped, a_now, a_sorts, a_ints, a_classes, a_ready) => wY_goOn_93 post (nI p) (nI (md_th g p d)) x8 f_length f_handlers f_many f_there f_typed f_wrongNumber f_wrongPlace f_size f_why f_height f_objects f_line f_begun f_last f_end a_parent a_begin a_op a_arg a_from a_to a_target a_caught a_places a_heights a_gone a_worst a_frames a_maps a_high a_known a_mapped a_now a_sorts a_ints a_classes a_ready) ((nI (mc_cc g)), (nI (mc_hc g)), (nI (ys_m s)), f_there, f_typed, f_wrongNumber, f_wrongPlace, f_size, f_why, f_height, f_objects, f_line, f_begun, f_last, f_end, (ar (mc_p g)), (ar (mc_e g)), (ar (mc_o g)), (mc_r g), (ar (mc_f g)), (ar (mc_t g)), (ar (mc_g g)), (ar (mc_k g)), (ar (ys_K s)), (ar (ys_w s)), (ar (mf_up (ys_l s) k (ys_l s k ||| 2 ^ d))), (ar (ys_f s)), a_frames, a_maps, a_high, a_known, a_mapped, a_now, a_sorts, a_ints, a_classes, a_ready) (nI (p + 1)) (nI (md_th g p d)) := by
          intro x8 h8
          refine ye_come (s := (ys_m s, ys_K s, ys_w s, mf_up (ys_l s) k (ys_l s k ||| 2 ^ d), ys_f s, ys_D s)) hG hM J2 (fun k' d' h1 h2 => ?_) r' (fun y Jy ley at' => ?_)
          · have h1' : ys_m s ≤ k' := h1
            omega
          · refine rest x8 h8 y Jy ley ?_
            rintro p' h' ⟨_, c2, c3⟩
            rw [c2, c3]; exact at'
        refine ya_led hG vp hn0 (fun q hq => xb_n (by omega) (go _ (Or.inr ⟨q, hq, rfl⟩))) (fun hq => xb_n (by omega) (go _ (Or.inl ⟨hq, rfl⟩)))
      · have dn0 : my_dn (ys_m s, ys_K s, ys_w s, mf_up (ys_l s) k (ys_l s k ||| 2 ^ d), ys_f s, ys_D s) (fun p' h' => md_gb (mc_o g (p % 24)) ∧ p' = p + 1 ∧ h' = md_th g p d) := fun p' h' c => absurd c.1 b
        refine ya_led hG vp hn0 (fun q hq => xb_m ?_) (fun hq => xb_m ?_)
        · exact rest _ (Or.inr ⟨q, hq, rfl⟩) _ J2 (my_ler _) dn0
        · exact rest _ (Or.inl ⟨hq, rfl⟩) _ J2 (my_ler _) dn0
    · have f9 : ys_f s k ≤ 9 := by
        rcases Jf.2 with q | ⟨d', q1, q2, q3⟩
        · omega
        · have := ml_W5 g p d'; omega
      refine ⟨vp_in_nI (by omega) (by omega), ?_⟩
      rw [ar_at _ (by omega)]
      refine pk_le (ys_f s k) (md_W g p d) (fun e => ?_) (fun e => ⟨vp_in_nI (by omega) (by omega), nm_r (ar_ui _ _ (by omega)) ?_⟩)
      · have J2 := mk0 ⟨fun d' hd' => by
          rcases mb_tb.mp hd' with q | q
          · exact Jf.1 d' q
          · subst q; exact Or.inr e, by
          rcases Jf.2 with q | ⟨d', q1, q2⟩
          · exact Or.inl q
          · exact Or.inr ⟨d', mb_tb.mpr (Or.inl q1), q2⟩⟩
        refine H (ys_m s, ys_K s, ys_w s, mf_up (ys_l s) k (ys_l s k ||| 2 ^ d), ys_f s, ys_D s) ⟨me_close J2.1 (fun z => ?_), J2.2⟩ mu2 (Nat.le_refl _)
        have z' : md_W g (ys_K s k) d = 0 := z
        rw [← ep] at z'; omega
      · have J2 := mk (md_W g p d) ⟨fun d' hd' => by
          rcases mb_tb.mp hd' with q | q
          · rcases Jf.1 d' q with x | x
            · exact Or.inl x
            · right; omega
          · subst q; exact Or.inr (Nat.le_refl _), Or.inr ⟨d, mb_tb.mpr (Or.inr rfl), rfl, by omega⟩⟩
        refine H (ys_m s, ys_K s, ys_w s, mf_up (ys_l s) k (ys_l s k ||| 2 ^ d), mf_up (ys_f s) k (md_W g p d), ys_D s) ⟨me_close J2.1 (fun z => ?_), J2.2⟩ mu2 (Nat.le_refl _)
        have z' : md_W g (ys_K s k) d = 0 := z
        rw [← ep] at z'; omega
  exact JK _ rfl r vp
def my_mu (s : my_S) : Nat := me_mu 41 (ys_m s) (ys_l s)
def my_cl (s : my_S) : Prop := ∀ k d, k < ys_m s → (ys_w s k).testBit d = true → (ys_l s k).testBit d = true
def my_Q (s : my_S) (k : Nat) (x1 : Int32) (z : my_S) : Prop := (x1 = 1 ∧ my_mu z < my_mu s) ∨ (x1 = 0 ∧ z = s ∧ ∀ k' d', k' < ys_m z → k' < k → (ys_w z k').testBit d' = true → (ys_l z k').testBit d' = true)
theorem ye_57 {post : SY → Prop} {k : Nat} {x1 : Int32} {J13 : _} {J21 : _} {z : my_S} (hG : md_G g) (hM : md_M g) (J : my_J g (fun _ _ => False) z) (hk : k < ys_m z) (H : ∀ y, my_J g (fun _ _ => False) y → my_mu y < my_mu z → J21 x1 (nI (k + 1)) (nI (mc_cc g)) (nI (mc_hc g)) (nI (ys_m y)) f_there f_typed f_wrongNumber f_wrongPlace f_size f_why f_height f_objects f_line f_begun f_last f_end (ar (mc_p g)) (ar (mc_e g)) (ar (mc_o g)) (mc_r g) (ar (mc_f g)) (ar (mc_t g)) (ar (mc_g g)) (ar (mc_k g)) (ar (ys_K y)) (ar (ys_w y)) (ar (ys_l y)) (ar (ys_f y)) a_frames a_maps a_high a_known a_mapped a_now a_sorts a_ints a_classes a_ready) : ∀ e d, d + e = 7 → (∃ d', d ≤ d' ∧ (mb_dif (ys_w z k) (ys_l z k)).testBit d' = true) → wY_walk_57 post J13 J21 x1 (nI k) (nI (mb_dif (ys_w z k) (ys_l z k))) (nI (mc_cc g)) (nI (mc_hc g)) (nI (ys_m z)) f_there f_typed f_wrongNumber f_wrongPlace f_size f_why f_height f_objects f_line f_begun f_last f_end (ar (mc_p g)) (ar (mc_e g)) (ar (mc_o g)) (mc_r g) (ar (mc_f g)) (ar (mc_t g)) (ar (mc_g g)) (ar (mc_k g)) (ar (ys_K z)) (ar (ys_w z)) (ar (ys_l z)) (ar (ys_f z)) a_frames a_maps a_high a_known a_mapped a_now a_sorts a_ints a_classes a_ready (e + 1) (nI d) := by
  have hm := J.1.1
  have hw := J.1.2.1 k hk
  have hlt : mb_dif (ys_w z k) (ys_l z k) < 128 := mb_difL hw.1
  intro e
  induction e with
  | zero =>
    rintro d hd ⟨d', h1, h2⟩
    have := mb_ext hlt h2
    omega
  | succ e ih =>
    rintro d hd ⟨d', h1, h2⟩
    refine br_c (fun c => ?_) (fun c => ?_)
    · rw [mb_shb _ hlt d (by omega)] at c
      refine nm_r (nI_1 d) (ih (d + 1) (by omega) ⟨d', ?_, h2⟩)
      have : d' ≠ d := fun q => c (by rw [← q]; exact h2)
      omega
    · rw [mb_shb _ hlt d (by omega)] at c
      have c1 : (mb_dif (ys_w z k) (ys_l z k)).testBit d = true := Classical.byContradiction c
      obtain ⟨c2, c3⟩ := (mb_difT (by omega)).mp c1
      refine ⟨vp_in_nI (by omega) (by omega), vp_in_nI (by omega) (by omega), nm_r (e' := ar (mf_up (ys_l z) k (ys_l z k ||| 2 ^ d))) ?_ ?_⟩
      · rw [ar_at _ (by omega), mb_or (by omega), ar_ui _ _ (by omega)]
      · exact ye_goOn hG hM J hk c2 c3 (fun y Jy mu le => nm_r (nI_1 k) (H y Jy mu))
theorem ye_21 {post : SY → Prop} {s : my_S} {J13 : _} (hG : md_G g) (hM : md_M g) (H : ∀ x1 z, my_J g (fun _ _ => False) z → (x1 = 1 ∧ my_mu z < my_mu s) ∨ (x1 = 0 ∧ z = s ∧ my_cl z) → J13 x1 (nI (mc_cc g)) (nI (mc_hc g)) (nI (ys_m z)) f_there f_typed f_wrongNumber f_wrongPlace f_size f_why f_height f_objects f_line f_begun f_last f_end (ar (mc_p g)) (ar (mc_e g)) (ar (mc_o g)) (mc_r g) (ar (mc_f g)) (ar (mc_t g)) (ar (mc_g g)) (ar (mc_k g)) (ar (ys_K z)) (ar (ys_w z)) (ar (ys_l z)) (ar (ys_f z)) a_frames a_maps a_high a_known a_mapped a_now a_sorts a_ints a_classes a_ready) : ∀ e k, k + e = 41 → ∀ x1 z, my_J g (fun _ _ => False) z → my_Q s k x1 z → wY_walk_21 post J13 (e + 1) x1 (nI k) (nI (mc_cc g)) (nI (mc_hc g)) (nI (ys_m z)) f_there f_typed f_wrongNumber f_wrongPlace f_size f_why f_height f_objects f_line f_begun f_last f_end (ar (mc_p g)) (ar (mc_e g)) (ar (mc_o g)) (mc_r g) (ar (mc_f g)) (ar (mc_t g)) (ar (mc_g g)) (ar (mc_k g)) (ar (ys_K z)) (ar (ys_w z)) (ar (ys_l z)) (ar (ys_f z)) a_frames a_maps a_high a_known a_mapped a_now a_sorts a_ints a_classes a_ready := by
  have fin : ∀ k x1 z, ys_m z ≤ k → my_Q s k x1 z → (x1 = 1 ∧ my_mu z < my_mu s) ∨ (x1 = 0 ∧ z = s ∧ my_cl z) := by
    intro k x1 z hk Q
    rcases Q with ⟨a, b⟩ | ⟨a, b, c⟩
    · exact Or.inl ⟨a, b⟩
    · exact Or.inr ⟨a, b, fun k' d' hk' hb => c k' d' hk' (by omega) hb⟩
  intro e
  induction e with
  | zero =>
    intro k hk x1 z J Q
    have hm := J.1.1
    exact pk_le (ys_m z) k (fun _ => H x1 z J (fin k x1 z (by omega) Q)) (fun c => by omega)
  | succ e ih =>
    intro k hk x1 z J Q
    have hm := J.1.1
    refine pk_le (ys_m z) k (fun c => H x1 z J (fin k x1 z c Q)) (fun c => ⟨vp_in_nI (by omega) (by omega), vp_in_nI (by omega) (by omega), ?_⟩)
    have hw := J.1.2.1 k c
    have hlt : mb_dif (ys_w z k) (ys_l z k) < 128 := mb_difL hw.1
    refine nm_r (e' := nI (mb_dif (ys_w z k) (ys_l z k))) (by rw [ar_at _ (by omega), ar_at _ (by omega), mb_difI]) ?_
    refine br_c (fun d => ?_) (fun d => ⟨8, ?_⟩)
    · rw [mb_z _ hlt] at d
      refine nm_r (nI_1 k) (ih (k + 1) (by omega) x1 z J ?_)
      rcases Q with ⟨a, b⟩ | ⟨a, b, f⟩
      · exact Or.inl ⟨a, b⟩
      · refine Or.inr ⟨a, b, fun k' d' hk' o hb => ?_⟩
        by_cases q : k' = k
        · subst q
          have hd7 := mb_ext hw.1 hb
          exact Classical.byContradiction (fun n => d d' hd7 ((mb_difT hd7).mpr ⟨hb, n⟩))
        · exact f k' d' hk' (by omega) hb
    · rw [mb_z _ hlt] at d
      have ex : ∃ d', 0 ≤ d' ∧ (mb_dif (ys_w z k) (ys_l z k)).testBit d' = true := by
        apply Classical.byContradiction
        intro n
        exact d (fun d' _ hb => n ⟨d', Nat.zero_le _, hb⟩)
      refine ye_57 hG hM J c (fun y Jy mu => ih (k + 1) (by omega) 1 y Jy (Or.inl ⟨rfl, ?_⟩)) 7 0 rfl ex
      rcases Q with ⟨a, b⟩ | ⟨a, b, f⟩
      · omega
      · rw [b] at mu; exact mu
theorem ye_13 {post : SY → Prop} (hG : md_G g) (hM : md_M g) (H : ∀ z, my_J g (fun _ _ => False) z → my_cl z → post ((nI (mc_cc g)), (nI (mc_hc g)), (nI (ys_m z)), f_there, f_typed, f_wrongNumber, f_wrongPlace, f_size, f_why, f_height, f_objects, f_line, f_begun, f_last, f_end, (ar (mc_p g)), (ar (mc_e g)), (ar (mc_o g)), (mc_r g), (ar (mc_f g)), (ar (mc_t g)), (ar (mc_g g)), (ar (mc_k g)), (ar (ys_K z)), (ar (ys_w z)), (ar (ys_l z)), (ar (ys_f z)), a_frames, a_maps, a_high, a_known, a_mapped, a_now, a_sorts, a_ints, a_classes, a_ready)) : ∀ n x1 z, my_J g (fun _ _ => False) z → (x1 = 1 ∧ my_mu z + 2 ≤ n) ∨ (x1 = 0 ∧ my_cl z ∧ 1 ≤ n) → wY_walk_13 post n x1 (nI (mc_cc g)) (nI (mc_hc g)) (nI (ys_m z)) f_there f_typed f_wrongNumber f_wrongPlace f_size f_why f_height f_objects f_line f_begun f_last f_end (ar (mc_p g)) (ar (mc_e g)) (ar (mc_o g)) (mc_r g) (ar (mc_f g)) (ar (mc_t g)) (ar (mc_g g)) (ar (mc_k g)) (ar (ys_K z)) (ar (ys_w z)) (ar (ys_l z)) (ar (ys_f z)) a_frames a_maps a_high a_known a_mapped a_now a_sorts a_ints a_classes a_ready := by
  intro n
  induction n with
  | zero => intro x1 z J h; rcases h with ⟨_, h⟩ | ⟨_, _, h⟩ <;> omega
  | succ n ih =>
    intro x1 z J h
    rcases h with ⟨rfl, h⟩ | ⟨rfl, hc, h⟩
    · refine xb_1 ⟨42, ?_⟩
      refine ye_21 (s := z) hG hM (fun x1' z' J' h' => ih x1' z' J' ?_) 41 0 rfl 0 z J (Or.inr ⟨rfl, rfl, fun k' d' hk' o => by omega⟩)
      rcases h' with ⟨a, b⟩ | ⟨a, b, c⟩
      · exact Or.inl ⟨a, by omega⟩
      · exact Or.inr ⟨a, c, by omega⟩
    · exact xb_0 (H z J hc)
theorem ye_walk {post : SY → Prop} {K w l f : Nat → Nat} (hG : md_G g) (hM : md_M g) (H : ∀ z, my_J g (fun _ _ => False) z → my_cl z → post ((nI (mc_cc g)), (nI (mc_hc g)), (nI (ys_m z)), f_there, f_typed, f_wrongNumber, f_wrongPlace, f_size, f_why, f_height, f_objects, f_line, f_begun, f_last, f_end, (ar (mc_p g)), (ar (mc_e g)), (ar (mc_o g)), (mc_r g), (ar (mc_f g)), (ar (mc_t g)), (ar (mc_g g)), (ar (mc_k g)), (ar (ys_K z)), (ar (ys_w z)), (ar (ys_l z)), (ar (ys_f z)), a_frames, a_maps, a_high, a_known, a_mapped, a_now, a_sorts, a_ints, a_classes, a_ready)) : wpY_walk post ((nI (mc_cc g)), (nI (mc_hc g)), f_many, f_there, f_typed, f_wrongNumber, f_wrongPlace, f_size, f_why, f_height, f_objects, f_line, f_begun, f_last, f_end, (ar (mc_p g)), (ar (mc_e g)), (ar (mc_o g)), (mc_r g), (ar (mc_f g)), (ar (mc_t g)), (ar (mc_g g)), (ar (mc_k g)), (ar K), (ar w), (ar l), (ar f), a_frames, a_maps, a_high, a_known, a_mapped, a_now, a_sorts, a_ints, a_classes, a_ready) := by
  unfold wpY_walk
  dsimp only
  unfold wpY_come
  dsimp only
  refine ya_number (m := 0) (K := K) (by omega) (fun k hk => by omega) (fun _ => xb_m' ?_)
  refine pk_eq 0 41 (fun c => by omega) (fun _ => ?_)
  unfold wY_come_20
  refine xb_m' ?_
  refine nm_r (nI_1 0) ⟨vp_in_nI (n := 0) (by omega) (by omega), nm_r (ar_ui K (k := 0) 0 (by omega)) ⟨vp_in_nI (n := 0) (by omega) (by omega), nm_r (ar_ui w (k := 0) 0 (by omega)) ⟨vp_in_nI (n := 0) (by omega) (by omega), nm_r (ar_ui l (k := 0) 0 (by omega)) ⟨vp_in_nI (n := 0) (by omega) (by omega), nm_r (ar_ui f (k := 0) 9 (by omega)) ?_⟩⟩⟩⟩
  refine ⟨vp_in_nI (n := 0) (by omega) (by omega), vp_in_nI (n := 0) (by omega) (by omega), nm_r (e' := ar (mf_up (mf_up w 0 0) 0 1)) ?_ ⟨600, ?_⟩⟩
  · have := mb_or (w := mf_up w 0 0 0) (d := 0) (by omega)
    rw [up_s] at this
    have e2 : ar (mf_up w 0 0) (0 : Int32).toNatClampNeg = nI 0 := rfl
    show upd (ar (mf_up w 0 0)) (nI 0).toNatClampNeg (ar (mf_up w 0 0) (0 : Int32).toNatClampNeg ||| (1 : Int32) <<< (nI 0 &&& 31)) = _
    rw [e2, this]
    exact ar_ui (mf_up w 0 0) (k := 0) 1 (by omega)
  · refine ye_13 hG hM H 600 1 (1, mf_up K 0 0, mf_up (mf_up w 0 0) 0 1, mf_up l 0 0, mf_up f 0 9, fun _ => 0) ?_ (Or.inl ⟨rfl, ?_⟩)
    · have z : ∀ k, k < 1 → k = 0 := fun k hk => by omega
      have b1 : ∀ d, (1 : Nat).testBit d = true → d = 0 := by
        intro d hd
        have : (2 ^ 0).testBit d = true := hd
        rw [Nat.testBit_two_pow] at this
        simp at this; omega
      refine ⟨⟨by show 1 ≤ 41; omega, fun k hk => ?_, fun i j hi hj _ => ?_, fun k d hk hb => ?_, fun k d hk hb => ?_, fun k d hk hb => ?_, ?_, fun k hk => ?_⟩, fun k hk => ?_⟩
      · cases z k hk
        exact ⟨by show (1 : Nat) < 128; omega, by show (0 : Nat) < 128; omega⟩
      · have := z i hi; have := z j hj; omega
      · cases z k hk
        cases b1 d hb
        exact md_R0 g
      · cases z k hk
        have hb' : (0 : Nat).testBit d = true := hb
        rw [Nat.zero_testBit] at hb'; cases hb'
      · cases z k hk
        have hb' : (0 : Nat).testBit d = true := hb
        rw [Nat.zero_testBit] at hb'; cases hb'
      · exact ⟨0, by show 0 < 1; omega, rfl, by show (1 : Nat).testBit 0 = true; decide⟩
      · cases z k hk; show (1 : Nat).testBit 0 = true; decide
      · cases z k hk
        refine ⟨fun d hd => ?_, Or.inl rfl⟩
        have hb' : (0 : Nat).testBit d = true := hd
        rw [Nat.zero_testBit] at hb'; cases hb'
    · have := me_mu_b 41 1 (mf_up l 0 0)
      show me_mu 41 1 (mf_up l 0 0) + 2 ≤ 600; omega
end
end
section
/-! ===== the reference: sorting the places ===== -/
section
variable {f_length f_handlers f_many f_there f_typed f_wrongNumber f_wrongPlace f_size f_why f_height f_objects f_line f_begun f_last f_end : Int32} {a_parent a_begin a_op a_arg a_from a_to a_target a_caught a_places a_heights a_gone a_worst a_frames a_maps a_high a_known a_mapped a_now a_sorts a_ints a_classes a_ready : Nat → Int32}
theorem ys_sort {post : SY → Prop} {m : Nat} {a0 b0 c0 : Nat → Nat} (hm : m ≤ 41) (inj0 : ms_inj m a0) (hb0 : ∀ k, k < m → a0 k < 2 ^ 31) (H : ∀ a b c, ml_inc m a → ms_P m a0 (fun i => (b0 i, c0 i)) a (fun i => (b i, c i)) → post (f_length, f_handlers, (nI m), f_there, f_typed, f_wrongNumber, f_wrongPlace, f_size, f_why, f_height, f_objects, f_line, f_begun, f_last, f_end, a_parent, a_begin, a_op, a_arg, a_from, a_to, a_target, a_caught, (ar a), (ar b), a_gone, (ar c), a_frames, a_maps, a_high, a_known, a_mapped, a_now, a_sorts, a_ints, a_classes, a_ready)) : wpY_sort post (f_length, f_handlers, (nI m), f_there, f_typed, f_wrongNumber, f_wrongPlace, f_size, f_why, f_height, f_objects, f_line, f_begun, f_last, f_end, a_parent, a_begin, a_op, a_arg, a_from, a_to, a_target, a_caught, (ar a0), (ar b0), a_gone, (ar c0), a_frames, a_maps, a_high, a_known, a_mapped, a_now, a_sorts, a_ints, a_classes, a_ready) := by
  have bd : ∀ a (b c : Nat → Nat), ms_P m a0 (fun i => (b0 i, c0 i)) a (fun i => (b i, c i)) → ∀ k, k < m → a k < 2 ^ 31 := by
    intro a b c p k hk
    obtain ⟨j, hj, e, _⟩ := p.1 k hk
    rw [e]; exact hb0 j hj
  have L : ∀ d k, k + d = m → ∀ a b c, ml_inc k a → (∀ i j, i < k → k ≤ j → j < m → a i < a j) → ms_inj m a → ms_P m a0 (fun i => (b0 i, c0 i)) a (fun i => (b i, c i)) → wY_sort_2 post f_length f_handlers (nI m) f_there f_typed f_wrongNumber f_wrongPlace f_size f_why f_height f_objects f_line f_begun f_last f_end (d + 1) (nI k) a_parent a_begin a_op a_arg a_from a_to a_target a_caught (ar a) (ar b) a_gone (ar c) a_frames a_maps a_high a_known a_mapped a_now a_sorts a_ints a_classes a_ready := by
    intro d
    induction d with
    | zero =>
      intro k hk a b c inc low inj p
      have em : k = m := by omega
      subst em
      exact pk_le k k (fun _ => H a b c inc p) (fun c => by omega)
    | succ d ih =>
      intro k hk a b c inc low inj p
      have ba := bd a b c p
      refine pk_le m k (fun c => by omega) (fun _ => nm_r (nI_1 k) ⟨d + 1, ?_⟩)
      have I : ∀ f j l, j + f = m → k ≤ l → l < j → k < j → (∀ t, k ≤ t → t < j → a l ≤ a t) → wY_sort_16 post (wY_sort_2 post f_length f_handlers (nI m) f_there f_typed f_wrongNumber f_wrongPlace f_size f_why f_height f_objects f_line f_begun f_last f_end (d + 1)) (nI k) f_length f_handlers (nI m) f_there f_typed f_wrongNumber f_wrongPlace f_size f_why f_height f_objects f_line f_begun f_last f_end a_parent a_begin a_op a_arg a_from a_to a_target a_caught (ar a) (ar b) a_gone (ar c) a_frames a_maps a_high a_known a_mapped a_now a_sorts a_ints a_classes a_ready (f + 1) (nI l) (nI j) := by
        intro f
        induction f with
        | zero =>
          intro j l hj hl hlj hkj least
          refine pk_le m j (fun _ => ?_) (fun c => by omega)
          refine ⟨vp_in_nI (by omega) (by omega), nm_r (ar_at _ (by omega)) ⟨vp_in_nI (by omega) (by omega), nm_r (ar_at _ (by omega)) ⟨vp_in_nI (by omega) (by omega), nm_r (ar_at _ (by omega)) ?_⟩⟩⟩
          rw [ar_at _ (by omega), ar_at _ (by omega), ar_at _ (by omega)]
          refine ⟨vp_in_nI (by omega) (by omega), vp_in_nI (by omega) (by omega), nm_r (ar_ui _ _ (by omega)) ⟨vp_in_nI (by omega) (by omega), vp_in_nI (by omega) (by omega), nm_r (ar_ui _ _ (by omega)) ⟨vp_in_nI (by omega) (by omega), vp_in_nI (by omega) (by omega), nm_r (ar_ui _ _ (by omega)) ⟨vp_in_nI (by omega) (by omega), nm_r (ar_ui _ _ (by omega)) ⟨vp_in_nI (by omega) (by omega), nm_r (ar_ui _ _ (by omega)) ⟨vp_in_nI (by omega) (by omega), nm_r (ar_ui _ _ (by omega)) (nm_r (nI_1 k) ?_)⟩⟩⟩⟩⟩⟩
          have sa := ms_upup a k l
          have sk : mf_up (mf_up a k (a l)) l (a k) k = a l := by
            rw [sa]; unfold ms_s; by_cases q : k = l
            · simp [q]
            · simp [q]
          have so : ∀ t, t < k → mf_up (mf_up a k (a l)) l (a k) t = a t := by
            intro t ht; rw [sa]; unfold ms_s; rw [if_neg (by omega), if_neg (by omega)]
          have sh : ∀ t, k < t → t < m → ∃ t', k ≤ t' ∧ t' < m ∧ t' ≠ l ∧ mf_up (mf_up a k (a l)) l (a k) t = a t' := by
            intro t h1 h2; rw [sa]; unfold ms_s
            by_cases q : t = l
            · rw [if_pos q]; exact ⟨k, by omega, by omega, by omega, rfl⟩
            · rw [if_neg q, if_neg (by omega)]; exact ⟨t, by omega, h2, q, rfl⟩
          have lt : ∀ t, k < t → t < m → a l < mf_up (mf_up a k (a l)) l (a k) t := by
            intro t h1 h2
            obtain ⟨t', x1, x2, x3, x4⟩ := sh t h1 h2
            rw [x4]
            have := least t' x1 (by omega)
            have : a l ≠ a t' := fun q => x3 (inj _ _ x2 (by omega) q.symm)
            omega
          refine ih (k + 1) (by omega) _ _ _ ?_ ?_ ?_ ?_
          · intro i j' hij hj'
            by_cases q : j' = k
            · subst q
              rw [sk, so i hij]; exact low i l hij (by omega) (by omega)
            · rw [so i (by omega), so j' (by omega)]; exact inc i j' hij (by omega)
          · intro i j' hi h1 h2
            by_cases q : i = k
            · subst q
              rw [sk]; exact lt j' (by omega) h2
            · rw [so i (by omega)]
              obtain ⟨t', x1, x2, x3, x4⟩ := sh j' (by omega) h2
              rw [x4]; exact low i t' (by omega) x1 x2
          · exact ms_swi (i := k) (j := l) (by omega) (by omega) (fun t _ => sa t) inj
          · refine ms_Pt p (ms_sw (i := k) (j := l) (by omega) (by omega) (fun t _ => sa t) (fun t _ => ?_))
            show (mf_up (mf_up b k (b l)) l (b k) t, mf_up (mf_up c k (c l)) l (c k) t) = (b (ms_s k l t), c (ms_s k l t))
            rw [ms_upup, ms_upup]
        | succ f ihf =>
          intro j l hj hl hlj hkj least
          have bj := ba j (by omega)
          have bl := ba l (by omega)
          refine pk_le m j (fun c => by omega) (fun _ => ⟨vp_in_nI (by omega) (by omega), vp_in_nI (by omega) (by omega), ?_⟩)
          rw [ar_at _ (by omega), ar_at _ (by omega)]
          refine pk_le (a l) (a j) (fun q => nm_r (nI_1 j) (ihf (j + 1) l (by omega) hl (by omega) (by omega) (fun t h1 h2 => ?_))) (fun q => nm_r (nI_1 j) (ihf (j + 1) j (by omega) (by omega) (by omega) (by omega) (fun t h1 h2 => ?_)))
          · by_cases e : t = j
            · subst e; exact q
            · exact least t h1 (by omega)
          · by_cases e : t = j
            · subst e; exact Nat.le_refl _
            · have := least t h1 (by omega); omega
      exact I d (k + 1) k (by omega) (Nat.le_refl _) (by omega) (by omega) (fun t h1 h2 => by
        have : t = k := by omega
        subst this; exact Nat.le_refl _)
  exact ⟨m + 1, L m 0 (by omega) a0 b0 c0 (fun i j hij hj => by omega) (fun i j hi => by omega) inj0 (ms_Pr m a0 _)⟩
end
end
section
/-! ===== the reference: is it a method, is it right ===== -/
section
variable {f_length f_handlers f_many f_there f_typed f_wrongNumber f_wrongPlace f_size f_why f_height f_objects f_line f_begun f_last f_end : Int32} {a_parent a_begin a_op a_arg a_from a_to a_target a_caught a_places a_heights a_gone a_worst a_frames a_maps a_high a_known a_mapped a_now a_sorts a_ints a_classes a_ready : Nat → Int32}
variable {g : md_C}
theorem ya_nb : ∀ b : Bool, narrow .boolean (.int (mf_b b)) = .int (mf_b b) := by
  intro b; cases b <;> rfl
theorem ya_im {post : Int32 → Prop} (hG : md_G g) (h1 : md_M g → post 1) (h0 : ¬ md_M g → post 0) : wpY_isMethod post ((nI (mc_cc g)), (nI (mc_hc g)), f_many, f_there, f_typed, f_wrongNumber, f_wrongPlace, f_size, f_why, f_height, f_objects, f_line, f_begun, f_last, f_end, (ar (mc_p g)), (ar (mc_e g)), (ar (mc_o g)), (mc_r g), (ar (mc_f g)), (ar (mc_t g)), (ar (mc_g g)), (ar (mc_k g)), a_places, a_heights, a_gone, a_worst, a_frames, a_maps, a_high, a_known, a_mapped, a_now, a_sorts, a_ints, a_classes, a_ready) := by
  have hcc := hG.1
  have hhc := hG.2.1
  unfold wpY_isMethod
  dsimp only
  have fin : ∀ b : Bool, (b = true ↔ md_M g) → post (mf_b b) := by
    intro b hb
    cases b with
    | true => exact h1 (hb.mp rfl)
    | false => exact h0 (fun M => by have := hb.mpr M; cases this)
  have B : ∀ d x (b : Bool), x + d = mc_hc g → (b = true ↔ 0 < mc_cc g ∧ (∀ i, i < mc_cc g → 12 ≤ mc_o g i → mc_o g i ≤ 15 → mc_a g i < mc_cc g) ∧ (∀ y, y < x → mc_g g y < mc_cc g)) → wY_isMethod_58 post (nI (mc_cc g)) (nI (mc_hc g)) f_many f_there f_typed f_wrongNumber f_wrongPlace f_size f_why f_height f_objects f_line f_begun f_last f_end (ar (mc_p g)) (ar (mc_e g)) (ar (mc_o g)) (mc_r g) (ar (mc_f g)) (ar (mc_t g)) (ar (mc_g g)) (ar (mc_k g)) a_places a_heights a_gone a_worst a_frames a_maps a_high a_known a_mapped a_now a_sorts a_ints a_classes a_ready (d + 1) (mf_b b) (nI x) := by
    intro d
    induction d with
    | zero =>
      intro x b hx hb
      have ex : x = mc_hc g := by omega
      subst ex
      exact pk_le (mc_hc g) (mc_hc g) (fun _ => ⟨ya_nb b, fin b hb⟩) (fun c => by omega)
    | succ d ih =>
      intro x b hx hb
      have hbd := hG.2.2.2.2.1 x
      refine pk_le (mc_hc g) x (fun c => by omega) (fun _ => ⟨vp_in_nI (by omega) (by omega), ?_⟩)
      rw [ar_at _ (by omega)]
      refine pk_lt (mc_g g x) (mc_cc g) (fun q => nm_r (nI_1 x) (ih (x + 1) b (by omega) ?_)) (fun q => nm_r (nI_1 x) (ih (x + 1) false (by omega) ?_))
      · rw [hb]
        constructor
        · rintro ⟨a1, a2, a3⟩
          refine ⟨a1, a2, fun y hy => ?_⟩
          by_cases e : y = x
          · subst e; exact q
          · exact a3 y (by omega)
        · rintro ⟨a1, a2, a3⟩
          exact ⟨a1, a2, fun y hy => a3 y (by omega)⟩
      · constructor
        · intro z; cases z
        · rintro ⟨a1, a2, a3⟩
          have := a3 x (by omega)
          omega
  have A : ∀ d i (b : Bool), i + d = mc_cc g → (b = true ↔ 0 < mc_cc g ∧ (∀ j, j < i → 12 ≤ mc_o g j → mc_o g j ≤ 15 → mc_a g j < mc_cc g)) → wY_isMethod_15 post (nI (mc_cc g)) (nI (mc_hc g)) f_many f_there f_typed f_wrongNumber f_wrongPlace f_size f_why f_height f_objects f_line f_begun f_last f_end (ar (mc_p g)) (ar (mc_e g)) (ar (mc_o g)) (mc_r g) (ar (mc_f g)) (ar (mc_t g)) (ar (mc_g g)) (ar (mc_k g)) a_places a_heights a_gone a_worst a_frames a_maps a_high a_known a_mapped a_now a_sorts a_ints a_classes a_ready (d + 1) (mf_b b) (nI i) := by
    intro d
    induction d with
    | zero =>
      intro i b hi hb
      have ei : i = mc_cc g := by omega
      subst ei
      refine pk_le (mc_cc g) (mc_cc g) (fun _ => ⟨mc_hc g + 1, B (mc_hc g) 0 b (by omega) ?_⟩) (fun c => by omega)
      rw [hb]
      exact ⟨fun z => ⟨z.1, z.2, fun y hy => by omega⟩, fun z => ⟨z.1, z.2.1⟩⟩
    | succ d ih =>
      intro i b hi hb
      have h20 := hG.2.2.1 i
      have stay : (12 ≤ mc_o g i → mc_o g i ≤ 15 → mc_a g i < mc_cc g) → wY_isMethod_15 post (nI (mc_cc g)) (nI (mc_hc g)) f_many f_there f_typed f_wrongNumber f_wrongPlace f_size f_why f_height f_objects f_line f_begun f_last f_end (ar (mc_p g)) (ar (mc_e g)) (ar (mc_o g)) (mc_r g) (ar (mc_f g)) (ar (mc_t g)) (ar (mc_g g)) (ar (mc_k g)) a_places a_heights a_gone a_worst a_frames a_maps a_high a_known a_mapped a_now a_sorts a_ints a_classes a_ready (d + 1) (mf_b b) (nI (i + 1)) := by
        intro q
        refine ih (i + 1) b (by omega) ?_
        rw [hb]
        constructor
        · rintro ⟨a1, a2⟩
          refine ⟨a1, fun j hj => ?_⟩
          by_cases e : j = i
          · subst e; exact q
          · exact a2 j (by omega)
        · rintro ⟨a1, a2⟩
          exact ⟨a1, fun j hj => a2 j (by omega)⟩
      refine pk_le (mc_cc g) i (fun c => by omega) (fun _ => ⟨vp_in_nI (by omega) (by omega), ?_⟩)
      rw [ar_at _ (by omega)]
      refine ya_jp h20 (fun q => xb_1 ⟨vp_in_nI (by omega) (by omega), ?_⟩) (fun q => xb_0 (nm_r (nI_1 i) (stay (fun a b => absurd ⟨a, b⟩ q))))
      obtain ⟨ha, hr⟩ := mn_lim24 hG (i := i) q
      rw [nI_clamp (by omega), hr]
      refine pk_lt (mc_a g i) (mc_cc g) (fun z => nm_r (nI_1 i) (stay (fun _ _ => z))) (fun z => nm_r (nI_1 i) (ih (i + 1) false (by omega) ?_))
      constructor
      · intro y; cases y
      · rintro ⟨a1, a2⟩
        have := a2 i (by omega) q.1 q.2
        omega
  refine pk_le (mc_cc g) 0 (fun c => ⟨mc_cc g + 1, A (mc_cc g) 0 false (by omega) ?_⟩) (fun c => ⟨mc_cc g + 1, A (mc_cc g) 0 true (by omega) ?_⟩)
  · constructor
    · intro z; cases z
    · intro z; omega
  · exact ⟨fun _ => ⟨c, fun j hj => by omega⟩, fun _ => rfl⟩
/-- places a in order, depths b as bits, least wrong numbers c -/
def my_srt (g : md_C) (m : Nat) (a b c : Nat → Nat) : Prop := ml_inc m a ∧ (∀ k, k < m → a k < 1327104 ∧ b k < 128) ∧ (∀ k h, k < m → ((b k).testBit h = true ↔ md_R g (a k) h)) ∧ (∀ k, k < m → (∃ h, md_R g (a k) h) ∧ (∀ h, md_R g (a k) h → md_W g (a k) h = 0 ∨ c k ≤ md_W g (a k) h) ∧ (c k = 9 ∨ ∃ h, md_R g (a k) h ∧ md_W g (a k) h = c k ∧ c k ≠ 0))
theorem ye_right {post : Int32 → SY → Prop} {m : Nat} {a b c : Nat → Nat} (h0 : 0 < m) (hm : m ≤ 41) (S : m ≤ 40 → my_srt g m a b c) (hall : m ≤ 40 → ∀ p h, md_R g p h → ∃ k, k < m ∧ a k = p) (h7 : m = 41 → post 0 (f_length, f_handlers, (nI m), f_there, f_typed, 7, (-1), f_size, f_why, f_height, f_objects, f_line, f_begun, f_last, f_end, a_parent, a_begin, a_op, a_arg, a_from, a_to, a_target, a_caught, (ar a), (ar b), a_gone, (ar c), a_frames, a_maps, a_high, a_known, a_mapped, a_now, a_sorts, a_ints, a_classes, a_ready)) (hr : m ≤ 40 → (∀ p n, ¬ ml_B g p n) → post 1 (f_length, f_handlers, (nI m), f_there, f_typed, (-1), (-1), f_size, f_why, f_height, f_objects, f_line, f_begun, f_last, f_end, a_parent, a_begin, a_op, a_arg, a_from, a_to, a_target, a_caught, (ar a), (ar b), a_gone, (ar c), a_frames, a_maps, a_high, a_known, a_mapped, a_now, a_sorts, a_ints, a_classes, a_ready)) (hw : m ≤ 40 → ∀ p n, ml_F g p n → p < 1327104 → post 0 (f_length, f_handlers, (nI m), f_there, f_typed, (nI n), (nI p), f_size, f_why, f_height, f_objects, f_line, f_begun, f_last, f_end, a_parent, a_begin, a_op, a_arg, a_from, a_to, a_target, a_caught, (ar a), (ar b), a_gone, (ar c), a_frames, a_maps, a_high, a_known, a_mapped, a_now, a_sorts, a_ints, a_classes, a_ready)) : wpY_isRight post (f_length, f_handlers, (nI m), f_there, f_typed, f_wrongNumber, f_wrongPlace, f_size, f_why, f_height, f_objects, f_line, f_begun, f_last, f_end, a_parent, a_begin, a_op, a_arg, a_from, a_to, a_target, a_caught, (ar a), (ar b), a_gone, (ar c), a_frames, a_maps, a_high, a_known, a_mapped, a_now, a_sorts, a_ints, a_classes, a_ready) := by
  unfold wpY_isRight
  dsimp only
  refine pk_le m 40 (fun m40 => ⟨m + 2, ?_⟩) (fun m41 => ⟨1, ?_⟩)
  · obtain ⟨inc, bds, bR, least⟩ := S m40
    have hall := hall m40
    have BK : ∀ p n, ml_B g p n → ∃ k, k < m ∧ a k = p := by
      rintro p n (⟨h, r, _⟩ | ⟨_, _, h, _, _, r, _⟩)
      · exact hall p h r
      · exact hall p h r
    have out : ∀ f k p n, ml_F g p n → p < 1327104 → wY_isRight_26 post f_length f_handlers (nI m) f_there f_typed f_size f_why f_height f_objects f_line f_begun f_last f_end a_parent a_begin a_op a_arg a_from a_to a_target a_caught (ar a) (ar b) a_gone (ar c) a_frames a_maps a_high a_known a_mapped a_now a_sorts a_ints a_classes a_ready (f + 1) (nI k) (nI n) (nI p) := by
      intro f k p n F hp
      have n0 := ml_B0 F.1
      have o : wY_isRight_122 post f_length f_handlers (nI m) f_there f_typed (nI n) (nI p) f_size f_why f_height f_objects f_line f_begun f_last f_end a_parent a_begin a_op a_arg a_from a_to a_target a_caught (ar a) (ar b) a_gone (ar c) a_frames a_maps a_high a_known a_mapped a_now a_sorts a_ints a_classes a_ready := xb_n' (by omega) (hw m40 p n F hp)
      exact br_c (fun _ => o) (fun _ => xb_n' (by omega) o)
    have L : ∀ d k, k + d = m → (∀ j, j < k → ∀ n, ¬ ml_B g (a j) n) → wY_isRight_26 post f_length f_handlers (nI m) f_there f_typed f_size f_why f_height f_objects f_line f_begun f_last f_end a_parent a_begin a_op a_arg a_from a_to a_target a_caught (ar a) (ar b) a_gone (ar c) a_frames a_maps a_high a_known a_mapped a_now a_sorts a_ints a_classes a_ready (d + 2) (nI k) (-1) (-1) := by
      intro d
      induction d with
      | zero =>
        intro k hk no
        refine pk_le m k (fun _ => ?_) (fun c => by omega)
        refine xb_m' (hr m40 (fun p n B => ?_))
        obtain ⟨j, hj, rfl⟩ := BK p n B
        exact no j (by omega) n B
      | succ d ih =>
        intro k hk no
        have hkm : k < m := by omega
        obtain ⟨⟨h', r'⟩, l1, l2⟩ := least k hkm
        obtain ⟨w1, w2, w3, w4⟩ := mw_least l1 l2
        have hb := bds k hkm
        have sev : (nI (b k) &&& (nI (b k) - 1) = 0) ↔ ¬ ∃ h h', h ≠ h' ∧ md_R g (a k) h ∧ md_R g (a k) h' := by
          rw [mb_one _ hb.2]
          constructor
          · rintro q ⟨h, h', ne, x, y⟩
            have x' := (bR k h hkm).mpr x
            have y' := (bR k h' hkm).mpr y
            exact ne (q h (mb_ext hb.2 x') h' (mb_ext hb.2 y') x' y')
          · intro q x hx y hy hbx hby
            exact Classical.byContradiction fun ne => q ⟨x, y, ne, (bR k x hkm).mp hbx, (bR k y hkm).mp hby⟩
        have F : ∀ n, ml_B g (a k) n → ml_F g (a k) n := by
          intro n B
          refine ⟨B, fun q n' hq B' => ?_⟩
          obtain ⟨j, hj, rfl⟩ := BK q n' B'
          have : j < k := by
            apply Classical.byContradiction
            intro c
            rcases Nat.lt_or_eq_of_le (show k ≤ j by omega) with z | z
            · have := inc k j z hj; omega
            · subst z; omega
          exact no j this n' B'
        have nx : (∀ n, ¬ ml_B g (a k) n) → wY_isRight_26 post f_length f_handlers (nI m) f_there f_typed f_size f_why f_height f_objects f_line f_begun f_last f_end a_parent a_begin a_op a_arg a_from a_to a_target a_caught (ar a) (ar b) a_gone (ar c) a_frames a_maps a_high a_known a_mapped a_now a_sorts a_ints a_classes a_ready (d + 2) (nI (k + 1)) (-1) (-1) := by
          intro q
          refine ih (k + 1) (by omega) (fun j hj => ?_)
          by_cases e : j = k
          · subst e; exact q
          · exact no j (by omega)
        have set : ∀ n, n ≤ 6 → ml_B g (a k) n → wY_isRight_91 post (wY_isRight_26 post f_length f_handlers (nI m) f_there f_typed f_size f_why f_height f_objects f_line f_begun f_last f_end a_parent a_begin a_op a_arg a_from a_to a_target a_caught (ar a) (ar b) a_gone (ar c) a_frames a_maps a_high a_known a_mapped a_now a_sorts a_ints a_classes a_ready (d + 2)) (nI k) (nI n) f_length f_handlers (nI m) f_there f_typed (-1) (-1) f_size f_why f_height f_objects f_line f_begun f_last f_end a_parent a_begin a_op a_arg a_from a_to a_target a_caught (ar a) (ar b) a_gone (ar c) a_frames a_maps a_high a_known a_mapped a_now a_sorts a_ints a_classes a_ready := by
          intro n hn B
          refine pk_le n 6 (fun _ => ⟨vp_in_nI (by omega) (by omega), nm_r (ar_at _ (by omega)) (nm_r (nI_1 k) ?_)⟩) (fun c => by omega)
          exact out (d + 1) (k + 1) (a k) n (F n B) hb.1
        have w85 : (c k = 9 → ¬ ∃ h h', h ≠ h' ∧ md_R g (a k) h ∧ md_R g (a k) h') → wY_isRight_85 post (wY_isRight_26 post f_length f_handlers (nI m) f_there f_typed f_size f_why f_height f_objects f_line f_begun f_last f_end a_parent a_begin a_op a_arg a_from a_to a_target a_caught (ar a) (ar b) a_gone (ar c) a_frames a_maps a_high a_known a_mapped a_now a_sorts a_ints a_classes a_ready (d + 2)) (nI k) f_length f_handlers (nI m) f_there f_typed (-1) (-1) f_size f_why f_height f_objects f_line f_begun f_last f_end a_parent a_begin a_op a_arg a_from a_to a_target a_caught (ar a) (ar b) a_gone (ar c) a_frames a_maps a_high a_known a_mapped a_now a_sorts a_ints a_classes a_ready := by
          intro q
          refine ⟨vp_in_nI (by omega) (by omega), ?_⟩
          rw [ar_at _ (by omega)]
          by_cases e9 : c k = 9
          · rw [e9]
            refine pk_le 9 6 (fun z => by omega) (fun _ => nm_r (nI_1 k) (nx (w3 e9 (q e9))))
          · exact set (c k) (by omega) (w1 e9)
        refine pk_le m k (fun c => by omega) (fun _ => xb_m' ⟨vp_in_nI (by omega) (by omega), vp_in_nI (by omega) (by omega), ?_⟩)
        rw [ar_at _ (by omega)]
        refine br_c (fun z => ?_) (fun z => ?_)
        · rw [sev] at z
          exact xb_0 (w85 (fun _ => z))
        · have z' : ∃ h h', h ≠ h' ∧ md_R g (a k) h ∧ md_R g (a k) h' := Classical.byContradiction fun n => z (sev.mpr n)
          refine xb_1 ⟨vp_in_nI (by omega) (by omega), ?_⟩
          rw [ar_at _ (by omega)]
          refine pk_le (c k) 6 (fun q => w85 (fun e => by omega)) (fun q => set 6 (by omega) (w2 (by omega) z'))
    exact L m 0 (by omega) (fun j hj => by omega)
  · have e41 : m = 41 := by omega
    refine pk_le m 0 (fun c => by omega) (fun _ => br_t (by decide) ?_)
    exact br_t (by decide) (h7 e41)
end
end
section
/-! ===== the class: what an instruction needs and makes of a frame ===== -/
section
variable {f_codeCount f_coverCount f_placeCount f_tooMany f_layAnswer f_wrongKind f_wrongKey f_grown f_frameDepth f_frameThere f_lastReason f_valueDepth f_objectCount f_hasRun f_begun f_nowAt f_endClass : Int32} {a_parent a_entry a_code a_operand a_coverFrom a_coverTo a_coverTarget a_coverClass a_placeKey a_placeDepth a_cameWith a_ledWith a_faults a_found a_hasFound a_kept a_hasMap a_frame a_kind a_value a_objectClass a_objectReady : Nat → Int32}
variable {g : md_C} {m k d : Nat} {P D kr fr f : Nat → Nat}
theorem xa_onS {post : Int32 → Prop} {x : Nat} (hd : d ≤ 6) (hx : x ≤ 90) (f90 : ∀ s, f s ≤ 90) (hfr : ∀ s, s < 4 + d → fr s = f s) (h1 : ¬ (∀ i, i < d → f (4 + i) ≠ x) → post 1) (h0 : (∀ i, i < d → f (4 + i) ≠ x) → post 0) : wpX_isOnStack post (f_codeCount, f_coverCount, f_placeCount, f_tooMany, f_layAnswer, f_wrongKind, f_wrongKey, f_grown, (nI d), f_frameThere, f_lastReason, f_valueDepth, f_objectCount, f_hasRun, f_begun, f_nowAt, f_endClass, a_parent, a_entry, a_code, a_operand, a_coverFrom, a_coverTo, a_coverTarget, a_coverClass, a_placeKey, a_placeDepth, a_cameWith, a_ledWith, a_faults, a_found, a_hasFound, a_kept, a_hasMap, (ar fr), a_kind, a_value, a_objectClass, a_objectReady) (nI x) := by
  have L : ∀ e i, i + e = 6 → (∀ j, j < i → j < d → f (4 + j) ≠ x) → wX_isOnStack_2 post (nI x) f_codeCount f_coverCount f_placeCount f_tooMany f_layAnswer f_wrongKind f_wrongKey f_grown (nI d) f_frameThere f_lastReason f_valueDepth f_objectCount f_hasRun f_begun f_nowAt f_endClass a_parent a_entry a_code a_operand a_coverFrom a_coverTo a_coverTarget a_coverClass a_placeKey a_placeDepth a_cameWith a_ledWith a_faults a_found a_hasFound a_kept a_hasMap (ar fr) a_kind a_value a_objectClass a_objectReady (e + 1) (nI i) := by
    intro e
    induction e with
    | zero =>
      intro i hi no
      exact pk_le 6 i (fun _ => h0 (fun j hj => no j (by omega) hj)) (fun c => by omega)
    | succ e ih =>
      intro i hi no
      refine pk_le 6 i (fun c => by omega) (fun _ => pk_le d i (fun c => h0 (fun j hj => no j (by omega) hj)) (fun c => ?_))
      have e4 : (4 : Int32) + nI i = nI (4 + i) := nI_add 4 i
      rw [e4, ar_at _ (by omega), hfr (4 + i) (by omega)]
      have := f90 (4 + i)
      refine ⟨vp_in_nI (by omega) (by omega), pk_eq (f (4 + i)) x (fun q => h1 (fun z => z i c q)) (fun q => nm_r (nI_1 i) (ih (i + 1) (by omega) (fun j hj hjd => ?_)))⟩
      by_cases z : j = i
      · subst z; exact q
      · exact no j (by omega) hjd
  unfold wpX_isOnStack
  dsimp only
  exact ⟨7, L 6 0 rfl (fun j hj => by omega)⟩
theorem xa_mc {post : Int32 → Prop} {t : Nat} (hG : md_G g) (hM : md_M g) (Y : ml_Y g m P D) (hkr : ∀ k, k < m → kr k = md_kx (P k)) (ht : t ≤ 90) (h1 : mf_isM g m P t → post (nI (mf_mc g P t))) (h0 : ¬ mf_isM g m P t → post (-1)) : wpX_madeClass post ((nI (mc_cc g)), (nI (mc_hc g)), (nI m), f_tooMany, f_layAnswer, f_wrongKind, f_wrongKey, f_grown, f_frameDepth, f_frameThere, f_lastReason, f_valueDepth, f_objectCount, f_hasRun, f_begun, f_nowAt, f_endClass, (ar (mc_p g)), (ar (mc_e g)), (ar (mc_o g)), (mc_r g), (ar (mc_f g)), (ar (mc_t g)), (ar (mc_g g)), (ar (mc_k g)), (ar kr), a_placeDepth, a_cameWith, a_ledWith, a_faults, a_found, a_hasFound, a_kept, a_hasMap, a_frame, a_kind, a_value, a_objectClass, a_objectReady) (nI t) := by
  have hm := Y.1
  have hcc := hG.1
  unfold wpX_madeClass
  dsimp only
  by_cases c : t < 11
  · have e : nI t - 11 < 0 := pk_sneg (b := 11) (by omega) c
    refine nm_e (br_t e (h0 ?_))
    unfold mf_isM; omega
  · refine nm_r (e' := nI (t - 11)) (pk_sub (b := 11) (by omega)) (xb_n (by omega) (pk_lt (t - 11) m (fun q => ⟨vp_in_nI (by omega) (by omega), ?_⟩) (fun q => h0 (by unfold mf_isM; omega))))
    have v := mg_V hG hM Y q
    have hi := md_Vi hcc v
    refine nm_r (e' := nI (P (t - 11) % 24)) (by rw [ar_at _ (by omega), hkr _ q, xk_31 (md_kxlt _ (md_Vlt hcc v)), xk_i]) ⟨vp_in_nI (by omega) (by omega), ?_⟩
    have h20 := hG.2.2.1 (P (t - 11) % 24)
    rw [ar_at _ (by omega)]
    refine pk_eq (mc_o g (P (t - 11) % 24)) 8 (fun z => ⟨vp_in_nI (by omega) (by omega), ?_⟩) (fun z => h0 (fun y => z y.2.2))
    rw [nI_clamp (by omega), (mn_lim8 hG (i := P (t - 11) % 24) (Or.inl z)).2]
    exact h1 ⟨by omega, q, z⟩
theorem xa_link {post : Int32 → Prop} {t : Nat} (hG : md_G g) (hM : md_M g) (Y : ml_Y g m P D) (hkr : ∀ k, k < m → kr k = md_kx (P k)) (hk : k < m) (hn : 0 < md_n (P k)) (ht : t ≤ 90) (h1 : t = 51 + mf_ix P m (md_cl (P k)) → post 1) (h0 : ¬ t = 51 + mf_ix P m (md_cl (P k)) → post 0) : wpX_isLinkOf post ((nI (mc_cc g)), (nI (mc_hc g)), (nI m), f_tooMany, f_layAnswer, f_wrongKind, f_wrongKey, f_grown, f_frameDepth, f_frameThere, f_lastReason, f_valueDepth, f_objectCount, f_hasRun, f_begun, f_nowAt, f_endClass, (ar (mc_p g)), (ar (mc_e g)), (ar (mc_o g)), (mc_r g), (ar (mc_f g)), (ar (mc_t g)), (ar (mc_g g)), (ar (mc_k g)), (ar kr), a_placeDepth, a_cameWith, a_ledWith, a_faults, a_found, a_hasFound, a_kept, a_hasMap, a_frame, a_kind, a_value, a_objectClass, a_objectReady) (nI t) (nI (md_kx (P k))) := by
  have hm := Y.1
  have hcc := hG.1
  have hK : ∀ j, j < m → P j < 1327104 := fun j hj => md_Vlt hcc (mg_V hG hM Y hj)
  obtain ⟨j, hj, ej⟩ := mg_cl hG hM Y hk hn
  unfold wpX_isLinkOf
  dsimp only
  refine xa_ck hcc (mg_V hG hM Y hk) hn ?_
  rw [← ej] at h1 h0 ⊢
  rw [mf_ix_eq m j Y.2.1 hj] at h1 h0
  refine xa_po hm hkr hK (hK j hj) (fun i hi ei => ?_) (fun no => absurd rfl (no j hj))
  have : i = j := ml_inj Y.2.1 _ _ hi hj ei
  subst this
  refine xb_n (by omega) ?_
  have e51 : (51 : Int32) + nI i = nI (51 + i) := nI_add 51 i
  rw [e51]
  exact pk_eq t (51 + i) h1 h0
theorem xa_need {post : Int32 → Prop} (hG : md_G g) (hM : md_M g) (Y : ml_Y g m P D) (hkr : ∀ k, k < m → kr k = md_kx (P k)) (hk : k < m) (hd : d = D k) (f90 : ∀ s, f s ≤ 90) (hfr : ∀ s, s < 4 + d → fr s = f s) (h1 : mf_nd g m P k d f → post 1) (h0 : ¬ mf_nd g m P k d f → post 0) : wpX_meetsNeeds post ((nI (mc_cc g)), (nI (mc_hc g)), (nI m), f_tooMany, f_layAnswer, f_wrongKind, f_wrongKey, f_grown, (nI d), f_frameThere, f_lastReason, f_valueDepth, f_objectCount, f_hasRun, f_begun, f_nowAt, f_endClass, (ar (mc_p g)), (ar (mc_e g)), (ar (mc_o g)), (mc_r g), (ar (mc_f g)), (ar (mc_t g)), (ar (mc_g g)), (ar (mc_k g)), (ar kr), a_placeDepth, a_cameWith, a_ledWith, a_faults, a_found, a_hasFound, a_kept, a_hasMap, (ar fr), a_kind, a_value, a_objectClass, a_objectReady) (nI k) := by
  have hm := Y.1
  have hcc := hG.1
  have v := mg_V hG hM Y hk
  have hi := md_Vi hcc v
  have hD := mg_D hG hM Y hk
  have hth := mg_th Y hk
  have h20 := hG.2.2.1 (P k % 24)
  obtain ⟨_, _, _, _, f5⟩ := mg_W Y hk
  have nb : narrow .boolean (.int (1 : Int32)) = .int 1 := rfl
  have nb0 : narrow .boolean (.int (0 : Int32)) = .int 0 := rfl
  unfold wpX_meetsNeeds
  dsimp only
  refine ⟨vp_in_nI (by omega) (by omega), nm_r (e' := nI (md_kx (P k))) (by rw [ar_at _ (by omega), hkr k hk]) (nm_r (e' := nI (P k % 24)) (by rw [xk_31 (md_kxlt _ (md_Vlt hcc v)), xk_i]) ⟨vp_in_nI (by omega) (by omega), nm_e ?_⟩)⟩
  have etop : (4 : Int32) + nI d - 1 = nI (3 + d) := by
    show nI 4 + nI d - nI 1 = _
    rw [nI_add, pk_sub (by omega)]; exact congrArg nI (by omega)
  refine nm_r etop ⟨vp_in_nI (by omega) (by omega), nm_r (ar_at _ (by omega)) ?_⟩
  rw [nI_clamp (show P k % 24 < 2 ^ 31 by omega)]
  have F : ∀ s, s < 4 + d → ar fr (nI s).toNatClampNeg = nI (f s) := by
    intro s hs; rw [ar_at _ (by omega), hfr s hs]
  have tk := hth.1
  rw [← hd] at tk
  generalize ho : mc_o g (P k % 24) = o at *
  have S219 : (o = 10 ∨ o = 14 ∨ o = 19) → wX_meetsNeeds_219 post (nI (3 + d)) (nI (mc_cc g)) (nI (mc_hc g)) (nI m) f_tooMany f_layAnswer f_wrongKind f_wrongKey f_grown (nI d) f_frameThere f_lastReason f_valueDepth f_objectCount f_hasRun f_begun f_nowAt f_endClass (ar (mc_p g)) (ar (mc_e g)) (ar (mc_o g)) (mc_r g) (ar (mc_f g)) (ar (mc_t g)) (ar (mc_g g)) (ar (mc_k g)) (ar kr) a_placeDepth a_cameWith a_ledWith a_faults a_found a_hasFound a_kept a_hasMap (ar fr) a_kind a_value a_objectClass a_objectReady := by
    intro q
    have := f90 (3 + d)
    refine ⟨vp_in_nI (by omega) (by omega), ?_⟩
    rw [F _ (by omega)]
    refine pk_lt (f (3 + d)) 2 (fun c => h0 (fun z => ?_)) (fun c => ⟨vp_in_nI (by omega) (by omega), pk_lt 10 (f (3 + d)) (fun e => h0 (fun z => ?_)) (fun e => h1 ?_)⟩)
    · have := z.2.2.2.2.1 (by rw [ho]; exact q); omega
    · have := z.2.2.2.2.1 (by rw [ho]; exact q); omega
    · unfold mf_nd; rw [ho]
      refine ⟨fun z => by omega, fun z => by omega, fun z => by omega, fun z => by omega, fun _ => ⟨c, e⟩, fun z => by omega, fun z => by omega, fun z => by omega⟩
  have S248 : (o = 11 ∨ o = 18) → wX_meetsNeeds_248 post (mc_r g (P k % 24)) (nI (3 + d)) (nI (mc_cc g)) (nI (mc_hc g)) (nI m) f_tooMany f_layAnswer f_wrongKind f_wrongKey f_grown (nI d) f_frameThere f_lastReason f_valueDepth f_objectCount f_hasRun f_begun f_nowAt f_endClass (ar (mc_p g)) (ar (mc_e g)) (ar (mc_o g)) (mc_r g) (ar (mc_f g)) (ar (mc_t g)) (ar (mc_g g)) (ar (mc_k g)) (ar kr) a_placeDepth a_cameWith a_ledWith a_faults a_found a_hasFound a_kept a_hasMap (ar fr) a_kind a_value a_objectClass a_objectReady := by
    intro q
    have ha := mn_lim8 hG (i := P k % 24) (by rw [ho]; omega)
    refine ⟨vp_in_nI (by omega) (by omega), ?_⟩
    have e3 : (3 : Int32) + nI (mc_a g (P k % 24)) = nI (3 + mc_a g (P k % 24)) := nI_add 3 _
    rw [F _ (by omega), ha.2, e3]
    refine xa_fits hG (f90 _) (by omega) (fun z => ⟨nb, h1 ?_⟩) (fun z => ⟨nb0, h0 (fun y => z ?_)⟩)
    · unfold mf_nd; rw [ho]
      refine ⟨fun z => by omega, fun z => by omega, fun z => by omega, fun z => by omega, fun z => by omega, fun _ => z, fun z => by omega, fun z => by omega⟩
    · exact y.2.2.2.2.2.1 (by rw [ho]; exact q)
  have T : (o = 0 ∨ o = 1 ∨ o = 3 ∨ o = 4 ∨ o = 5 ∨ o = 6 ∨ o = 12 ∨ o = 15 ∨ o = 17 ∨ 19 < o) → post 1 := by
    intro q
    refine h1 ?_
    unfold mf_nd; rw [ho]
    refine ⟨fun z => by omega, fun z => by omega, fun z => by omega, fun z => by omega, fun z => by omega, fun z => by omega, fun z => by omega, fun z => by omega⟩
  refine pk_lt o 2 (fun c => T (by omega)) (fun c2 => pk_lt 19 o (fun c => T (by omega)) (fun c19 => ?_))
  refine pk_eq o 2 (fun c => ?_) (fun n2 => ?_)
  · have ha := mn_lim4 hG (i := P k % 24) (by rw [ho]; omega)
    have := f90 (mc_a g (P k % 24))
    rw [ha.2, F _ (by omega)]
    refine ⟨vp_in_nI (by omega) (by omega), pk_eq (f (mc_a g (P k % 24))) 0 (fun q => h0 (fun z => (z.1 (by rw [ho]; exact c)).1 q)) (fun q => ⟨vp_in_nI (by omega) (by omega), pk_le 51 (f (mc_a g (P k % 24))) (fun q2 => h0 (fun z => ?_)) (fun q2 => h1 ?_)⟩)⟩
    · have := (z.1 (by rw [ho]; exact c)).2; omega
    · unfold mf_nd; rw [ho]
      refine ⟨fun _ => ⟨q, q2⟩, fun z => by omega, fun z => by omega, fun z => by omega, fun z => by omega, fun z => by omega, fun z => by omega, fun z => by omega⟩
  refine pk_eq o 3 (fun c => T (by omega)) (fun n3 => pk_eq o 4 (fun c => T (by omega)) (fun n4 => pk_eq o 5 (fun c => T (by omega)) (fun n5 => pk_eq o 6 (fun c => T (by omega)) (fun n6 => ?_))))
  refine pk_eq o 7 (fun c => ?_) (fun n7 => ?_)
  · have t7 : 2 ≤ d := by rw [c] at tk; exact tk
    have a1 := f90 (3 + d)
    have a2 := f90 (2 + d)
    have e2 : nI (3 + d) - 1 = nI (2 + d) := by
      show nI (3 + d) - nI 1 = _
      rw [pk_sub (by omega)]; exact congrArg nI (by omega)
    rw [e2, F _ (by omega), F _ (by omega)]
    refine ⟨vp_in_nI (by omega) (by omega), pk_eq (f (3 + d)) 1 (fun q => ⟨vp_in_nI (by omega) (by omega), pk_eq (f (2 + d)) 1 (fun q2 => h1 ?_) (fun q2 => h0 (fun z => q2 (z.2.1 (by rw [ho]; exact c)).2))⟩) (fun q => h0 (fun z => q (z.2.1 (by rw [ho]; exact c)).1))⟩
    unfold mf_nd; rw [ho]
    refine ⟨fun z => by omega, fun _ => ⟨q, q2⟩, fun z => by omega, fun z => by omega, fun z => by omega, fun z => by omega, fun z => by omega, fun z => by omega⟩
  refine pk_eq o 8 (fun c => ?_) (fun n8 => ?_)
  · have e11 : (11 : Int32) + nI k = nI (11 + k) := nI_add 11 k
    rw [e11]
    refine xa_onS (by omega) (by omega) f90 hfr (fun q => xb_1 (h0 (fun z => q (z.2.2.1 (by rw [ho]; exact c))))) (fun q => xb_0 (h1 ?_))
    unfold mf_nd; rw [ho]
    refine ⟨fun z => by omega, fun z => by omega, fun _ => q, fun z => by omega, fun z => by omega, fun z => by omega, fun z => by omega, fun z => by omega⟩
  refine pk_eq o 9 (fun c => ⟨vp_in_nI (by omega) (by omega), ?_⟩) (fun n9 => ?_)
  · rw [F _ (by omega)]
    refine xa_mc hG hM Y hkr (f90 _) (fun q => ?_) (fun q => xb_m (h0 (fun z => q (z.2.2.2.1 (by rw [ho]; exact c)))))
    have := (mn_lim8 hG (i := P (f (3 + d) - 11) % 24) (Or.inl q.2.2)).1
    refine xb_n (by unfold mf_mc; omega) (h1 ?_)
    unfold mf_nd; rw [ho]
    refine ⟨fun z => by omega, fun z => by omega, fun z => by omega, fun _ => q, fun z => by omega, fun z => by omega, fun z => by omega, fun z => by omega⟩
  refine pk_eq o 10 (fun c => S219 (by omega)) (fun n10 => pk_eq o 11 (fun c => S248 (by omega)) (fun n11 => pk_eq o 12 (fun c => T (by omega)) (fun n12 => ?_)))
  refine pk_eq o 13 (fun c => ⟨vp_in_nI (by omega) (by omega), ?_⟩) (fun n13 => ?_)
  · have := f90 (3 + d)
    rw [F _ (by omega)]
    refine pk_eq (f (3 + d)) 1 (fun q => h1 ?_) (fun q => h0 (fun z => q (z.2.2.2.2.2.2.1 (by rw [ho]; exact c))))
    unfold mf_nd; rw [ho]
    refine ⟨fun z => by omega, fun z => by omega, fun z => by omega, fun z => by omega, fun z => by omega, fun z => by omega, fun _ => q, fun z => by omega⟩
  refine pk_eq o 14 (fun c => S219 (by omega)) (fun n14 => pk_eq o 15 (fun c => T (by omega)) (fun n15 => ?_))
  refine pk_eq o 16 (fun c => ?_) (fun n16 => ?_)
  · have ha := mn_lim4 hG (i := P k % 24) (by rw [ho]; omega)
    have hn : 0 < md_n (P k) := Nat.pos_of_ne_zero (fun z => f5 ⟨by rw [ho]; exact c, z⟩)
    rw [ha.2, F _ (by omega)]
    refine ⟨vp_in_nI (by omega) (by omega), xa_link hG hM Y hkr hk hn (f90 _) (fun q => ⟨nb, h1 ?_⟩) (fun q => ⟨nb0, h0 (fun z => q (z.2.2.2.2.2.2.2 (by rw [ho]; exact c)))⟩)⟩
    unfold mf_nd; rw [ho]
    refine ⟨fun z => by omega, fun z => by omega, fun z => by omega, fun z => by omega, fun z => by omega, fun z => by omega, fun z => by omega, fun _ => q⟩
  refine pk_eq o 17 (fun c => T (by omega)) (fun n17 => pk_eq o 18 (fun c => S248 (by omega)) (fun n18 => pk_eq o 19 (fun c => S219 (by omega)) (fun n19 => by omega)))
end
end
section
/-! ===== the class: what an instruction makes of a frame ===== -/
section
variable {f_codeCount f_coverCount f_placeCount f_tooMany f_layAnswer f_wrongKind f_wrongKey f_grown f_frameDepth f_frameThere f_lastReason f_valueDepth f_objectCount f_hasRun f_begun f_nowAt f_endClass : Int32} {a_parent a_entry a_code a_operand a_coverFrom a_coverTo a_coverTarget a_coverClass a_placeKey a_placeDepth a_cameWith a_ledWith a_faults a_found a_hasFound a_kept a_hasMap a_frame a_kind a_value a_objectClass a_objectReady : Nat → Int32}
variable {g : md_C} {m k d : Nat} {P D kr fr f : Nat → Nat}
theorem xa_repl {post : SX → Prop} {old new : Nat} (ho : old ≤ 90) {n : Nat} (hn : n ≤ 10) (f90 : ∀ s, f s ≤ 90) (hfr : ∀ s, s < n → fr s = f s) (H : ∀ fr' : Nat → Nat, (∀ s, s < n → fr' s = if f s = old then new else f s) → post (f_codeCount, f_coverCount, f_placeCount, f_tooMany, f_layAnswer, f_wrongKind, f_wrongKey, f_grown, f_frameDepth, f_frameThere, f_lastReason, f_valueDepth, f_objectCount, f_hasRun, f_begun, f_nowAt, f_endClass, a_parent, a_entry, a_code, a_operand, a_coverFrom, a_coverTo, a_coverTarget, a_coverClass, a_placeKey, a_placeDepth, a_cameWith, a_ledWith, a_faults, a_found, a_hasFound, a_kept, a_hasMap, (ar fr'), a_kind, a_value, a_objectClass, a_objectReady)) : wpX_replace post (f_codeCount, f_coverCount, f_placeCount, f_tooMany, f_layAnswer, f_wrongKind, f_wrongKey, f_grown, f_frameDepth, f_frameThere, f_lastReason, f_valueDepth, f_objectCount, f_hasRun, f_begun, f_nowAt, f_endClass, a_parent, a_entry, a_code, a_operand, a_coverFrom, a_coverTo, a_coverTarget, a_coverClass, a_placeKey, a_placeDepth, a_cameWith, a_ledWith, a_faults, a_found, a_hasFound, a_kept, a_hasMap, (ar fr), a_kind, a_value, a_objectClass, a_objectReady) (nI old) (nI new) := by
  have L : ∀ e s, s + e = 10 → ∀ fr1 : Nat → Nat, (∀ t, t < s → t < n → fr1 t = if f t = old then new else f t) → (∀ t, s ≤ t → fr1 t = fr t) → wX_replace_2 post (nI old) (nI new) f_codeCount f_coverCount f_placeCount f_tooMany f_layAnswer f_wrongKind f_wrongKey f_grown f_frameDepth f_frameThere f_lastReason f_valueDepth f_objectCount f_hasRun f_begun f_nowAt f_endClass (e + 1) (nI s) a_parent a_entry a_code a_operand a_coverFrom a_coverTo a_coverTarget a_coverClass a_placeKey a_placeDepth a_cameWith a_ledWith a_faults a_found a_hasFound a_kept a_hasMap (ar fr1) a_kind a_value a_objectClass a_objectReady := by
    intro e
    induction e with
    | zero =>
      intro s hs fr1 h1 h2
      exact pk_le 10 s (fun _ => H fr1 (fun t ht => h1 t (by omega) ht)) (fun c => by omega)
    | succ e ih =>
      intro s hs fr1 h1 h2
      refine pk_le 10 s (fun c => by omega) (fun _ => ⟨vp_in_nI (by omega) (by omega), ?_⟩)
      rw [ar_at _ (by omega), h2 s (Nat.le_refl _)]
      refine br_c (fun c => ⟨vp_in_nI (by omega) (by omega), nm_r (ar_ui _ _ (by omega)) (nm_r (nI_1 s) (ih (s + 1) (by omega) _ (fun t ht htn => ?_) (fun t ht => ?_)))⟩) (fun c => nm_r (nI_1 s) (ih (s + 1) (by omega) fr1 (fun t ht htn => ?_) (fun t ht => h2 t (by omega))))
      · by_cases q : t = s
        · subst q
          have f9 := f90 t
          rw [hfr t htn] at c
          rw [up_s, if_pos ((nI_eq (by omega) (by omega)).mp c)]
        · rw [up_n q]; exact h1 t (by omega) htn
      · rw [up_n (by omega)]; exact h2 t (by omega)
      · by_cases q : t = s
        · subst q
          rw [hfr t htn] at c
          rw [h2 t (Nat.le_refl _), hfr t htn, if_neg (fun z => c (by rw [z]))]
        · exact h1 t (by omega) htn
  unfold wpX_replace
  dsimp only
  exact ⟨11, L 10 0 rfl fr (fun t ht => by omega) (fun t _ => rfl)⟩
theorem xa_chg {post : SX → Prop} (hG : md_G g) (hM : md_M g) (Y : ml_Y g m P D) (hkr : ∀ k, k < m → kr k = md_kx (P k)) (hk : k < m) (hd : d = D k) (f90 : ∀ s, f s ≤ 90) (hfr : ∀ s, s < 4 + d → fr s = f s) (nd : mf_nd g m P k d f) (H : ∀ fr' : Nat → Nat, (∀ s, s < 4 + md_th g (P k) d → fr' s = mf_cg g P k d f s) → post ((nI (mc_cc g)), (nI (mc_hc g)), (nI m), f_tooMany, f_layAnswer, f_wrongKind, f_wrongKey, f_grown, (nI (md_th g (P k) d)), f_frameThere, f_lastReason, f_valueDepth, f_objectCount, f_hasRun, f_begun, f_nowAt, f_endClass, (ar (mc_p g)), (ar (mc_e g)), (ar (mc_o g)), (mc_r g), (ar (mc_f g)), (ar (mc_t g)), (ar (mc_g g)), (ar (mc_k g)), (ar kr), a_placeDepth, a_cameWith, a_ledWith, a_faults, a_found, a_hasFound, a_kept, a_hasMap, (ar fr'), a_kind, a_value, a_objectClass, a_objectReady)) : wpX_changeFrame post ((nI (mc_cc g)), (nI (mc_hc g)), (nI m), f_tooMany, f_layAnswer, f_wrongKind, f_wrongKey, f_grown, (nI d), f_frameThere, f_lastReason, f_valueDepth, f_objectCount, f_hasRun, f_begun, f_nowAt, f_endClass, (ar (mc_p g)), (ar (mc_e g)), (ar (mc_o g)), (mc_r g), (ar (mc_f g)), (ar (mc_t g)), (ar (mc_g g)), (ar (mc_k g)), (ar kr), a_placeDepth, a_cameWith, a_ledWith, a_faults, a_found, a_hasFound, a_kept, a_hasMap, (ar fr), a_kind, a_value, a_objectClass, a_objectReady) (nI k) := by
  have hm := Y.1
  have hcc := hG.1
  have v := mg_V hG hM Y hk
  have hi := md_Vi hcc v
  have hD := mg_D hG hM Y hk
  have hth := mg_th Y hk
  have h20 := hG.2.2.1 (P k % 24)
  have t2 := md_tk2 (mc_o g (P k % 24))
  have p2 := md_pu2 (mc_o g (P k % 24))
  unfold wpX_changeFrame
  dsimp only
  refine ⟨vp_in_nI (by omega) (by omega), nm_r (e' := nI (P k % 24)) (by rw [ar_at _ (by omega), hkr k hk, xk_31 (md_kxlt _ (md_Vlt hcc v)), xk_i]) ⟨vp_in_nI (by omega) (by omega), nm_r (ar_at _ (by omega)) ⟨vp_in_nI (by omega) (by omega), nm_e ?_⟩⟩⟩
  have etop : (4 : Int32) + nI d - 1 = nI (3 + d) := by
    show nI 4 + nI d - nI 1 = _
    rw [nI_add, pk_sub (by omega)]; exact congrArg nI (by omega)
  refine nm_r etop ⟨vp_in_nI (by omega) (by omega), nm_r (ar_at _ (by omega)) (xa_pu h20 (xa_tk h20 ?_))⟩
  have tk := hth.1
  have th6 := hth.2
  rw [← hd] at tk th6
  have ed : nI d + (nI (md_pu (mc_o g (P k % 24))) - nI (md_tk (mc_o g (P k % 24)))) = nI (md_th g (P k) d) := by
    unfold md_th
    have e1 : nI d = nI (d - md_tk (mc_o g (P k % 24))) + nI (md_tk (mc_o g (P k % 24))) := by
      rw [nI_add]; exact congrArg nI (by omega)
    rw [e1, ← nI_add (d - md_tk (mc_o g (P k % 24)))]
    generalize nI (d - md_tk (mc_o g (P k % 24))) = x
    generalize nI (md_tk (mc_o g (P k % 24))) = y
    generalize nI (md_pu (mc_o g (P k % 24))) = z
    grind
  refine nm_r ed ?_
  rw [nI_clamp (show P k % 24 < 2 ^ 31 by omega)]
  have e4 : nI (3 + d) + 1 = nI (4 + d) := by rw [nI_1]; exact congrArg nI (by omega)
  have h3 : 0 < d → fr (3 + d) = f (3 + d) := fun h => hfr _ (by omega)
  have idc : mc_o g (P k % 24) = 4 ∨ mc_o g (P k % 24) = 7 ∨ (11 ≤ mc_o g (P k % 24) ∧ mc_o g (P k % 24) ≤ 14) ∨ 15 < mc_o g (P k % 24) → post ((nI (mc_cc g)), (nI (mc_hc g)), (nI m), f_tooMany, f_layAnswer, f_wrongKind, f_wrongKey, f_grown, (nI (md_th g (P k) d)), f_frameThere, f_lastReason, f_valueDepth, f_objectCount, f_hasRun, f_begun, f_nowAt, f_endClass, (ar (mc_p g)), (ar (mc_e g)), (ar (mc_o g)), (mc_r g), (ar (mc_f g)), (ar (mc_t g)), (ar (mc_g g)), (ar (mc_k g)), (ar kr), a_placeDepth, a_cameWith, a_ledWith, a_faults, a_found, a_hasFound, a_kept, a_hasMap, (ar fr), a_kind, a_value, a_objectClass, a_objectReady) := by
    intro q
    refine H fr (fun s hs => ?_)
    have e : mf_cg g P k d f = f := by
      unfold mf_cg
      rw [if_neg (by omega), if_neg (by omega), if_neg (by omega), if_neg (by omega), if_neg (by omega), if_neg (by omega), if_neg (by omega), if_neg (by omega), if_neg (by omega), if_neg (by omega)]
    rw [e]
    refine hfr s ?_
    have : md_th g (P k) d ≤ d := by
      unfold md_th
      have : md_pu (mc_o g (P k % 24)) ≤ md_tk (mc_o g (P k % 24)) := by
        unfold md_pu md_tk
        rcases q with q | q | q | q
        · rw [q]; decide
        · rw [q]; decide
        · rw [if_neg (by omega), if_neg (by omega)]; omega
        · rw [if_neg (by omega), if_neg (by omega)]; omega
      omega
    omega
  have thv : ∀ n t p, mc_o g (P k % 24) = n → md_tk n = t → md_pu n = p → md_th g (P k) d = d - t + p ∧ t ≤ d := by
    intro n t p e1 e2 e3
    unfold md_th; rw [e1] at tk ⊢; rw [e2] at tk ⊢; rw [e3]; exact ⟨rfl, tk⟩
  -- a slot put on top
  have put : ∀ v, md_th g (P k) d = d + 1 → mf_cg g P k d f = mf_up f (4 + d) v → post ((nI (mc_cc g)), (nI (mc_hc g)), (nI m), f_tooMany, f_layAnswer, f_wrongKind, f_wrongKey, f_grown, (nI (md_th g (P k) d)), f_frameThere, f_lastReason, f_valueDepth, f_objectCount, f_hasRun, f_begun, f_nowAt, f_endClass, (ar (mc_p g)), (ar (mc_e g)), (ar (mc_o g)), (mc_r g), (ar (mc_f g)), (ar (mc_t g)), (ar (mc_g g)), (ar (mc_k g)), (ar kr), a_placeDepth, a_cameWith, a_ledWith, a_faults, a_found, a_hasFound, a_kept, a_hasMap, (ar (mf_up fr (4 + d) v)), a_kind, a_value, a_objectClass, a_objectReady) := by
    intro v e1 e2
    refine H _ (fun s hs => ?_)
    rw [e2]
    by_cases q : s = 4 + d
    · subst q; rw [up_s, up_s]
    · rw [up_n q, up_n q]; exact hfr s (by omega)
  refine br_f (nI_pos (by omega)) (pk_lt 15 (mc_o g (P k % 24)) (fun c => idc (by omega)) (fun c15 => ?_))
  refine pk_eq (mc_o g (P k % 24)) 0 (fun c => ?_) (fun n0 => ?_)
  · have th := thv 0 0 1 c rfl rfl
    rw [e4]
    refine ⟨vp_in_nI (by omega) (by omega), nm_r (ar_ui fr 1 (by omega)) (put 1 (by omega) ?_)⟩
    unfold mf_cg; rw [if_pos c]
  refine pk_eq (mc_o g (P k % 24)) 1 (fun c => ?_) (fun n1 => ?_)
  · have th := thv 1 0 1 c rfl rfl
    rw [e4]
    refine ⟨vp_in_nI (by omega) (by omega), nm_r (ar_ui fr 2 (by omega)) (put 2 (by omega) ?_)⟩
    unfold mf_cg; rw [if_neg n0, if_pos c]
  refine pk_eq (mc_o g (P k % 24)) 2 (fun c => ?_) (fun n2 => ?_)
  · have th := thv 2 0 1 c rfl rfl
    have ha := mn_lim4 hG (i := P k % 24) (Or.inl c)
    rw [e4, ha.2, ar_at _ (by omega)]
    refine ⟨vp_in_nI (by omega) (by omega), vp_in_nI (by omega) (by omega), nm_r (ar_ui fr _ (by omega)) (put _ (by omega) ?_)⟩
    unfold mf_cg; rw [if_neg n0, if_neg n1, if_pos c, hfr _ (by omega)]
  refine pk_eq (mc_o g (P k % 24)) 3 (fun c => ?_) (fun n3 => ?_)
  · have th := thv 3 1 0 c rfl rfl
    have ha := mn_lim4 hG (i := P k % 24) (Or.inr (Or.inl c))
    rw [ha.2]
    refine ⟨vp_in_nI (by omega) (by omega), nm_r (ar_ui fr _ (by omega)) (H _ (fun s hs => ?_))⟩
    unfold mf_cg; rw [if_neg n0, if_neg n1, if_neg n2, if_pos c]
    by_cases q : s = mc_a g (P k % 24)
    · subst q; rw [up_s, up_s]; exact h3 (by omega)
    · rw [up_n q, up_n q]; exact hfr s (by omega)
  refine pk_eq (mc_o g (P k % 24)) 4 (fun c => idc (by omega)) (fun n4 => ?_)
  refine pk_eq (mc_o g (P k % 24)) 5 (fun c => ?_) (fun n5 => ?_)
  · have th := thv 5 1 2 c rfl rfl
    rw [e4]
    refine ⟨vp_in_nI (by omega) (by omega), nm_r (ar_ui fr _ (by omega)) (put _ (by omega) ?_)⟩
    unfold mf_cg; rw [if_neg n0, if_neg n1, if_neg n2, if_neg n3, if_pos c, h3 (by omega)]
  refine pk_eq (mc_o g (P k % 24)) 6 (fun c => ?_) (fun n6 => ?_)
  · have th := thv 6 2 2 c rfl rfl
    have e2 : nI (3 + d) - 1 = nI (2 + d) := by
      show nI (3 + d) - nI 1 = _
      rw [pk_sub (by omega)]; exact congrArg nI (by omega)
    rw [e2, ar_at _ (by omega)]
    refine ⟨vp_in_nI (by omega) (by omega), vp_in_nI (by omega) (by omega), nm_r (ar_ui fr _ (by omega)) ⟨vp_in_nI (by omega) (by omega), nm_r (ar_ui _ _ (by omega)) (H _ (fun s hs => ?_))⟩⟩
    unfold mf_cg; rw [if_neg n0, if_neg n1, if_neg n2, if_neg n3, if_neg n5, if_pos c]
    by_cases q : s = 2 + d
    · subst q; rw [up_s, up_s]; exact h3 (by omega)
    · rw [up_n q, up_n q]
      by_cases q2 : s = 3 + d
      · subst q2; rw [up_s, up_s]; exact hfr _ (by omega)
      · rw [up_n q2, up_n q2]; exact hfr s (by omega)
  refine pk_eq (mc_o g (P k % 24)) 7 (fun c => idc (by omega)) (fun n7 => ?_)
  refine pk_eq (mc_o g (P k % 24)) 8 (fun c => ?_) (fun n8 => ?_)
  · have th := thv 8 0 1 c rfl rfl
    have e11 : (11 : Int32) + nI k = nI (11 + k) := nI_add 11 k
    rw [e11]
    refine xa_repl (old := 11 + k) (new := 0) (n := 4 + d) (by omega) (by omega) f90 hfr (fun fr1 h1 => ?_)
    rw [e4]
    refine ⟨vp_in_nI (by omega) (by omega), nm_r (ar_ui fr1 _ (by omega)) (H _ (fun s hs => ?_))⟩
    unfold mf_cg; rw [if_neg n0, if_neg n1, if_neg n2, if_neg n3, if_neg n5, if_neg n6, if_pos c]
    by_cases q : s = 4 + d
    · subst q; rw [up_s, up_s]
    · rw [up_n q, up_n q]; exact h1 s (by omega)
  refine pk_eq (mc_o g (P k % 24)) 9 (fun c => ?_) (fun n9 => ?_)
  · have th := thv 9 1 0 c rfl rfl
    have f9 := f90 (3 + d)
    rw [h3 (by omega)]
    have q := nd.2.2.2.1 c
    refine xa_mc hG hM Y hkr f9 (fun _ => ?_) (fun z => absurd q z)
    have e3 : (3 : Int32) + nI (mf_mc g P (f (3 + d))) = nI (3 + mf_mc g P (f (3 + d))) := nI_add 3 _
    rw [e3]
    refine xa_repl (n := 4 + d) f9 (by omega) f90 hfr (fun fr1 h1 => H fr1 (fun s hs => ?_))
    unfold mf_cg; rw [if_neg n0, if_neg n1, if_neg n2, if_neg n3, if_neg n5, if_neg n6, if_neg n8, if_pos c]
    exact h1 s (by omega)
  refine pk_eq (mc_o g (P k % 24)) 10 (fun c => ?_) (fun n10 => ?_)
  · have th := thv 10 1 1 c rfl rfl
    have ha := mn_lim8 hG (i := P k % 24) (Or.inr (Or.inl c))
    have e3 : (3 : Int32) + nI (mc_a g (P k % 24)) = nI (3 + mc_a g (P k % 24)) := nI_add 3 _
    rw [ha.2, e3]
    refine ⟨vp_in_nI (by omega) (by omega), nm_r (ar_ui fr _ (by omega)) (H _ (fun s hs => ?_))⟩
    unfold mf_cg; rw [if_neg n0, if_neg n1, if_neg n2, if_neg n3, if_neg n5, if_neg n6, if_neg n8, if_neg n9, if_pos c]
    by_cases q : s = 3 + d
    · subst q; rw [up_s, up_s]
    · rw [up_n q, up_n q]; exact hfr s (by omega)
  refine pk_eq (mc_o g (P k % 24)) 11 (fun c => idc (by omega)) (fun n11 => pk_eq (mc_o g (P k % 24)) 12 (fun c => idc (by omega)) (fun n12 => pk_eq (mc_o g (P k % 24)) 13 (fun c => idc (by omega)) (fun n13 => pk_eq (mc_o g (P k % 24)) 14 (fun c => idc (by omega)) (fun n14 => ?_))))
  refine pk_eq (mc_o g (P k % 24)) 15 (fun c => ?_) (fun n15 => by omega)
  have th := thv 15 0 1 c rfl rfl
  have e51 : (51 : Int32) + nI k = nI (51 + k) := nI_add 51 k
  rw [e4, e51]
  refine ⟨vp_in_nI (by omega) (by omega), nm_r (ar_ui fr _ (by omega)) (put _ (by omega) ?_)⟩
  unfold mf_cg; rw [if_neg n0, if_neg n1, if_neg n2, if_neg n3, if_neg n5, if_neg n6, if_neg n8, if_neg n9, if_neg n10, if_pos c]
end
end
section
/-! ===== the end of finding types ===== -/
section
variable {g : md_C} {m : Nat} {P D : Nat → Nat}
theorem mi_rd90 (hG : md_G g) (hm : m ≤ 40) : ∀ k z y, k ≤ m → mf_rd g m P D k z = some y → mn_90 z.1 → mn_90 y.1 := by
  intro k
  induction k with
  | zero => intro z y _ h hz; cases h; exact hz
  | succ k ih =>
    intro z y hk h hz
    simp only [mf_rd] at h
    cases e : mf_rd g m P D k z with
    | none => rw [e] at h; cases h
    | some w =>
      rw [e] at h
      dsimp only at h
      have a := ih z w (by omega) e hz
      split at h
      · exact mn_st90 hG (by omega) h a
      · cases h; exact a
theorem mi_rdn : ∀ d k z, mf_rd g m P D k z = none → mf_rd g m P D (k + d) z = none := by
  intro d
  induction d with
  | zero => intro k z h; exact h
  | succ d ih =>
    intro k z h
    show mf_rd g m P D ((k + d) + 1) z = none
    simp only [mf_rd]
    rw [ih k z h]
theorem mi_fin (hG : md_G g) (Y : ml_Y g m P D) : ∀ n T T', mf_mu m T < n → T.1 0 = true → mn_90 T → mf_it g m P D n T = some T' → (∀ k, k < m → T'.1 k = true) ∧ mn_90 T' := by
  intro n
  induction n with
  | zero => intro T T' h; omega
  | succ n ih =>
    intro T T' hmu h0 h90 h
    simp only [mf_it] at h
    cases e : mf_rd g m P D m (T, false) with
    | none => rw [e] at h; cases h
    | some y =>
      rw [e] at h
      dsimp only at h
      have y90 := mi_rd90 hG Y.1 m _ y (Nat.le_refl _) e h90
      have y0 := mn_rdk (q := 0) m _ y e h0
      have Q := mg_Qrd hG.2.2.2.2.2.1 Y m _ y (Nat.le_refl _) e
      split at h
      · rename_i f
        rcases Q.2 f with z | z
        · cases z
        · have z' : mf_mu m y.1 < mf_mu m T := z
          exact ih y.1 T' (by omega) y0 y90 h
      · rename_i f
        cases h
        have f' : y.2 = false := by
          cases q : y.2
          · rfl
          · exact absurd q f
        obtain ⟨N1, N2⟩ := mn_Nrd m _ y e
        have eq := (N1 f').2
        refine ⟨?_, y90⟩
        have K := N2 f'
        rw [eq]
        exact mn_all Y h0 K
end
end
section
/-! ===== the class: finding types ===== -/
section
variable {f_codeCount f_coverCount f_placeCount f_tooMany f_layAnswer f_wrongKind f_wrongKey f_grown f_frameDepth f_frameThere f_lastReason f_valueDepth f_objectCount f_hasRun f_begun f_nowAt f_endClass : Int32} {a_parent a_entry a_code a_operand a_coverFrom a_coverTo a_coverTarget a_coverClass a_placeKey a_placeDepth a_cameWith a_ledWith a_faults a_found a_hasFound a_kept a_hasMap a_frame a_kind a_value a_objectClass a_objectReady : Nat → Int32}
variable {g : md_C} {m : Nat} {P D kr : Nat → Nat}
theorem xa_po2 {post : Int32 → Prop} {q : Nat} (hG : md_G g) (hM : md_M g) (Y : ml_Y g m P D) (hkr : ∀ k, k < m → kr k = md_kx (P k)) {j : Nat} (hj : j < m) (ej : P j = q) (h : post (nI j)) : wpX_placeOf post (f_codeCount, f_coverCount, (nI m), f_tooMany, f_layAnswer, f_wrongKind, f_wrongKey, f_grown, f_frameDepth, f_frameThere, f_lastReason, f_valueDepth, f_objectCount, f_hasRun, f_begun, f_nowAt, f_endClass, a_parent, a_entry, a_code, a_operand, a_coverFrom, a_coverTo, a_coverTarget, a_coverClass, (ar kr), a_placeDepth, a_cameWith, a_ledWith, a_faults, a_found, a_hasFound, a_kept, a_hasMap, a_frame, a_kind, a_value, a_objectClass, a_objectReady) (nI (md_kx q)) := by
  have hK : ∀ j, j < m → P j < 1327104 := fun j hj => md_Vlt hG.1 (mg_V hG hM Y hj)
  refine xa_po Y.1 hkr hK (by rw [← ej]; exact hK j hj) (fun i hi ei => ?_) (fun no => absurd ej (no j hj))
  have : i = j := ml_inj Y.2.1 _ _ hi hj (ei.trans ej.symm)
  subst this; exact h
theorem xa_po3 {post : Int32 → Prop} (hG : md_G g) (hM : md_M g) (Y : ml_Y g m P D) (hkr : ∀ k, k < m → kr k = md_kx (P k)) (h : post (-1)) : wpX_placeOf post (f_codeCount, f_coverCount, (nI m), f_tooMany, f_layAnswer, f_wrongKind, f_wrongKey, f_grown, f_frameDepth, f_frameThere, f_lastReason, f_valueDepth, f_objectCount, f_hasRun, f_begun, f_nowAt, f_endClass, a_parent, a_entry, a_code, a_operand, a_coverFrom, a_coverTo, a_coverTarget, a_coverClass, (ar kr), a_placeDepth, a_cameWith, a_ledWith, a_faults, a_found, a_hasFound, a_kept, a_hasMap, a_frame, a_kind, a_value, a_objectClass, a_objectReady) (-1) :=
  xa_po_none Y.1 hkr (fun j hj => md_Vlt hG.1 (mg_V hG hM Y hj)) h
theorem xa_jk2 {post : Int32 → Prop} (hG : md_G g) (hM : md_M g) (Y : ml_Y g m P D) {k : Nat} (hk : k < m) (hs : ∀ q, md_L g (P k) = some q → post (nI (md_kx q))) (hn : md_L g (P k) = none → post (-1)) : wpX_jumpKey post ((nI (mc_cc g)), (nI (mc_hc g)), f_placeCount, f_tooMany, f_layAnswer, f_wrongKind, f_wrongKey, f_grown, f_frameDepth, f_frameThere, f_lastReason, f_valueDepth, f_objectCount, f_hasRun, f_begun, f_nowAt, f_endClass, (ar (mc_p g)), (ar (mc_e g)), (ar (mc_o g)), (mc_r g), (ar (mc_f g)), (ar (mc_t g)), (ar (mc_g g)), (ar (mc_k g)), a_placeKey, a_placeDepth, a_cameWith, a_ledWith, a_faults, a_found, a_hasFound, a_kept, a_hasMap, a_frame, a_kind, a_value, a_objectClass, a_objectReady) (nI (md_kx (P k))) := by
  obtain ⟨f1, f2, f3, f4, f5⟩ := mg_W Y hk
  have v := mg_V hG hM Y hk
  have n0 : mc_o g (P k % 24) = 16 → 0 < md_n (P k) := fun o => Nat.pos_of_ne_zero (fun z => f5 ⟨o, z⟩)
  refine xa_jk hG v (fun o z => f4 ⟨o, Or.inl z⟩) n0 (fun o => ?_) hs hn
  obtain ⟨w, e, _⟩ := md_Vcl hG.1 v (n0 o)
  have := md_Vi hG.1 w
  have : ¬ md_c (P k) (md_n (P k) - 1) + 1 = mc_cc g := fun z => f1 (Or.inr ⟨o, n0 o, z⟩)
  have := hG.1
  omega
theorem xa_giveOn {post : Int32 → SX → Prop} {T : mf_T} {gr : Bool} {k : Nat} {hf fd fr : Nat → Nat} (hG : md_G g) (hM : md_M g) (Y : ml_Y g m P D) (hkr : ∀ k, k < m → kr k = md_kx (P k)) (hk : k < m) (kn : T.1 k = true) (A : mf_A m D T hf fd) (T90 : mn_90 T) (H0 : mf_st g m P D k (T, gr) = none → ∀ (hf' fd' fr' : Nat → Nat) (gr' : Bool) (dp : Int32), post 0 ((nI (mc_cc g)), (nI (mc_hc g)), (nI m), f_tooMany, f_layAnswer, f_wrongKind, f_wrongKey, (mf_b gr'), dp, f_frameThere, f_lastReason, f_valueDepth, f_objectCount, f_hasRun, f_begun, f_nowAt, f_endClass, (ar (mc_p g)), (ar (mc_e g)), (ar (mc_o g)), (mc_r g), (ar (mc_f g)), (ar (mc_t g)), (ar (mc_g g)), (ar (mc_k g)), (ar kr), (ar D), a_cameWith, a_ledWith, a_faults, (ar fd'), (ar hf'), a_kept, a_hasMap, (ar fr'), a_kind, a_value, a_objectClass, a_objectReady)) (H1 : ∀ y, mf_st g m P D k (T, gr) = some y → ∀ (hf' fd' fr' : Nat → Nat) (dp : Int32), mf_A m D y.1 hf' fd' → post 1 ((nI (mc_cc g)), (nI (mc_hc g)), (nI m), f_tooMany, f_layAnswer, f_wrongKind, f_wrongKey, (mf_b y.2), dp, f_frameThere, f_lastReason, f_valueDepth, f_objectCount, f_hasRun, f_begun, f_nowAt, f_endClass, (ar (mc_p g)), (ar (mc_e g)), (ar (mc_o g)), (mc_r g), (ar (mc_f g)), (ar (mc_t g)), (ar (mc_g g)), (ar (mc_k g)), (ar kr), (ar D), a_cameWith, a_ledWith, a_faults, (ar fd'), (ar hf'), a_kept, a_hasMap, (ar fr'), a_kind, a_value, a_objectClass, a_objectReady)) : wpX_giveOn post ((nI (mc_cc g)), (nI (mc_hc g)), (nI m), f_tooMany, f_layAnswer, f_wrongKind, f_wrongKey, (mf_b gr), f_frameDepth, f_frameThere, f_lastReason, f_valueDepth, f_objectCount, f_hasRun, f_begun, f_nowAt, f_endClass, (ar (mc_p g)), (ar (mc_e g)), (ar (mc_o g)), (mc_r g), (ar (mc_f g)), (ar (mc_t g)), (ar (mc_g g)), (ar (mc_k g)), (ar kr), (ar D), a_cameWith, a_ledWith, a_faults, (ar fd), (ar hf), a_kept, a_hasMap, (ar fr), a_kind, a_value, a_objectClass, a_objectReady) (nI k) := by
  have hm := Y.1
  have hcc := hG.1
  have hhc := hG.2.1
  have v := mg_V hG hM Y hk
  have hpl := md_Vlt hcc v
  have hi := md_Vi hcc v
  have hDs : ∀ q, q < m → D q ≤ 6 := fun q hq => mg_D hG hM Y hq
  have th6 := (mg_th Y hk).2
  -- behind the handlers
  have S93 : ∀ (Z : mf_Z) (hf fd fr : Nat → Nat) (dp : Int32), Z = mf_hs g m P k (T.2 k) (mc_hc g) (T, gr) → mf_A m D Z.1 hf fd → wX_giveOn_93 post (nI k) (nI (md_kx (P k))) (nI (P k % 24)) (nI (mc_cc g)) (nI (mc_hc g)) (nI m) f_tooMany f_layAnswer f_wrongKind f_wrongKey (mf_b Z.2) dp f_frameThere f_lastReason f_valueDepth f_objectCount f_hasRun f_begun f_nowAt f_endClass (ar (mc_p g)) (ar (mc_e g)) (ar (mc_o g)) (mc_r g) (ar (mc_f g)) (ar (mc_t g)) (ar (mc_g g)) (ar (mc_k g)) (ar kr) (ar D) a_cameWith a_ledWith a_faults (ar fd) (ar hf) a_kept a_hasMap (ar fr) a_kind a_value a_objectClass a_objectReady := by
    intro Z hf fd fr dp eZ A
    have kZ : Z.1.1 k = true := by rw [eZ]; exact mn_hsk kn _
    have Z90 : mn_90 Z.1 := by rw [eZ]; exact mn_hs90 hG T90 (T90 k) _
    unfold wX_giveOn_93
    refine xa_loadF (by omega) (fun fr1 hfr1 => ?_)
    have hfr : ∀ s, s < 4 + D k → fr1 s = Z.1.2 k s := by
      intro s hs
      have := hDs k hk
      rw [hfr1 s (by omega)]; exact A.2 k hk kZ s hs
    refine xa_need hG hM Y hkr hk rfl (Z90 k) hfr (fun nd => xb_1 ?_) (fun nd => xb_0 ?_)
    · refine xa_chg hG hM Y hkr hk rfl (Z90 k) hfr nd (fun fr2 hfr2 => ?_)
      have c90 := mn_cg90 (P := P) hG (show k < 40 by omega) (Z90 k) nd
      have st : mf_st g m P D k (T, gr) = some (mf_gb g P k (4 + md_th g (P k) (D k)) (mf_cg g P k (D k) (Z.1.2 k)) (mf_gj g m P k (4 + md_th g (P k) (D k)) (mf_cg g P k (D k) (Z.1.2 k)) Z)) := by
        unfold mf_st
        dsimp only
        rw [← eZ, if_pos nd, mf_jb]
      have beh : ∀ (W : mf_Z) (hf fd : Nat → Nat), W = mf_gj g m P k (4 + md_th g (P k) (D k)) (mf_cg g P k (D k) (Z.1.2 k)) Z → mf_A m D W.1 hf fd → mn_90 W.1 → (vp_in (nI (P k % 24)) 24 ∧ wpX_goesBehind (fun r => (r = 0 → post 1 ((nI (mc_cc g)), (nI (mc_hc g)), (nI m), f_tooMany, f_layAnswer, f_wrongKind, f_wrongKey, (mf_b W.2), (nI (md_th g (P k) (D k))), f_frameThere, f_lastReason, f_valueDepth, f_objectCount, f_hasRun, f_begun, f_nowAt, f_endClass, (ar (mc_p g)), (ar (mc_e g)), (ar (mc_o g)), (mc_r g), (ar (mc_f g)), (ar (mc_t g)), (ar (mc_g g)), (ar (mc_k g)), (ar kr), (ar D), a_cameWith, a_ledWith, a_faults, (ar fd), (ar hf), a_kept, a_hasMap, (ar fr2), a_kind, a_value, a_objectClass, a_objectReady)) ∧ (¬ r = 0 → wpX_giveFrame (fun u => match u with | (f_codeCount, f_coverCount, f_placeCount, f_tooMany, f_layAnswer, f_wrongKind, f_wrongKey, f_grown, f_frameDepth, f_frameThere, f_lastReason, f_valueDepth, f_objectCount, f_hasRun, f_begun, f_nowAt, f_endClass, a_parent, a_entry, a_code, a_operand, a_coverFrom, a_coverTo, a_coverTarget, a_coverClass, a_placeKey, a_placeDepth, a_cameWith, a_ledWith, a_faults, a_found, a_hasFound, a_kept, a_hasMap, a_frame, a_kind, a_value, a_objectClass, a_objectReady) => post 1 (f_codeCount, f_coverCount, f_placeCount, f_tooMany, f_layAnswer, f_wrongKind, f_wrongKey, f_grown, f_frameDepth, f_frameThere, f_lastReason, f_valueDepth, f_objectCount, f_hasRun, f_begun, f_nowAt, f_endClass, a_parent, a_entry, a_code, a_operand, a_coverFrom, a_coverTo, a_coverTarget, a_coverClass, a_placeKey, a_placeDepth, a_cameWith, a_ledWith, a_faults, a_found, a_hasFound, a_kept, a_hasMap, a_frame, a_kind, a_value, a_objectClass, a_objectReady)) ((nI (mc_cc g)), (nI (mc_hc g)), (nI m), f_tooMany, f_layAnswer, f_wrongKind, f_wrongKey, (mf_b W.2), (nI (md_th g (P k) (D k))), f_frameThere, f_lastReason, f_valueDepth, f_objectCount, f_hasRun, f_begun, f_nowAt, f_endClass, (ar (mc_p g)), (ar (mc_e g)), (ar (mc_o g)), (mc_r g), (ar (mc_f g)), (ar (mc_t g)), (ar (mc_g g)), (ar (mc_k g)), (ar kr), (ar D), a_cameWith, a_ledWith, a_faults, (ar fd), (ar hf), a_kept, a_hasMap, (ar fr2), a_kind, a_value, a_objectClass, a_objectReady) (nI k + 1))) (ar (mc_o g) (nI (P k % 24)).toNatClampNeg)) := by
        intro W hf fd eW A W90
        refine ⟨vp_in_nI (by omega) (by omega), ?_⟩
        rw [ar_at _ (by omega)]
        refine xa_gb (hG.2.2.1 _) (fun b => xb_1 ?_) (fun b => xb_0 ?_)
        · rw [nI_1]
          obtain ⟨hk1, _, eD⟩ := mg_b Y hk b
          refine xa_give hG hm hk1 hDs A W90 c90 (fun s hs => hfr2 s (by omega)) (fun hf' fd' A' => ?_)
          rw [← eW] at st
          unfold mf_gb at st
          rw [if_pos b] at st
          rw [eD] at A' ⊢
          exact H1 _ st hf' fd' fr2 _ A'
        · rw [← eW] at st
          unfold mf_gb at st
          rw [if_neg b] at st
          exact H1 _ st hf fd fr2 _ A
      refine xa_jk2 hG hM Y hk (fun q hq => ?_) (fun hq => ?_)
      · obtain ⟨j, hj, ej, eD⟩ := mg_j Y hk hq
        have ix : mf_ix P m q = j := by rw [← ej]; exact mf_ix_eq m j Y.2.1 hj
        refine xa_po2 hG hM Y hkr hj ej ?_
        refine xa_give hG hm hj hDs A Z90 c90 (fun s hs => hfr2 s (by omega)) (fun hf' fd' A' => ?_)
        have eW : (mf_gv g Z.1 j (4 + D j) (mf_cg g P k (D k) (Z.1.2 k)), Z.2 || mf_fl g Z.1 j (4 + D j) (mf_cg g P k (D k) (Z.1.2 k))) = mf_gj g m P k (4 + md_th g (P k) (D k)) (mf_cg g P k (D k) (Z.1.2 k)) Z := by
          unfold mf_gj mf_g1
          rw [hq]
          dsimp only
          rw [ix, eD]
        exact beh _ hf' fd' eW A' (by rw [eW]; unfold mf_gj; rw [hq]; exact mn_g90 hG.2.2.2.2.2.1 Z90 c90)
      · refine xa_po3 hG hM Y hkr ?_
        have eW : Z = mf_gj g m P k (4 + md_th g (P k) (D k)) (mf_cg g P k (D k) (Z.1.2 k)) Z := by
          unfold mf_gj; rw [hq]
        unfold wpX_giveFrame
        dsimp only
        exact xb_m (beh Z hf fd eW A Z90)
    · have st : mf_st g m P D k (T, gr) = none := by
        unfold mf_st
        dsimp only
        rw [← eZ, if_neg nd]
      exact H0 st hf fd fr1 _ _
  have L : ∀ e x, x + e = 4 → x ≤ mc_hc g → ∀ (Z : mf_Z) (hf fd fr : Nat → Nat) (dp : Int32), Z = mf_hs g m P k (T.2 k) x (T, gr) → mf_A m D Z.1 hf fd → (∀ s, s < 4 → fr s = T.2 k s) → wX_giveOn_24 post (nI k) (nI (md_kx (P k))) (nI (P k % 24)) (e + 1) (nI x) (nI (mc_cc g)) (nI (mc_hc g)) (nI m) f_tooMany f_layAnswer f_wrongKind f_wrongKey (mf_b Z.2) dp f_frameThere f_lastReason f_valueDepth f_objectCount f_hasRun f_begun f_nowAt f_endClass (ar (mc_p g)) (ar (mc_e g)) (ar (mc_o g)) (mc_r g) (ar (mc_f g)) (ar (mc_t g)) (ar (mc_g g)) (ar (mc_k g)) (ar kr) (ar D) a_cameWith a_ledWith a_faults (ar fd) (ar hf) a_kept a_hasMap (ar fr) a_kind a_value a_objectClass a_objectReady := by
    intro e
    induction e with
    | zero =>
      intro x hx hxc Z hf fd fr dp eZ A hfr
      have ex : x = mc_hc g := by omega
      subst ex
      exact pk_le 4 (mc_hc g) (fun _ => S93 Z hf fd fr dp eZ A) (fun c => by omega)
    | succ e ih =>
      intro x hx hxc Z hf fd fr dp eZ A hfr
      refine pk_le 4 x (fun c => by omega) (fun _ => pk_le (mc_hc g) x (fun c => ?_) (fun c => ?_))
      · have ex : x = mc_hc g := by omega
        subst ex
        exact S93 Z hf fd fr dp eZ A
      · refine xa_cov hG (by omega) (by omega) (fun cv => xb_1 ⟨vp_in_nI (by omega) (by omega), ?_⟩) (fun cv => xb_0 ?_)
        · have hb := hG.2.2.2.2.1 x
          have e3 : upd (ar fr) 4 (3 + ar (mc_k g) (nI x).toNatClampNeg) = ar (mf_up fr 4 (3 + mc_k g x)) := by
            rw [ar_at _ (by omega)]
            show upd (ar fr) 4 (nI 3 + nI (mc_k g x)) = _
            rw [nI_add, ar_up]
          refine nm_r e3 (xa_cgt hG (by omega) hpl ?_)
          obtain ⟨j, hj, ej, eD⟩ := mg_h Y hk c cv
          have ix : mf_ix P m (md_at (P k) (mc_g g x)) = j := by rw [← ej]; exact mf_ix_eq m j Y.2.1 hj
          have Z90 : mn_90 Z.1 := by rw [eZ]; exact mn_hs90 hG T90 (T90 k) _
          refine xa_po2 hG hM Y hkr hj ej ?_
          refine xa_give (f := mf_hf g (T.2 k) x) hG hm hj hDs A Z90 (mn_h90 hG (T90 k) x) (fun s hs => ?_) (fun hf' fd' A' => ?_)
          · unfold mf_hf
            by_cases q : s = 4
            · subst q; rw [up_s, up_s]
            · rw [up_n q, up_n q]; exact hfr s (by omega)
          · have eW : (mf_gv g Z.1 j (4 + D j) (mf_hf g (T.2 k) x), Z.2 || mf_fl g Z.1 j (4 + D j) (mf_hf g (T.2 k) x)) = mf_hs g m P k (T.2 k) (x + 1) (T, gr) := by
              show _ = if md_cv g x (P k) then mf_g1 g (mf_hs g m P k (T.2 k) x (T, gr)) (mf_ix P m (md_at (P k) (mc_g g x))) 5 (mf_hf g (T.2 k) x) else _
              rw [if_pos cv, ← eZ, ix, eD]; rfl
            refine nm_r (nI_1 x) (ih (x + 1) (by omega) (by omega) _ hf' fd' _ dp eW A' (fun s hs => ?_))
            rw [up_n (by omega)]; exact hfr s hs
        · have eW : Z = mf_hs g m P k (T.2 k) (x + 1) (T, gr) := by
            show _ = if md_cv g x (P k) then mf_g1 g (mf_hs g m P k (T.2 k) x (T, gr)) (mf_ix P m (md_at (P k) (mc_g g x))) 5 (mf_hf g (T.2 k) x) else _
            rw [if_neg cv]; exact eZ
          exact nm_r (nI_1 x) (ih (x + 1) (by omega) (by omega) Z hf fd fr dp eW A hfr)
  unfold wpX_giveOn
  dsimp only
  refine ⟨vp_in_nI (by omega) (by omega), nm_r (e' := nI (md_kx (P k))) (by rw [ar_at _ (by omega), hkr k hk]) (nm_r (e' := nI (P k % 24)) (by rw [xk_31 (md_kxlt _ hpl), xk_i]) ?_)⟩
  refine xa_loadF (by omega) (fun fr1 hfr1 => ⟨5, L 4 0 rfl (by omega) (T, gr) hf fd fr1 _ rfl A (fun s hs => ?_)⟩)
  rw [hfr1 s (by omega)]; exact A.2 k hk kn s (by omega)
theorem xa_round {post : Int32 → SX → Prop} {J32 : _} {T0 : mf_T} {x1 : Nat} (hG : md_G g) (hM : md_M g) (Y : ml_Y g m P D) (hkr : ∀ k, k < m → kr k = md_kx (P k)) (T90 : mn_90 T0) (H0 : mf_rd g m P D m (T0, false) = none → ∀ (hf' fd' fr' : Nat → Nat) (gr' : Bool) (dp : Int32), post 0 ((nI (mc_cc g)), (nI (mc_hc g)), (nI m), f_tooMany, f_layAnswer, f_wrongKind, f_wrongKey, (mf_b gr'), dp, f_frameThere, f_lastReason, f_valueDepth, f_objectCount, f_hasRun, f_begun, f_nowAt, f_endClass, (ar (mc_p g)), (ar (mc_e g)), (ar (mc_o g)), (mc_r g), (ar (mc_f g)), (ar (mc_t g)), (ar (mc_g g)), (ar (mc_k g)), (ar kr), (ar D), a_cameWith, a_ledWith, a_faults, (ar fd'), (ar hf'), a_kept, a_hasMap, (ar fr'), a_kind, a_value, a_objectClass, a_objectReady)) (H1 : ∀ y, mf_rd g m P D m (T0, false) = some y → ∀ (hf' fd' fr' : Nat → Nat) (dp : Int32), mf_A m D y.1 hf' fd' → J32 (nI (x1 + 1)) (nI (mc_cc g)) (nI (mc_hc g)) (nI m) f_tooMany f_layAnswer f_wrongKind f_wrongKey (mf_b y.2) dp f_frameThere f_lastReason f_valueDepth f_objectCount f_hasRun f_begun f_nowAt f_endClass (ar (mc_p g)) (ar (mc_e g)) (ar (mc_o g)) (mc_r g) (ar (mc_f g)) (ar (mc_t g)) (ar (mc_g g)) (ar (mc_k g)) (ar kr) (ar D) a_cameWith a_ledWith a_faults (ar fd') (ar hf') a_kept a_hasMap (ar fr') a_kind a_value a_objectClass a_objectReady) : ∀ e k, k + e = m → ∀ (Z : mf_Z) (hf fd fr : Nat → Nat) (dp : Int32), mf_rd g m P D k (T0, false) = some Z → mf_A m D Z.1 hf fd → wX_findTypes_52 post J32 (nI x1) (e + 1) (nI k) (nI (mc_cc g)) (nI (mc_hc g)) (nI m) f_tooMany f_layAnswer f_wrongKind f_wrongKey (mf_b Z.2) dp f_frameThere f_lastReason f_valueDepth f_objectCount f_hasRun f_begun f_nowAt f_endClass (ar (mc_p g)) (ar (mc_e g)) (ar (mc_o g)) (mc_r g) (ar (mc_f g)) (ar (mc_t g)) (ar (mc_g g)) (ar (mc_k g)) (ar kr) (ar D) a_cameWith a_ledWith a_faults (ar fd) (ar hf) a_kept a_hasMap (ar fr) a_kind a_value a_objectClass a_objectReady := by
  have hm := Y.1
  intro e
  induction e with
  | zero =>
    intro k hk Z hf fd fr dp eZ A
    have ek : k = m := by omega
    subst ek
    exact pk_le 40 k (fun _ => nm_r (nI_1 x1) (H1 Z eZ hf fd fr dp A)) (fun _ => pk_le k k (fun _ => nm_r (nI_1 x1) (H1 Z eZ hf fd fr dp A)) (fun c => by omega))
  | succ e ih =>
    intro k hk Z hf fd fr dp eZ A
    refine pk_le 40 k (fun c => by omega) (fun _ => pk_le m k (fun c => by omega) (fun _ => ⟨vp_in_nI (by omega) (by omega), ?_⟩))
    rw [ar_at _ (by omega), A.1 k (by omega)]
    have Z90 := mi_rd90 hG hm k _ Z (by omega) eZ T90
    cases kk : Z.1.1 k with
    | false =>
      refine xb_0 (nm_r (nI_1 k) (ih (k + 1) (by omega) Z hf fd fr dp ?_ A))
      simp only [mf_rd]; rw [eZ]; dsimp only; rw [kk]; simp
    | true =>
      refine xb_1 ?_
      have nx : mf_rd g m P D (k + 1) (T0, false) = mf_st g m P D k Z := by
        simp only [mf_rd]; rw [eZ]; dsimp only; rw [kk]; simp
      refine xa_giveOn (T := Z.1) (gr := Z.2) hG hM Y hkr (by omega) kk A Z90 (fun hn hf' fd' fr' gr' dp' => xb_0 (H0 ?_ hf' fd' fr' gr' dp')) (fun y hy hf' fd' fr' dp' A' => xb_1 (nm_r (nI_1 k) (ih (k + 1) (by omega) y hf' fd' fr' dp' (nx.trans hy) A')))
      have := mi_rdn (g := g) (m := m) (P := P) (D := D) e (k + 1) (T0, false) (nx.trans hn)
      rw [show k + 1 + e = m by omega] at this
      exact this
theorem xa_rounds {post : Int32 → SX → Prop} (hG : md_G g) (hM : md_M g) (Y : ml_Y g m P D) (hkr : ∀ k, k < m → kr k = md_kx (P k)) : ∀ n x1 (T : mf_T) (hf fd fr : Nat → Nat) (dp : Int32), mf_mu m T < n → x1 + mf_mu m T ≤ 5000 → mn_90 T → mf_A m D T hf fd → (mf_it g m P D n T = none → ∀ (hf' fd' fr' : Nat → Nat) (gr' : Bool) (dp : Int32), post 0 ((nI (mc_cc g)), (nI (mc_hc g)), (nI m), f_tooMany, f_layAnswer, f_wrongKind, f_wrongKey, (mf_b gr'), dp, f_frameThere, f_lastReason, f_valueDepth, f_objectCount, f_hasRun, f_begun, f_nowAt, f_endClass, (ar (mc_p g)), (ar (mc_e g)), (ar (mc_o g)), (mc_r g), (ar (mc_f g)), (ar (mc_t g)), (ar (mc_g g)), (ar (mc_k g)), (ar kr), (ar D), a_cameWith, a_ledWith, a_faults, (ar fd'), (ar hf'), a_kept, a_hasMap, (ar fr'), a_kind, a_value, a_objectClass, a_objectReady)) → (∀ T', mf_it g m P D n T = some T' → ∀ (hf' fd' fr' : Nat → Nat) (gr' : Bool) (dp : Int32), mf_A m D T' hf' fd' → post 1 ((nI (mc_cc g)), (nI (mc_hc g)), (nI m), f_tooMany, f_layAnswer, f_wrongKind, f_wrongKey, (mf_b gr'), dp, f_frameThere, f_lastReason, f_valueDepth, f_objectCount, f_hasRun, f_begun, f_nowAt, f_endClass, (ar (mc_p g)), (ar (mc_e g)), (ar (mc_o g)), (mc_r g), (ar (mc_f g)), (ar (mc_t g)), (ar (mc_g g)), (ar (mc_k g)), (ar kr), (ar D), a_cameWith, a_ledWith, a_faults, (ar fd'), (ar hf'), a_kept, a_hasMap, (ar fr'), a_kind, a_value, a_objectClass, a_objectReady)) → wX_findTypes_32 post (n + 1) (nI x1) (nI (mc_cc g)) (nI (mc_hc g)) (nI m) f_tooMany f_layAnswer f_wrongKind f_wrongKey 1 dp f_frameThere f_lastReason f_valueDepth f_objectCount f_hasRun f_begun f_nowAt f_endClass (ar (mc_p g)) (ar (mc_e g)) (ar (mc_o g)) (mc_r g) (ar (mc_f g)) (ar (mc_t g)) (ar (mc_g g)) (ar (mc_k g)) (ar kr) (ar D) a_cameWith a_ledWith a_faults (ar fd) (ar hf) a_kept a_hasMap (ar fr) a_kind a_value a_objectClass a_objectReady := by
  intro n
  induction n with
  | zero => intro x1 T hf fd fr dp h; omega
  | succ n ih =>
    intro x1 T hf fd fr dp hmu hx T90 A H0 H1
    refine pk_le 1000000 x1 (fun c => by omega) (fun _ => xb_1 ⟨m + 1, ?_⟩)
    refine xa_round hG hM Y hkr T90 (fun hn => ?_) (fun y hy hf' fd' fr' dp' A' => ?_) m 0 (by omega) (T, false) hf fd fr dp rfl A
    · refine H0 ?_
      simp only [mf_it]; rw [hn]
    · have Q := mg_Qrd hG.2.2.2.2.2.1 Y m _ y (Nat.le_refl _) hy
      have y90 := mi_rd90 hG Y.1 m _ y (Nat.le_refl _) hy T90
      have it : mf_it g m P D (n + 1) T = if y.2 = true then mf_it g m P D n y.1 else some y.1 := by
        simp only [mf_it]; rw [hy]
      cases fy : y.2 with
      | true =>
        rw [fy] at it
        rw [if_pos rfl] at it
        rcases Q.2 fy with z | z
        · cases z
        · have z' : mf_mu m y.1 < mf_mu m T := z
          exact ih (x1 + 1) y.1 hf' fd' fr' dp' (by omega) (by omega) y90 A' (fun h => H0 (it.trans h)) (fun T' h => H1 T' (it.trans h))
      | false =>
        rw [fy] at it
        rw [if_neg (by simp)] at it
        refine pk_le 1000000 (x1 + 1) (fun c => by omega) (fun _ => xb_0 ?_)
        exact H1 y.1 it hf' fd' fr' _ dp' A'
/-- the first frame -/
def mf_T0 (g : md_C) : mf_T := mf_gv g (fun _ => false, fun _ _ => 0) 0 4 (mc_e g)
theorem mf_T0_90 (hG : md_G g) : mn_90 (mf_T0 g) := by
  have := mn_g90 (z := ((fun _ => false, fun _ _ => 0), false)) (p := 0) (n := 4) hG.2.2.2.2.2.1 (fun p s => by show 0 ≤ 90; omega) (fun s => by have := hG.2.2.2.2.2.2 s; show mc_e g s ≤ 90; omega)
  exact this
theorem xa_bf {post : SX → Prop} {fr : Nat → Nat} (H : ∀ fr' : Nat → Nat, (∀ s, s < 4 → fr' s = mc_e g s) → post ((nI (mc_cc g)), (nI (mc_hc g)), f_placeCount, f_tooMany, f_layAnswer, f_wrongKind, f_wrongKey, f_grown, 0, 1, f_lastReason, f_valueDepth, f_objectCount, f_hasRun, f_begun, f_nowAt, f_endClass, (ar (mc_p g)), (ar (mc_e g)), (ar (mc_o g)), (mc_r g), (ar (mc_f g)), (ar (mc_t g)), (ar (mc_g g)), (ar (mc_k g)), a_placeKey, a_placeDepth, a_cameWith, a_ledWith, a_faults, a_found, a_hasFound, a_kept, a_hasMap, (ar fr'), a_kind, a_value, a_objectClass, a_objectReady)) : wpX_beginFrame post ((nI (mc_cc g)), (nI (mc_hc g)), f_placeCount, f_tooMany, f_layAnswer, f_wrongKind, f_wrongKey, f_grown, f_frameDepth, f_frameThere, f_lastReason, f_valueDepth, f_objectCount, f_hasRun, f_begun, f_nowAt, f_endClass, (ar (mc_p g)), (ar (mc_e g)), (ar (mc_o g)), (mc_r g), (ar (mc_f g)), (ar (mc_t g)), (ar (mc_g g)), (ar (mc_k g)), a_placeKey, a_placeDepth, a_cameWith, a_ledWith, a_faults, a_found, a_hasFound, a_kept, a_hasMap, (ar fr), a_kind, a_value, a_objectClass, a_objectReady) := by
  have L : ∀ e s, s + e = 4 → ∀ fr : Nat → Nat, (∀ t, t < s → fr t = mc_e g t) → wX_beginFrame_2 post (nI (mc_cc g)) (nI (mc_hc g)) f_placeCount f_tooMany f_layAnswer f_wrongKind f_wrongKey f_grown f_frameDepth f_frameThere f_lastReason f_valueDepth f_objectCount f_hasRun f_begun f_nowAt f_endClass (e + 1) (nI s) (ar (mc_p g)) (ar (mc_e g)) (ar (mc_o g)) (mc_r g) (ar (mc_f g)) (ar (mc_t g)) (ar (mc_g g)) (ar (mc_k g)) a_placeKey a_placeDepth a_cameWith a_ledWith a_faults a_found a_hasFound a_kept a_hasMap (ar fr) a_kind a_value a_objectClass a_objectReady := by
    intro e
    induction e with
    | zero =>
      intro s hs fr h
      exact pk_le 4 s (fun _ => H fr (fun t ht => h t (by omega))) (fun c => by omega)
    | succ e ih =>
      intro s hs fr h
      refine pk_le 4 s (fun c => by omega) (fun _ => ?_)
      rw [ar_at _ (by omega)]
      refine ⟨vp_in_nI (by omega) (by omega), vp_in_nI (by omega) (by omega), nm_r (ar_ui _ _ (by omega)) (nm_r (nI_1 s) (ih (s + 1) (by omega) _ (fun t ht => ?_)))⟩
      by_cases q : t = s
      · subst q; exact up_s
      · rw [up_n q]; exact h t (by omega)
  unfold wpX_beginFrame
  dsimp only
  exact ⟨5, L 4 0 rfl fr (fun t ht => by omega)⟩
theorem xa_find {post : Int32 → SX → Prop} {hf fd fr : Nat → Nat} {gr : Bool} (hG : md_G g) (hM : md_M g) (Y : ml_Y g m P D) (hkr : ∀ k, k < m → kr k = md_kx (P k)) (H0 : mf_it g m P D 4000 (mf_T0 g) = none → ∀ (hf' fd' fr' : Nat → Nat) (gr' : Bool) (dp th : Int32), post 0 ((nI (mc_cc g)), (nI (mc_hc g)), (nI m), f_tooMany, f_layAnswer, f_wrongKind, f_wrongKey, (mf_b gr'), dp, th, f_lastReason, f_valueDepth, f_objectCount, f_hasRun, f_begun, f_nowAt, f_endClass, (ar (mc_p g)), (ar (mc_e g)), (ar (mc_o g)), (mc_r g), (ar (mc_f g)), (ar (mc_t g)), (ar (mc_g g)), (ar (mc_k g)), (ar kr), (ar D), a_cameWith, a_ledWith, a_faults, (ar fd'), (ar hf'), a_kept, a_hasMap, (ar fr'), a_kind, a_value, a_objectClass, a_objectReady)) (H1 : ∀ T', mf_it g m P D 4000 (mf_T0 g) = some T' → ∀ (hf' fd' fr' : Nat → Nat) (gr' : Bool) (dp th : Int32), mf_A m D T' hf' fd' → post 1 ((nI (mc_cc g)), (nI (mc_hc g)), (nI m), f_tooMany, f_layAnswer, f_wrongKind, f_wrongKey, (mf_b gr'), dp, th, f_lastReason, f_valueDepth, f_objectCount, f_hasRun, f_begun, f_nowAt, f_endClass, (ar (mc_p g)), (ar (mc_e g)), (ar (mc_o g)), (mc_r g), (ar (mc_f g)), (ar (mc_t g)), (ar (mc_g g)), (ar (mc_k g)), (ar kr), (ar D), a_cameWith, a_ledWith, a_faults, (ar fd'), (ar hf'), a_kept, a_hasMap, (ar fr'), a_kind, a_value, a_objectClass, a_objectReady)) : wpX_findTypes post ((nI (mc_cc g)), (nI (mc_hc g)), (nI m), f_tooMany, f_layAnswer, f_wrongKind, f_wrongKey, (mf_b gr), f_frameDepth, f_frameThere, f_lastReason, f_valueDepth, f_objectCount, f_hasRun, f_begun, f_nowAt, f_endClass, (ar (mc_p g)), (ar (mc_e g)), (ar (mc_o g)), (mc_r g), (ar (mc_f g)), (ar (mc_t g)), (ar (mc_g g)), (ar (mc_k g)), (ar kr), (ar D), a_cameWith, a_ledWith, a_faults, (ar fd), (ar hf), a_kept, a_hasMap, (ar fr), a_kind, a_value, a_objectClass, a_objectReady) := by
  have hm := Y.1
  obtain ⟨m0, P0, D0⟩ := mg_0 Y
  have L : ∀ e k, k + e = 40 → ∀ hf : Nat → Nat, (∀ t, t < k → hf t = 0) → wX_findTypes_2 post (nI (mc_cc g)) (nI (mc_hc g)) (nI m) f_tooMany f_layAnswer f_wrongKind f_wrongKey (mf_b gr) f_frameDepth f_frameThere f_lastReason f_valueDepth f_objectCount f_hasRun f_begun f_nowAt f_endClass (e + 1) (nI k) (ar (mc_p g)) (ar (mc_e g)) (ar (mc_o g)) (mc_r g) (ar (mc_f g)) (ar (mc_t g)) (ar (mc_g g)) (ar (mc_k g)) (ar kr) (ar D) a_cameWith a_ledWith a_faults (ar fd) (ar hf) a_kept a_hasMap (ar fr) a_kind a_value a_objectClass a_objectReady := by
    intro e
    induction e with
    | zero =>
      intro k hk hf h
      refine pk_le 40 k (fun _ => ?_) (fun c => by omega)
      refine xa_bf (fun fr1 hfr1 => ?_)
      have hDs : ∀ q, q < m → D q ≤ 6 := fun q hq => mg_D hG hM Y hq
      refine xa_give (p := 0) (T := (fun _ => false, fun _ _ => 0)) (f := mc_e g) hG hm m0 hDs ⟨fun q hq => h q (by omega), fun q _ z => (by cases z)⟩ (fun p s => by show 0 ≤ 90; omega) (fun s => by have := hG.2.2.2.2.2.2 s; omega) (fun s hs => hfr1 s (by omega)) (fun hf' fd' A' => ⟨4001, ?_⟩)
      have ef : (gr || mf_fl g (fun _ => false, fun _ _ => 0) 0 (4 + D 0) (mc_e g)) = true := by unfold mf_fl; simp
      have eT : mf_gv g (fun _ => false, fun _ _ => 0) 0 (4 + D 0) (mc_e g) = mf_T0 g := by rw [D0]; rfl
      rw [ef]
      rw [eT] at A'
      have mub := mf_mu_b m (mf_T0 g) hm
      exact xa_rounds hG hM Y hkr 4000 0 (mf_T0 g) hf' fd' fr1 _ (by omega) (by omega) (mf_T0_90 hG) A' (fun hn hf2 fd2 fr2 gr2 dp2 => H0 hn hf2 fd2 fr2 gr2 dp2 _) (fun T' hT hf2 fd2 fr2 gr2 dp2 A2 => H1 T' hT hf2 fd2 fr2 gr2 dp2 _ A2)
    | succ e ih =>
      intro k hk hf h
      refine pk_le 40 k (fun c => by omega) (fun _ => ⟨vp_in_nI (by omega) (by omega), nm_r (e' := ar (mf_up hf k 0)) (by rw [mi_n0]; exact ar_ui hf 0 (by omega)) (nm_r (nI_1 k) (ih (k + 1) (by omega) _ (fun t ht => ?_)))⟩)
      by_cases q : t = k
      · subst q; exact up_s
      · rw [up_n q]; exact h t (by omega)
  unfold wpX_findTypes
  dsimp only
  exact ⟨41, L 40 0 rfl hf (fun t ht => by omega)⟩
end
end
section
/-! ===== the class: maps, and the whole of lay ===== -/
section
variable {f_codeCount f_coverCount f_placeCount f_tooMany f_layAnswer f_wrongKind f_wrongKey f_grown f_frameDepth f_frameThere f_lastReason f_valueDepth f_objectCount f_hasRun f_begun f_nowAt f_endClass : Int32} {a_parent a_entry a_code a_operand a_coverFrom a_coverTo a_coverTarget a_coverClass a_placeKey a_placeDepth a_cameWith a_ledWith a_faults a_found a_hasFound a_kept a_hasMap a_frame a_kind a_value a_objectClass a_objectReady : Nat → Int32}
variable {g : md_C} {m : Nat} {P D kr : Nat → Nat}
def mm_is (m : Nat) (Q : Nat → Prop) (hm : Nat → Nat) : Prop := ∀ k, k < m → (hm k = 1 ∧ Q k) ∨ (hm k = 0 ∧ ¬ Q k)
theorem mm_iff {m : Nat} {Q Q' : Nat → Prop} {hm : Nat → Nat} (h : mm_is m Q hm) (e : ∀ k, k < m → (Q k ↔ Q' k)) : mm_is m Q' hm := by
  intro k hk
  rcases h k hk with ⟨a, b⟩ | ⟨a, b⟩
  · exact Or.inl ⟨a, (e k hk).mp b⟩
  · exact Or.inr ⟨a, fun z => b ((e k hk).mpr z)⟩
theorem mm_set {m : Nat} {Q : Nat → Prop} {hm P : Nat → Nat} (inc : ml_inc m P) {j q : Nat} (hj : j < m) (ej : P j = q) (h : mm_is m Q hm) : mm_is m (fun k => Q k ∨ P k = q) (mf_up hm j 1) := by
  intro k hk
  by_cases e : k = j
  · subst e; left; rw [up_s]; exact ⟨rfl, Or.inr ej⟩
  · rw [up_n e]
    rcases h k hk with ⟨a, b⟩ | ⟨a, b⟩
    · exact Or.inl ⟨a, Or.inl b⟩
    · refine Or.inr ⟨a, ?_⟩
      rintro (z | z)
      · exact b z
      · exact e (ml_inj inc _ _ hk hj (z.trans ej.symm))
theorem xa_mark {post : SX → Prop} {hm : Nat → Nat} {Q : Nat → Prop} {q j : Nat} (hG : md_G g) (hM : md_M g) (Y : ml_Y g m P D) (hkr : ∀ k, k < m → kr k = md_kx (P k)) (hj : j < m) (ej : P j = q) (h : mm_is m Q hm) (H : ∀ hm', mm_is m (fun k => Q k ∨ P k = q) hm' → post (f_codeCount, f_coverCount, (nI m), f_tooMany, f_layAnswer, f_wrongKind, f_wrongKey, f_grown, f_frameDepth, f_frameThere, f_lastReason, f_valueDepth, f_objectCount, f_hasRun, f_begun, f_nowAt, f_endClass, a_parent, a_entry, a_code, a_operand, a_coverFrom, a_coverTo, a_coverTarget, a_coverClass, (ar kr), a_placeDepth, a_cameWith, a_ledWith, a_faults, a_found, a_hasFound, a_kept, (ar hm'), a_frame, a_kind, a_value, a_objectClass, a_objectReady)) : wpX_markMap post (f_codeCount, f_coverCount, (nI m), f_tooMany, f_layAnswer, f_wrongKind, f_wrongKey, f_grown, f_frameDepth, f_frameThere, f_lastReason, f_valueDepth, f_objectCount, f_hasRun, f_begun, f_nowAt, f_endClass, a_parent, a_entry, a_code, a_operand, a_coverFrom, a_coverTo, a_coverTarget, a_coverClass, (ar kr), a_placeDepth, a_cameWith, a_ledWith, a_faults, a_found, a_hasFound, a_kept, (ar hm), a_frame, a_kind, a_value, a_objectClass, a_objectReady) (nI (md_kx q)) := by
  have hm40 := Y.1
  unfold wpX_markMap
  dsimp only
  refine xa_po2 hG hM Y hkr hj ej (xb_n (by omega) ⟨vp_in_nI (by omega) (by omega), nm_r (e' := ar (mf_up hm j 1)) (by rw [mi_n1]; exact ar_ui hm 1 (by omega)) (H _ (mm_set Y.2.1 hj ej h))⟩)
theorem xa_mark0 {post : SX → Prop} (hG : md_G g) (hM : md_M g) (Y : ml_Y g m P D) (hkr : ∀ k, k < m → kr k = md_kx (P k)) (H : post (f_codeCount, f_coverCount, (nI m), f_tooMany, f_layAnswer, f_wrongKind, f_wrongKey, f_grown, f_frameDepth, f_frameThere, f_lastReason, f_valueDepth, f_objectCount, f_hasRun, f_begun, f_nowAt, f_endClass, a_parent, a_entry, a_code, a_operand, a_coverFrom, a_coverTo, a_coverTarget, a_coverClass, (ar kr), a_placeDepth, a_cameWith, a_ledWith, a_faults, a_found, a_hasFound, a_kept, a_hasMap, a_frame, a_kind, a_value, a_objectClass, a_objectReady)) : wpX_markMap post (f_codeCount, f_coverCount, (nI m), f_tooMany, f_layAnswer, f_wrongKind, f_wrongKey, f_grown, f_frameDepth, f_frameThere, f_lastReason, f_valueDepth, f_objectCount, f_hasRun, f_begun, f_nowAt, f_endClass, a_parent, a_entry, a_code, a_operand, a_coverFrom, a_coverTo, a_coverTarget, a_coverClass, (ar kr), a_placeDepth, a_cameWith, a_ledWith, a_faults, a_found, a_hasFound, a_kept, a_hasMap, a_frame, a_kind, a_value, a_objectClass, a_objectReady) (-1) := by
  unfold wpX_markMap
  dsimp only
  exact xa_po3 hG hM Y hkr (xb_m H)
theorem xa_marks {post : SX → Prop} {hm : Nat → Nat} (hG : md_G g) (hM : md_M g) (Y : ml_Y g m P D) (hkr : ∀ k, k < m → kr k = md_kx (P k)) (H : ∀ hm', mm_is m (fun k => ∃ j, j < m ∧ mg_hit g P j k) hm' → post ((nI (mc_cc g)), (nI (mc_hc g)), (nI m), f_tooMany, f_layAnswer, f_wrongKind, f_wrongKey, f_grown, f_frameDepth, f_frameThere, f_lastReason, f_valueDepth, f_objectCount, f_hasRun, f_begun, f_nowAt, f_endClass, (ar (mc_p g)), (ar (mc_e g)), (ar (mc_o g)), (mc_r g), (ar (mc_f g)), (ar (mc_t g)), (ar (mc_g g)), (ar (mc_k g)), (ar kr), a_placeDepth, a_cameWith, a_ledWith, a_faults, a_found, a_hasFound, a_kept, (ar hm'), a_frame, a_kind, a_value, a_objectClass, a_objectReady)) : wpX_markMaps post ((nI (mc_cc g)), (nI (mc_hc g)), (nI m), f_tooMany, f_layAnswer, f_wrongKind, f_wrongKey, f_grown, f_frameDepth, f_frameThere, f_lastReason, f_valueDepth, f_objectCount, f_hasRun, f_begun, f_nowAt, f_endClass, (ar (mc_p g)), (ar (mc_e g)), (ar (mc_o g)), (mc_r g), (ar (mc_f g)), (ar (mc_t g)), (ar (mc_g g)), (ar (mc_k g)), (ar kr), a_placeDepth, a_cameWith, a_ledWith, a_faults, a_found, a_hasFound, a_kept, (ar hm), a_frame, a_kind, a_value, a_objectClass, a_objectReady) := by
  have hm40 := Y.1
  have hcc := hG.1
  have hhc := hG.2.1
  have B : ∀ e n, n + e = m → ∀ hm, mm_is m (fun k => ∃ j, j < n ∧ mg_hit g P j k) hm → wX_markMaps_23 post (e + 1) (nI n) (nI (mc_cc g)) (nI (mc_hc g)) (nI m) f_tooMany f_layAnswer f_wrongKind f_wrongKey f_grown f_frameDepth f_frameThere f_lastReason f_valueDepth f_objectCount f_hasRun f_begun f_nowAt f_endClass (ar (mc_p g)) (ar (mc_e g)) (ar (mc_o g)) (mc_r g) (ar (mc_f g)) (ar (mc_t g)) (ar (mc_g g)) (ar (mc_k g)) (ar kr) a_placeDepth a_cameWith a_ledWith a_faults a_found a_hasFound a_kept (ar hm) a_frame a_kind a_value a_objectClass a_objectReady := by
    intro e
    induction e with
    | zero =>
      intro n hn hm h
      have en : n = m := by omega
      subst en
      exact pk_le 40 n (fun _ => H hm h) (fun _ => pk_le n n (fun _ => H hm h) (fun c => by omega))
    | succ e ih =>
      intro n hn hm h
      have hnm : n < m := by omega
      have v := mg_V hG hM Y hnm
      have hpl := md_Vlt hcc v
      have hi := md_Vi hcc v
      have C : ∀ d x, x + d = 4 → x ≤ mc_hc g → ∀ hm, mm_is m (fun k => (∃ j, j < n ∧ mg_hit g P j k) ∨ md_L g (P n) = some (P k) ∨ ∃ y, y < x ∧ md_cv g y (P n) ∧ md_at (P n) (mc_g g y) = P k) hm → wX_markMaps_58 post (wX_markMaps_23 post (e + 1)) (nI n) (nI (md_kx (P n))) (d + 1) (nI x) (nI (mc_cc g)) (nI (mc_hc g)) (nI m) f_tooMany f_layAnswer f_wrongKind f_wrongKey f_grown f_frameDepth f_frameThere f_lastReason f_valueDepth f_objectCount f_hasRun f_begun f_nowAt f_endClass (ar (mc_p g)) (ar (mc_e g)) (ar (mc_o g)) (mc_r g) (ar (mc_f g)) (ar (mc_t g)) (ar (mc_g g)) (ar (mc_k g)) (ar kr) a_placeDepth a_cameWith a_ledWith a_faults a_found a_hasFound a_kept (ar hm) a_frame a_kind a_value a_objectClass a_objectReady := by
        have done : ∀ hm, mm_is m (fun k => (∃ j, j < n ∧ mg_hit g P j k) ∨ md_L g (P n) = some (P k) ∨ ∃ y, y < mc_hc g ∧ md_cv g y (P n) ∧ md_at (P n) (mc_g g y) = P k) hm → wX_markMaps_23 post (e + 1) (nI (n + 1)) (nI (mc_cc g)) (nI (mc_hc g)) (nI m) f_tooMany f_layAnswer f_wrongKind f_wrongKey f_grown f_frameDepth f_frameThere f_lastReason f_valueDepth f_objectCount f_hasRun f_begun f_nowAt f_endClass (ar (mc_p g)) (ar (mc_e g)) (ar (mc_o g)) (mc_r g) (ar (mc_f g)) (ar (mc_t g)) (ar (mc_g g)) (ar (mc_k g)) (ar kr) a_placeDepth a_cameWith a_ledWith a_faults a_found a_hasFound a_kept (ar hm) a_frame a_kind a_value a_objectClass a_objectReady := by
          intro hm h
          refine ih (n + 1) (by omega) hm (mm_iff h (fun k hk => ?_))
          constructor
          · rintro (⟨j, hj, z⟩ | z)
            · exact ⟨j, by omega, z⟩
            · exact ⟨n, by omega, z⟩
          · rintro ⟨j, hj, z⟩
            by_cases q : j = n
            · subst q; exact Or.inr z
            · exact Or.inl ⟨j, by omega, z⟩
        intro d
        induction d with
        | zero =>
          intro x hx hxc hm h
          have ex : x = mc_hc g := by omega
          subst ex
          exact pk_le 4 (mc_hc g) (fun _ => nm_r (nI_1 n) (done hm h)) (fun c => by omega)
        | succ d ihd =>
          intro x hx hxc hm h
          refine pk_le 4 x (fun c => by omega) (fun _ => pk_le (mc_hc g) x (fun c => ?_) (fun c => ?_))
          · have ex : x = mc_hc g := by omega
            subst ex
            exact nm_r (nI_1 n) (done hm h)
          · rw [xk_31 (md_kxlt _ hpl), xk_i]
            refine xa_cov hG (by omega) (by omega) (fun cv => xb_1 ?_) (fun cv => xb_0 ?_)
            · refine xa_cgt hG (by omega) hpl ?_
              obtain ⟨j, hj, ej, _⟩ := mg_h Y hnm c cv
              refine xa_mark hG hM Y hkr hj ej h (fun hm' h' => nm_r (nI_1 x) (ihd (x + 1) (by omega) (by omega) hm' (mm_iff h' (fun k hk => ?_))))
              constructor
              · rintro ((z | z | ⟨y, z1, z2⟩) | z)
                · exact Or.inl z
                · exact Or.inr (Or.inl z)
                · exact Or.inr (Or.inr ⟨y, by omega, z2⟩)
                · exact Or.inr (Or.inr ⟨x, by omega, cv, z.symm⟩)
              · rintro (z | z | ⟨y, z1, z2, z3⟩)
                · exact Or.inl (Or.inl z)
                · exact Or.inl (Or.inr (Or.inl z))
                · by_cases q : y = x
                  · subst q; exact Or.inr z3.symm
                  · exact Or.inl (Or.inr (Or.inr ⟨y, by omega, z2, z3⟩))
            · refine nm_r (nI_1 x) (ihd (x + 1) (by omega) (by omega) hm (mm_iff h (fun k hk => ?_)))
              constructor
              · rintro (z | z | ⟨y, z1, z2⟩)
                · exact Or.inl z
                · exact Or.inr (Or.inl z)
                · exact Or.inr (Or.inr ⟨y, by omega, z2⟩)
              · rintro (z | z | ⟨y, z1, z2, z3⟩)
                · exact Or.inl z
                · exact Or.inr (Or.inl z)
                · by_cases q : y = x
                  · subst q; exact absurd z2 cv
                  · exact Or.inr (Or.inr ⟨y, by omega, z2, z3⟩)
      refine pk_le 40 n (fun c => by omega) (fun _ => pk_le m n (fun c => by omega) (fun _ => ⟨vp_in_nI (by omega) (by omega), nm_r (e' := nI (md_kx (P n))) (by rw [ar_at _ (by omega), hkr n hnm]) ?_⟩))
      refine xa_jk2 hG hM Y hnm (fun q hq => ?_) (fun hq => ?_)
      · obtain ⟨j, hj, ej, _⟩ := mg_j Y hnm hq
        refine xa_mark hG hM Y hkr hj ej h (fun hm' h' => ⟨5, C 4 0 rfl (by omega) hm' (mm_iff h' (fun k hk => ?_))⟩)
        constructor
        · rintro (z | z)
          · exact Or.inl z
          · exact Or.inr (Or.inl (by rw [hq, z]))
        · rintro (z | z | ⟨y, z1, _⟩)
          · exact Or.inl z
          · rw [hq] at z; cases z; exact Or.inr rfl
          · omega
      · refine xa_mark0 hG hM Y hkr ⟨5, C 4 0 rfl (by omega) hm (mm_iff h (fun k hk => ?_))⟩
        constructor
        · intro z; exact Or.inl z
        · rintro (z | z | ⟨y, z1, _⟩)
          · exact z
          · rw [hq] at z; cases z
          · omega
  have A : ∀ e n, n + e = 40 → ∀ hm : Nat → Nat, (∀ t, t < n → hm t = 0) → wX_markMaps_2 post (nI (mc_cc g)) (nI (mc_hc g)) (nI m) f_tooMany f_layAnswer f_wrongKind f_wrongKey f_grown f_frameDepth f_frameThere f_lastReason f_valueDepth f_objectCount f_hasRun f_begun f_nowAt f_endClass (e + 1) (nI n) (ar (mc_p g)) (ar (mc_e g)) (ar (mc_o g)) (mc_r g) (ar (mc_f g)) (ar (mc_t g)) (ar (mc_g g)) (ar (mc_k g)) (ar kr) a_placeDepth a_cameWith a_ledWith a_faults a_found a_hasFound a_kept (ar hm) a_frame a_kind a_value a_objectClass a_objectReady := by
    intro e
    induction e with
    | zero =>
      intro n hn hm h
      refine pk_le 40 n (fun _ => ⟨m + 1, B m 0 (by omega) hm (fun k hk => Or.inr ⟨h k (by omega), ?_⟩)⟩) (fun c => by omega)
      rintro ⟨j, hj, _⟩; omega
    | succ e ih =>
      intro n hn hm h
      refine pk_le 40 n (fun c => by omega) (fun _ => ⟨vp_in_nI (by omega) (by omega), nm_r (e' := ar (mf_up hm n 0)) (by rw [mi_n0]; exact ar_ui hm 0 (by omega)) (nm_r (nI_1 n) (ih (n + 1) (by omega) _ (fun t ht => ?_)))⟩)
      by_cases q : t = n
      · subst q; exact up_s
      · rw [up_n q]; exact h t (by omega)
  unfold wpX_markMaps
  dsimp only
  exact ⟨41, A 40 0 rfl hm (fun t ht => by omega)⟩
theorem xa_fill {post : SX → Prop} {la : Int32} {fd kp : Nat → Nat} (H : ∀ kp' : Nat → Nat, (la = 0 → ∀ i, i < 400 → kp' i = fd i) → (¬ la = 0 → ∀ i, i < 400 → kp' i = 0) → post (f_codeCount, f_coverCount, f_placeCount, f_tooMany, la, f_wrongKind, f_wrongKey, f_grown, f_frameDepth, f_frameThere, f_lastReason, f_valueDepth, f_objectCount, f_hasRun, f_begun, f_nowAt, f_endClass, a_parent, a_entry, a_code, a_operand, a_coverFrom, a_coverTo, a_coverTarget, a_coverClass, a_placeKey, a_placeDepth, a_cameWith, a_ledWith, a_faults, (ar fd), a_hasFound, (ar kp'), a_hasMap, a_frame, a_kind, a_value, a_objectClass, a_objectReady)) : wpX_fillMaps post (f_codeCount, f_coverCount, f_placeCount, f_tooMany, la, f_wrongKind, f_wrongKey, f_grown, f_frameDepth, f_frameThere, f_lastReason, f_valueDepth, f_objectCount, f_hasRun, f_begun, f_nowAt, f_endClass, a_parent, a_entry, a_code, a_operand, a_coverFrom, a_coverTo, a_coverTarget, a_coverClass, a_placeKey, a_placeDepth, a_cameWith, a_ledWith, a_faults, (ar fd), a_hasFound, (ar kp), a_hasMap, a_frame, a_kind, a_value, a_objectClass, a_objectReady) := by
  have L : ∀ e i, i + e = 400 → ∀ kp : Nat → Nat, (la = 0 → ∀ t, t < i → kp t = fd t) → (¬ la = 0 → ∀ t, t < i → kp t = 0) → wX_fillMaps_2 post f_codeCount f_coverCount f_placeCount f_tooMany la f_wrongKind f_wrongKey f_grown f_frameDepth f_frameThere f_lastReason f_valueDepth f_objectCount f_hasRun f_begun f_nowAt f_endClass (e + 1) (nI i) a_parent a_entry a_code a_operand a_coverFrom a_coverTo a_coverTarget a_coverClass a_placeKey a_placeDepth a_cameWith a_ledWith a_faults (ar fd) a_hasFound (ar kp) a_hasMap a_frame a_kind a_value a_objectClass a_objectReady := by
    intro e
    induction e with
    | zero =>
      intro i hi kp h1 h2
      have ei : i = 400 := by omega
      subst ei
      exact pk_le 400 400 (fun _ => H kp h1 h2) (fun c => by omega)
    | succ e ih =>
      intro i hi kp h1 h2
      refine pk_le 400 i (fun c => by omega) (fun _ => br_c (fun z => ?_) (fun z => ?_))
      · rw [ar_at _ (by omega)]
        refine ⟨vp_in_nI (by omega) (by omega), vp_in_nI (by omega) (by omega), nm_r (ar_ui _ _ (by omega)) (nm_r (nI_1 i) (ih (i + 1) (by omega) _ (fun _ t ht => ?_) (fun n => absurd z n)))⟩
        by_cases q : t = i
        · subst q; exact up_s
        · rw [up_n q]; exact h1 z t (by omega)
      · refine ⟨vp_in_nI (by omega) (by omega), nm_r (ar_ui kp 0 (by omega)) (nm_r (nI_1 i) (ih (i + 1) (by omega) _ (fun n => absurd n z) (fun _ t ht => ?_)))⟩
        by_cases q : t = i
        · subst q; exact up_s
        · rw [up_n q]; exact h2 z t (by omega)
  unfold wpX_fillMaps
  dsimp only
  exact ⟨401, L 400 0 rfl kp (fun _ t ht => by omega) (fun _ t ht => by omega)⟩
/-- the inverse of the class's keys -/
def md_yx (k : Nat) : Nat := md_y (k / 1048576) (k / 32768 % 32) (k / 1024 % 32) (k / 32 % 32) (k % 32)
theorem md_yxk (p : Nat) : md_yx (md_kx p) = p := by
  unfold md_yx
  rw [show md_kx p / 1048576 = p / 331776 from xk_n p, show md_kx p / 32768 % 32 = p / 13824 % 24 from xx_a (mo_24 _) (mo_24 _) (mo_24 _) (mo_24 _), show md_kx p / 1024 % 32 = p / 576 % 24 from xx_b (mo_24 _) (mo_24 _) (mo_24 _), show md_kx p / 32 % 32 = p / 24 % 24 from xx_c (mo_24 _) (mo_24 _), xk_i]
  unfold md_y
  have h0 := Nat.div_add_mod p 24
  have h1 := Nat.div_add_mod (p / 24) 24
  have h2 := Nat.div_add_mod (p / 24 / 24) 24
  have h3 := Nat.div_add_mod (p / 24 / 24 / 24) 24
  rw [md_d4] at h3
  rw [md_d3] at h3 h2
  rw [md_d2] at h2 h1
  omega
end
end
section
/-! ===== the class: lay ===== -/
section
variable {f_codeCount f_coverCount f_placeCount f_tooMany f_layAnswer f_wrongKind f_wrongKey f_grown f_frameDepth f_frameThere f_lastReason f_valueDepth f_objectCount f_hasRun f_begun f_nowAt f_endClass : Int32} {a_parent a_entry a_code a_operand a_coverFrom a_coverTo a_coverTarget a_coverClass a_placeKey a_placeDepth a_cameWith a_ledWith a_faults a_found a_hasFound a_kept a_hasMap a_frame a_kind a_value a_objectClass a_objectReady : Nat → Int32}
variable {g : md_C}
theorem xl_lay {post : Int32 → SX → Prop} {gr : Bool} {kr D w l f fd hf kp hm fr : Nat → Nat} (hG : md_G g)
  (Hbad : ¬ md_M g → post (-1) ((nI (mc_cc g)), (nI (mc_hc g)), 0, f_tooMany, (-1), 0, (-1), (mf_b gr), f_frameDepth, f_frameThere, 0, f_valueDepth, f_objectCount, f_hasRun, f_begun, f_nowAt, f_endClass, (ar (mc_p g)), (ar (mc_e g)), (ar (mc_o g)), (mc_r g), (ar (mc_f g)), (ar (mc_t g)), (ar (mc_g g)), (ar (mc_k g)), (ar kr), (ar D), (ar w), (ar l), (ar f), (ar fd), (ar hf), (ar kp), (ar hm), (ar fr), a_kind, a_value, a_objectClass, a_objectReady))
  (Hmany : md_M g → ml_Many g → ∀ (tm : Int32) (kr D w l f : Nat → Nat), post 1 ((nI (mc_cc g)), (nI (mc_hc g)), 0, tm, 1, 7, (-1), (mf_b gr), f_frameDepth, f_frameThere, 0, f_valueDepth, f_objectCount, f_hasRun, f_begun, f_nowAt, f_endClass, (ar (mc_p g)), (ar (mc_e g)), (ar (mc_o g)), (mc_r g), (ar (mc_f g)), (ar (mc_t g)), (ar (mc_g g)), (ar (mc_k g)), (ar kr), (ar D), (ar w), (ar l), (ar f), (ar fd), (ar hf), (ar kp), (ar hm), (ar fr), a_kind, a_value, a_objectClass, a_objectReady))
  (Hwrong : md_M g → ¬ ml_Many g → ∀ p n, ml_F g p n → md_V g p → ∀ (tm : Int32) (kr D w l f : Nat → Nat), post 1 ((nI (mc_cc g)), (nI (mc_hc g)), 0, tm, 1, (nI n), (nI (md_kx p)), (mf_b gr), f_frameDepth, f_frameThere, 0, f_valueDepth, f_objectCount, f_hasRun, f_begun, f_nowAt, f_endClass, (ar (mc_p g)), (ar (mc_e g)), (ar (mc_o g)), (mc_r g), (ar (mc_f g)), (ar (mc_t g)), (ar (mc_g g)), (ar (mc_k g)), (ar kr), (ar D), (ar w), (ar l), (ar f), (ar fd), (ar hf), (ar kp), (ar hm), (ar fr), a_kind, a_value, a_objectClass, a_objectReady))
  (Hok : md_M g → ¬ ml_Many g → (∀ p n, ¬ ml_B g p n) → ∀ (m : Nat) (P D kr : Nat → Nat), ml_Y g m P D → (∀ k, k < m → kr k = md_kx (P k)) → ∀ hm : Nat → Nat, mm_is m (fun k => ∃ j, j < m ∧ mg_hit g P j k) hm → ∀ (tm dp th : Int32) (gr' : Bool) (w l f fd hf kp fr : Nat → Nat), (mf_it g m P D 4000 (mf_T0 g) = none → (∀ i, i < 400 → kp i = 0) → post 2 ((nI (mc_cc g)), (nI (mc_hc g)), (nI m), tm, 2, 0, (-1), (mf_b gr'), dp, th, 0, f_valueDepth, f_objectCount, f_hasRun, f_begun, f_nowAt, f_endClass, (ar (mc_p g)), (ar (mc_e g)), (ar (mc_o g)), (mc_r g), (ar (mc_f g)), (ar (mc_t g)), (ar (mc_g g)), (ar (mc_k g)), (ar kr), (ar D), (ar w), (ar l), (ar f), (ar fd), (ar hf), (ar kp), (ar hm), (ar fr), a_kind, a_value, a_objectClass, a_objectReady)) ∧ (∀ T', mf_it g m P D 4000 (mf_T0 g) = some T' → mf_A m D T' hf fd → (∀ i, i < 400 → kp i = fd i) → post 0 ((nI (mc_cc g)), (nI (mc_hc g)), (nI m), tm, 0, 0, (-1), (mf_b gr'), dp, th, 0, f_valueDepth, f_objectCount, f_hasRun, f_begun, f_nowAt, f_endClass, (ar (mc_p g)), (ar (mc_e g)), (ar (mc_o g)), (mc_r g), (ar (mc_f g)), (ar (mc_t g)), (ar (mc_g g)), (ar (mc_k g)), (ar kr), (ar D), (ar w), (ar l), (ar f), (ar fd), (ar hf), (ar kp), (ar hm), (ar fr), a_kind, a_value, a_objectClass, a_objectReady))) :
  wpX_lay post ((nI (mc_cc g)), (nI (mc_hc g)), f_placeCount, f_tooMany, f_layAnswer, f_wrongKind, f_wrongKey, (mf_b gr), f_frameDepth, f_frameThere, f_lastReason, f_valueDepth, f_objectCount, f_hasRun, f_begun, f_nowAt, f_endClass, (ar (mc_p g)), (ar (mc_e g)), (ar (mc_o g)), (mc_r g), (ar (mc_f g)), (ar (mc_t g)), (ar (mc_g g)), (ar (mc_k g)), (ar kr), (ar D), (ar w), (ar l), (ar f), (ar fd), (ar hf), (ar kp), (ar hm), (ar fr), a_kind, a_value, a_objectClass, a_objectReady) := by
  unfold wpX_lay wpX_endLayout
  dsimp only
  refine xa_lo hG (fun nM => xb_1 (Hbad nM)) (fun hM => xb_0 ?_)
  refine xe_places hG hM (fun s J cl => ?_)
  refine xe_note hG hM J cl (fun t1 many => ?_) (fun t0 cl fin noB => ?_) (fun t0 reach p n F V => ?_)
  · have h7 : ¬ (7 : Int32) = 0 := by decide
    exact br_f h7 (Hmany hM many _ _ _ _ _ _)
  · refine br_t rfl ?_
    have hm40 := J.1.1
    have notmany : ¬ ml_Many g := ml_few hm40 (fun p h r => by
      obtain ⟨k, a, b, _⟩ := (fin p h).mp r
      exact ⟨k, a, b⟩)
    obtain ⟨W0, uni⟩ := ml_right noB
    have hKV : ∀ k, k < xs_m s → md_V g (xs_K s k) := fun k hk => xe_KV hG hM J hk
    have h0 : 0 < xs_m s := by
      obtain ⟨j, hj, _⟩ := J.1.2.2.2.2.2.2.1
      omega
    have inj : ms_inj (xs_m s) (xs_kr s) := by
      intro i j hi hj e
      rw [J.2.1 i hi, J.2.1 j hj, md_kx_eq] at e
      exact J.1.2.2.1 i j hi hj e
    refine xs_sort hm40 h0 inj (fun k hk => by rw [J.2.1 k hk]; exact md_kxlt _ (md_Vlt hG.1 (hKV k hk))) (fun kr1 D1 inc pm => ?_)
    have RD : ∀ j, j < xs_m s → md_R g (xs_K s j) (xs_D s j) := fun j hj => J.1.2.2.2.1 j _ hj (J.1.2.2.2.2.2.2.2 j hj)
    have PK : ∀ k j, j < xs_m s → kr1 k = xs_kr s j → md_yx (kr1 k) = xs_K s j := by
      intro k j hj e
      rw [e, J.2.1 j hj, md_yxk]
    have hkr : ∀ k, k < xs_m s → kr1 k = md_kx (md_yx (kr1 k)) := by
      intro k hk
      obtain ⟨j, hj, e, _⟩ := pm.1 k hk
      rw [PK k j hj e, e, J.2.1 j hj]
    have Y : ml_Y g (xs_m s) (fun i => md_yx (kr1 i)) D1 := by
      refine ⟨hm40, fun i j hij hj => ?_, fun p h => ?_, fun k hk => ?_⟩
      · have := inc i j hij hj
        rw [hkr i (by omega), hkr j hj, md_kx_lt] at this
        exact this
      · constructor
        · intro r
          obtain ⟨j, hj, e1, e2⟩ := (fin p h).mp r
          have eh : h = xs_D s j := uni p h _ r (by rw [← e1]; exact RD j hj)
          obtain ⟨i, hi, e3, e4⟩ := pm.2 j hj
          exact ⟨i, hi, (PK i j hj e3).trans e1, e4.trans eh.symm⟩
        · rintro ⟨k, hk, e1, e2⟩
          obtain ⟨j, hj, e3, e4⟩ := pm.1 k hk
          rw [← e1, ← e2]
          show md_R g (md_yx (kr1 k)) (D1 k)
          rw [PK k j hj e3, e4]
          exact RD j hj
      · obtain ⟨j, hj, e3, e4⟩ := pm.1 k hk
        show md_W g (md_yx (kr1 k)) (D1 k) = 0
        rw [PK k j hj e3, e4]
        exact W0 _ _ (RD j hj)
    refine xa_marks hG hM Y hkr (fun hm1 hmis => ?_)
    refine xa_find hG hM Y hkr (fun hn hf1 fd1 fr1 gr1 dp th => xb_0 ?_) (fun T' hT hf1 fd1 fr1 gr1 dp th A => xb_1 ?_)
    · unfold wX_lay_86
      refine xa_fill (fun kp1 _ hz => ?_)
      exact (Hok hM notmany noB _ _ D1 kr1 Y hkr hm1 hmis _ _ _ _ _ _ _ _ _ _ _).1 hn (hz (by decide))
    · unfold wX_lay_86
      refine xa_fill (fun kp1 ho _ => ?_)
      exact (Hok hM notmany noB _ _ D1 kr1 Y hkr hm1 hmis _ _ _ _ _ _ _ _ _ _ _).2 T' hT A (ho rfl)
  · have n0 := ml_B0 F.1
    have notmany : ¬ ml_Many g := ml_few J.1.1 reach
    exact br_f (nI_ne0 (by omega) (by omega)) (Hwrong hM notmany p n F V _ _ _ _ _ _)
end
end
section
/-! ===== the reference: fitting, joining, frames ===== -/
section
variable {f_length f_handlers f_many f_there f_typed f_wrongNumber f_wrongPlace f_size f_why f_height f_objects f_line f_begun f_last f_end : Int32} {a_parent a_begin a_op a_arg a_from a_to a_target a_caught a_places a_heights a_gone a_worst a_frames a_maps a_high a_known a_mapped a_now a_sorts a_ints a_classes a_ready : Nat → Int32}
variable {g : md_C}
theorem ya_abv {post : Int32 → Prop} {c p : Nat} (hG : md_G g) (hc : c < 8) (hp : p < 8) (h1 : mt_ab g p c → post 1) (h0 : ¬ mt_ab g p c → post 0) : wpY_isAbove post ((nI (mc_cc g)), (nI (mc_hc g)), f_many, f_there, f_typed, f_wrongNumber, f_wrongPlace, f_size, f_why, f_height, f_objects, f_line, f_begun, f_last, f_end, (ar (mc_p g)), (ar (mc_e g)), (ar (mc_o g)), (mc_r g), (ar (mc_f g)), (ar (mc_t g)), (ar (mc_g g)), (ar (mc_k g)), a_places, a_heights, a_gone, a_worst, a_frames, a_maps, a_high, a_known, a_mapped, a_now, a_sorts, a_ints, a_classes, a_ready) (nI p) (nI c) := by
  have hpar := hG.2.2.2.2.2.1
  have L : ∀ d e, e ≤ d → e < 8 → (mt_cl g d p e = p → post 1) → (¬ mt_cl g d p e = p → post 0) → wY_isAbove_2 post (nI p) (nI (mc_cc g)) (nI (mc_hc g)) f_many f_there f_typed f_wrongNumber f_wrongPlace f_size f_why f_height f_objects f_line f_begun f_last f_end (ar (mc_p g)) (ar (mc_e g)) (ar (mc_o g)) (mc_r g) (ar (mc_f g)) (ar (mc_t g)) (ar (mc_g g)) (ar (mc_k g)) a_places a_heights a_gone a_worst a_frames a_maps a_high a_known a_mapped a_now a_sorts a_ints a_classes a_ready (d + 1) (nI e) := by
    intro d
    induction d with
    | zero =>
      intro e he h8 a b
      have e0 : e = 0 := by omega
      subst e0
      refine pk_le 0 p (fun _ => pk_eq 0 p (fun q => a q) (fun q => b q)) (fun c => by omega)
    | succ d ih =>
      intro e he h8 a b
      refine pk_le e p (fun q => ?_) (fun q => ⟨vp_in_nI (by omega) (by omega), nm_r (ar_at _ (by omega)) ?_⟩)
      · have e1 : mt_cl g (d + 1) p e = e := by
          show (if p < e then _ else e) = e
          rw [if_neg (by omega)]
        rw [e1] at a b
        exact pk_eq e p (fun q => a q) (fun q => b q)
      · have e1 : mt_cl g (d + 1) p e = mt_cl g d p (mc_p g e) := by
          show (if p < e then _ else e) = _
          rw [if_pos q]
        rw [e1] at a b
        have := hpar e
        exact ih (mc_p g e) (by omega) (by omega) a b
  unfold wpY_isAbove
  dsimp only
  exact ⟨9, L 8 c (by omega) hc h1 h0⟩
theorem ya_isC {post : Int32 → Prop} {t : Nat} (ht : t ≤ 90) (h1 : mt_C t → post 1) (h0 : ¬ mt_C t → post 0) : wpY_isClass post (nI t) := by
  unfold wpY_isClass
  refine pk_lt t 3 (fun c => h0 ?_) (fun c => pk_le 11 t (fun d => h0 ?_) (fun d => h1 ⟨c, by omega⟩))
  · unfold mt_C; omega
  · unfold mt_C; omega
theorem ya_fits {post : Int32 → Prop} {t o : Nat} (hG : md_G g) (ht : t ≤ 90) (ho : o ≤ 90) (h1 : mt_fit g t o → post 1) (h0 : ¬ mt_fit g t o → post 0) : wpY_fits post ((nI (mc_cc g)), (nI (mc_hc g)), f_many, f_there, f_typed, f_wrongNumber, f_wrongPlace, f_size, f_why, f_height, f_objects, f_line, f_begun, f_last, f_end, (ar (mc_p g)), (ar (mc_e g)), (ar (mc_o g)), (mc_r g), (ar (mc_f g)), (ar (mc_t g)), (ar (mc_g g)), (ar (mc_k g)), a_places, a_heights, a_gone, a_worst, a_frames, a_maps, a_high, a_known, a_mapped, a_now, a_sorts, a_ints, a_classes, a_ready) (nI t) (nI o) := by
  unfold wpY_fits
  dsimp only
  refine pk_eq t o (fun c => h1 (Or.inl c)) (fun c1 => pk_eq o 0 (fun c => h1 (Or.inr (Or.inl c))) (fun c2 => ?_))
  refine ya_isC ho (fun co => xb_1 (pk_eq t 2 (fun c => h1 (Or.inr (Or.inr ⟨co, Or.inl c⟩))) (fun c5 => ?_))) (fun co => xb_0 (h0 ?_))
  · refine ya_isC ht (fun ct => xb_1 ?_) (fun ct => xb_0 (h0 ?_))
    · have e1 : nI t - 3 = nI (t - 3) := pk_sub (b := 3) ct.1
      have e2 : nI o - 3 = nI (o - 3) := pk_sub (b := 3) co.1
      rw [e1, e2]
      have ct' := ct
      have co' := co
      unfold mt_C at ct' co'
      refine ya_abv hG (by omega) (by omega) (fun q => xb_1 (h1 (Or.inr (Or.inr ⟨co, Or.inr ⟨ct, q⟩⟩)))) (fun q => xb_0 (h0 ?_))
      rintro (z | z | ⟨_, z | ⟨_, z⟩⟩)
      · exact c1 z
      · exact c2 z
      · exact c5 z
      · exact q z
    · rintro (z | z | ⟨_, z | ⟨z, _⟩⟩)
      · exact c1 z
      · exact c2 z
      · exact c5 z
      · exact ct z
  · rintro (z | z | ⟨z, _⟩)
    · exact c1 z
    · exact c2 z
    · exact co z
theorem ya_join {post : Int32 → Prop} {t o : Nat} (hG : md_G g) (ht : t ≤ 90) (ho : o ≤ 90) (h : post (nI (mt_j g t o))) : wpY_join post ((nI (mc_cc g)), (nI (mc_hc g)), f_many, f_there, f_typed, f_wrongNumber, f_wrongPlace, f_size, f_why, f_height, f_objects, f_line, f_begun, f_last, f_end, (ar (mc_p g)), (ar (mc_e g)), (ar (mc_o g)), (mc_r g), (ar (mc_f g)), (ar (mc_t g)), (ar (mc_g g)), (ar (mc_k g)), a_places, a_heights, a_gone, a_worst, a_frames, a_maps, a_high, a_known, a_mapped, a_now, a_sorts, a_ints, a_classes, a_ready) (nI t) (nI o) := by
  have hpar := hG.2.2.2.2.2.1
  unfold wpY_join
  dsimp only
  have rest : ¬ mt_fit g t o → ¬ mt_fit g o t → wpY_isClass (fun r_79 => ((r_79 = 0 → post 0) ∧ (¬ r_79 = 0 → wpY_isClass (fun r_81 => ((r_81 = 0 → post 0) ∧ (¬ r_81 = 0 → ∃ n48 : Nat, wY_join_48 post (nI t) (nI o) (nI (mc_cc g)) (nI (mc_hc g)) f_many f_there f_typed f_wrongNumber f_wrongPlace f_size f_why f_height f_objects f_line f_begun f_last f_end (ar (mc_p g)) (ar (mc_e g)) (ar (mc_o g)) (mc_r g) (ar (mc_f g)) (ar (mc_t g)) (ar (mc_g g)) (ar (mc_k g)) a_places a_heights a_gone a_worst a_frames a_maps a_high a_known a_mapped a_now a_sorts a_ints a_classes a_ready n48 7))) (nI o)))) (nI t) := by
    intro n1 n2
    refine ya_isC ht (fun ct => xb_1 (ya_isC ho (fun co => xb_1 ?_) (fun co => xb_0 ?_))) (fun ct => xb_0 ?_)
    · have ct' := ct
      have co' := co
      unfold mt_C at ct' co'
      have e1 : nI t - 3 = nI (t - 3) := pk_sub (b := 3) ct.1
      have e2 : nI o - 3 = nI (o - 3) := pk_sub (b := 3) co.1
      have L : ∀ d, d < 8 → (∀ q, d < q → q < 8 → ¬ (mt_ab g q (t - 3) ∧ mt_ab g q (o - 3))) → wY_join_48 post (nI t) (nI o) (nI (mc_cc g)) (nI (mc_hc g)) f_many f_there f_typed f_wrongNumber f_wrongPlace f_size f_why f_height f_objects f_line f_begun f_last f_end (ar (mc_p g)) (ar (mc_e g)) (ar (mc_o g)) (mc_r g) (ar (mc_f g)) (ar (mc_t g)) (ar (mc_g g)) (ar (mc_k g)) a_places a_heights a_gone a_worst a_frames a_maps a_high a_known a_mapped a_now a_sorts a_ints a_classes a_ready (d + 1) (nI d) := by
        intro d
        induction d with
        | zero =>
          intro _ hno
          rw [wY_join_48]
          dsimp only
          rw [e1]
          refine ya_abv (p := 0) hG (by omega) (by omega) (fun a => xb_1 ?_) (fun a => absurd (mt_ab_0 hpar _ (by omega)) a)
          rw [e2]
          refine ya_abv (p := 0) hG (by omega) (by omega) (fun b => xb_1 ?_) (fun a => absurd (mt_ab_0 hpar _ (by omega)) a)
          rw [mt_j_lca hpar n1 n2 ct co a b hno] at h; exact h
        | succ d ih =>
          intro hd hno
          have nx : ¬ (mt_ab g (d + 1) (t - 3) ∧ mt_ab g (d + 1) (o - 3)) → wY_join_48 post (nI t) (nI o) (nI (mc_cc g)) (nI (mc_hc g)) f_many f_there f_typed f_wrongNumber f_wrongPlace f_size f_why f_height f_objects f_line f_begun f_last f_end (ar (mc_p g)) (ar (mc_e g)) (ar (mc_o g)) (mc_r g) (ar (mc_f g)) (ar (mc_t g)) (ar (mc_g g)) (ar (mc_k g)) a_places a_heights a_gone a_worst a_frames a_maps a_high a_known a_mapped a_now a_sorts a_ints a_classes a_ready (d + 1) (nI d) := by
            intro q
            refine ih (by omega) (fun r h1 h2 => ?_)
            by_cases e : r = d + 1
            · subst e; exact q
            · exact hno r (by omega) h2
          rw [wY_join_48]
          dsimp only
          rw [e1]
          refine ya_abv hG (by omega) (by omega) (fun a => xb_1 ?_) (fun a => xb_0 (nm_r (pk_m1 d) (nx (fun z => a z.1))))
          rw [e2]
          refine ya_abv hG (by omega) (by omega) (fun b => xb_1 ?_) (fun b => xb_0 (nm_r (pk_m1 d) (nx (fun z => b z.2))))
          have e3 : (3 : Int32) + nI (d + 1) = nI (3 + (d + 1)) := nI_add 3 _
          rw [e3]
          rw [mt_j_lca hpar n1 n2 ct co a b hno] at h; exact h
      exact ⟨8, L 7 (by omega) (fun q h1 h2 => by omega)⟩
    · rw [mt_j_no n1 n2 (Or.inr co)] at h; exact h
    · rw [mt_j_no n1 n2 (Or.inl ct)] at h; exact h
  refine ya_fits hG ht ho (fun a => ya_fits hG ho ht (fun b => xb_1 ?_) (fun b => xb_1 ?_)) (fun a => ya_fits hG ho ht (fun b => xb_0 (xb_1 ?_)) (fun b => xb_0 (xb_0 (rest a b))))
  · rw [mt_j_up hpar a] at h; exact h
  · rw [mt_j_up hpar a] at h; exact h
  · rw [mt_j_down hpar b] at h; exact h
theorem yb_or : ∀ a b : Bool, mf_b a ||| mf_b b = mf_b (a || b) := by decide
theorem ya_give {post : Int32 → SY → Prop} {m p q d : Nat} {T : mf_T} {hf fd nw f D P pl hi : Nat → Nat} (hG : md_G g) (hm : m ≤ 40) (hp : p < m) (hpl : ∀ k, k < m → pl k = P k) (hPl : ∀ k, k < m → P k < 1327104) (inc : ml_inc m P) (eq : P p = q) (hd : d = D p) (hD : ∀ q, q < m → D q ≤ 6) (A : mf_A m D T hf fd) (T90 : mn_90 T) (f90 : ∀ s, f s ≤ 90) (hnw : ∀ s, s < 4 + d → nw s = f s) (H : ∀ hf' fd' : Nat → Nat, mf_A m D (mf_gv g T p (4 + d) f) hf' fd' → post (mf_b (mf_fl g T p (4 + d) f)) ((nI (mc_cc g)), (nI (mc_hc g)), (nI m), f_there, f_typed, f_wrongNumber, f_wrongPlace, (nI d), f_why, f_height, f_objects, f_line, f_begun, f_last, f_end, (ar (mc_p g)), (ar (mc_e g)), (ar (mc_o g)), (mc_r g), (ar (mc_f g)), (ar (mc_t g)), (ar (mc_g g)), (ar (mc_k g)), (ar pl), a_heights, a_gone, a_worst, (ar fd'), a_maps, (ar hi), (ar hf'), a_mapped, (ar nw), a_sorts, a_ints, a_classes, a_ready)) : wpY_give post ((nI (mc_cc g)), (nI (mc_hc g)), (nI m), f_there, f_typed, f_wrongNumber, f_wrongPlace, (nI d), f_why, f_height, f_objects, f_line, f_begun, f_last, f_end, (ar (mc_p g)), (ar (mc_e g)), (ar (mc_o g)), (mc_r g), (ar (mc_f g)), (ar (mc_t g)), (ar (mc_g g)), (ar (mc_k g)), (ar pl), a_heights, a_gone, a_worst, (ar fd), a_maps, (ar hi), (ar hf), a_mapped, (ar nw), a_sorts, a_ints, a_classes, a_ready) (nI q) := by
  subst hd
  have hDp := hD p hp
  have hfp := A.1 p hp
  let I : Nat → (Nat → Nat) → Int32 → Prop := fun s fd' gr' => (∀ q, q < m → q ≠ p → T.1 q = true → ∀ t, t < 4 + D q → fd' (10 * q + t) = T.2 q t) ∧ (∀ t, t < s → fd' (10 * p + t) = mf_nw g T p f t) ∧ (T.1 p = true → ∀ t, s ≤ t → t < 4 + D p → fd' (10 * p + t) = T.2 p t) ∧ (T.1 p = true → gr' = mf_b (mf_ch g T p f s)) ∧ (T.1 p = false → gr' = 1)
  have L : ∀ e s, s + e = 4 + D p → ∀ fd' gr', I s fd' gr' → wY_give_24 post (nI p) (nI (mc_cc g)) (nI (mc_hc g)) (nI m) f_there f_typed f_wrongNumber f_wrongPlace (nI (D p)) f_why f_height f_objects f_line f_begun f_last f_end (e + 1) gr' (nI s) (ar (mc_p g)) (ar (mc_e g)) (ar (mc_o g)) (mc_r g) (ar (mc_f g)) (ar (mc_t g)) (ar (mc_g g)) (ar (mc_k g)) (ar pl) a_heights a_gone a_worst (ar fd') a_maps (ar hi) (ar hf) a_mapped (ar nw) a_sorts a_ints a_classes a_ready := by
    have e4 : (4 : Int32) + nI (D p) = nI (4 + D p) := nI_add 4 _
    intro e
    induction e with
    | zero =>
      intro s hs fd' gr' ⟨i1, i2, i3, i4, i5⟩
      have es : s = 4 + D p := by omega
      subst es
      refine pk_le (4 + D p) (4 + D p) (fun _ => ?_) (fun c => by omega) e4
      refine ⟨vp_in_nI (by omega) (by omega), nm_r (e' := ar (mf_up hf p 1)) (by rw [mi_n1]; exact ar_ui hf 1 (by omega)) ?_⟩
      have AA : mf_A m D (mf_gv g T p (4 + D p) f) (mf_up hf p 1) fd' := by
        refine ⟨fun q hq => ?_, fun q hq kq t ht => ?_⟩
        · show mf_up hf p 1 q = (if q = p then true else T.1 q).toNat
          by_cases e : q = p
          · subst e; rw [up_s, if_pos rfl]; rfl
          · rw [up_n e, if_neg e]; exact A.1 q hq
        · show fd' (10 * q + t) = if q = p ∧ t < 4 + D p then mf_nw g T p f t else T.2 q t
          by_cases e : q = p
          · subst e; rw [if_pos ⟨rfl, ht⟩]; exact i2 t ht
          · rw [if_neg (fun z => e z.1)]
            have kq' : T.1 q = true := by
              have : (if q = p then true else T.1 q) = true := kq
              rw [if_neg e] at this; exact this
            exact i1 q hq e kq' t ht
      have eg : gr' = mf_b (mf_fl g T p (4 + D p) f) := by
        unfold mf_fl
        cases hk : T.1 p with
        | false => rw [i5 hk]; simp [mf_b]
        | true => rw [i4 hk]; simp
      rw [eg]
      exact ⟨ya_nb _, H _ fd' AA⟩
    | succ e ih =>
      intro s hs fd' gr' ⟨i1, i2, i3, i4, i5⟩
      have ei : (10 : Int32) * nI p + nI s = nI (10 * p + s) := by
        show nI 10 * nI p + nI s = _
        rw [pk_mul, nI_add]
      refine pk_le (4 + D p) s (fun c => by omega) (fun _ => ?_) e4
      rw [ei]
      refine ⟨vp_in_nI (by omega) (by omega), nm_r (ar_at _ (by omega)) ⟨vp_in_nI (by omega) (by omega), ?_⟩⟩
      rw [ar_at _ (by omega), ar_at _ (by omega), hfp, hnw s (by omega)]
      have J : ∀ z : Nat, z = mf_nw g T p f s → z ≤ 90 → wY_give_81 post (wY_give_24 post (nI p) (nI (mc_cc g)) (nI (mc_hc g)) (nI m) f_there f_typed f_wrongNumber f_wrongPlace (nI (D p)) f_why f_height f_objects f_line f_begun f_last f_end (e + 1)) (nI p) gr' (nI s) (nI (fd' (10 * p + s))) (nI z) (nI (mc_cc g)) (nI (mc_hc g)) (nI m) f_there f_typed f_wrongNumber f_wrongPlace (nI (D p)) f_why f_height f_objects f_line f_begun f_last f_end (ar (mc_p g)) (ar (mc_e g)) (ar (mc_o g)) (mc_r g) (ar (mc_f g)) (ar (mc_t g)) (ar (mc_g g)) (ar (mc_k g)) (ar pl) a_heights a_gone a_worst (ar fd') a_maps (ar hi) (ar hf) a_mapped (ar nw) a_sorts a_ints a_classes a_ready := by
        intro z ez z90
        have b1 : ∀ q, q < m → q ≠ p → T.1 q = true → ∀ t, t < 4 + D q → mf_up fd' (10 * p + s) z (10 * q + t) = T.2 q t := by
          intro q hq nq kq t ht
          have := hD q hq
          rw [up_n (by omega)]; exact i1 q hq nq kq t ht
        have b2 : ∀ t, t < s + 1 → mf_up fd' (10 * p + s) z (10 * p + t) = mf_nw g T p f t := by
          intro t ht
          by_cases q : t = s
          · subst q; rw [up_s]; exact ez
          · rw [up_n (by omega)]; exact i2 t (by omega)
        have b3 : T.1 p = true → ∀ t, s + 1 ≤ t → t < 4 + D p → mf_up fd' (10 * p + s) z (10 * p + t) = T.2 p t := by
          intro k t h1 h2
          rw [up_n (by omega)]; exact i3 k t (by omega) h2
        have g96 : ∀ b : Bool, (T.1 p = true → b = decide (mf_nw g T p f s ≠ T.2 p s)) → wY_give_96 post (wY_give_24 post (nI p) (nI (mc_cc g)) (nI (mc_hc g)) (nI m) f_there f_typed f_wrongNumber f_wrongPlace (nI (D p)) f_why f_height f_objects f_line f_begun f_last f_end (e + 1)) (nI p) (nI s) (nI z) (mf_b b) gr' (nI (mc_cc g)) (nI (mc_hc g)) (nI m) f_there f_typed f_wrongNumber f_wrongPlace (nI (D p)) f_why f_height f_objects f_line f_begun f_last f_end (ar (mc_p g)) (ar (mc_e g)) (ar (mc_o g)) (mc_r g) (ar (mc_f g)) (ar (mc_t g)) (ar (mc_g g)) (ar (mc_k g)) (ar pl) a_heights a_gone a_worst (ar fd') a_maps (ar hi) (ar hf) a_mapped (ar nw) a_sorts a_ints a_classes a_ready := by
          intro b hb
          refine nm_e ?_
          rw [ei]
          refine ⟨vp_in_nI (by omega) (by omega), nm_r (ar_ui _ _ (by omega)) (nm_r (nI_1 s) (ih (s + 1) (by omega) _ _ ⟨b1, b2, b3, fun k => ?_, fun k => ?_⟩))⟩
          · rw [i4 k, yb_or, hb k]; rfl
          · rw [i5 k]; cases b <;> decide
        refine br_c (fun q => g96 false (fun k => ?_)) (fun q => g96 true (fun k => ?_))
        · have old := i3 k s (Nat.le_refl _) (by omega)
          have t90 := T90 p s
          rw [old] at q
          have : z = T.2 p s := (nI_eq (by omega) (by omega)).mp q
          rw [← ez, this]; simp
        · have old := i3 k s (Nat.le_refl _) (by omega)
          rw [old] at q
          have : z ≠ T.2 p s := fun w => q (by rw [w])
          rw [← ez]; exact (decide_eq_true this).symm
      cases hk : T.1 p with
      | false =>
        refine xb_0 ⟨vp_in_nI (by omega) (by omega), J (f s) ?_ (f90 s)⟩
        unfold mf_nw; rw [hk]; simp
      | true =>
        have old := i3 hk s (Nat.le_refl _) (by omega)
        have o90 : fd' (10 * p + s) ≤ 90 := by rw [old]; exact T90 p s
        refine xb_1 ⟨vp_in_nI (by omega) (by omega), ya_join hG o90 (f90 s) (J _ ?_ (mt_j90 hG.2.2.2.2.2.1 o90 (f90 s)))⟩
        unfold mf_nw; rw [if_pos hk, old]
  have hpl' : ∀ k, k < m → pl k < 1327104 := fun k hk => by rw [hpl k hk]; exact hPl k hk
  unfold wpY_give
  dsimp only
  refine ya_num (by omega) hpl' (by rw [← eq]; exact hPl p hp) (fun j hj ej => ?_) (fun no => absurd ((hpl p hp).trans eq) (no p hp))
  have ejp : j = p := ml_inj inc _ _ hj hp ((hpl j hj).symm.trans (ej.trans eq.symm))
  subst ejp
  refine ⟨vp_in_nI (by omega) (by omega), ?_⟩
  rw [ar_at _ (by omega), hfp]
  cases hk : T.1 j with
  | false => exact xb_0 ⟨4 + D j + 1, L (4 + D j) 0 (by omega) fd 1 ⟨fun q hq _ kq => A.2 q hq kq, fun t ht => by omega, fun k t _ ht => A.2 j hj k t ht, fun k => (by rw [hk] at k; cases k), fun _ => rfl⟩⟩
  | true => exact xb_1 ⟨4 + D j + 1, L (4 + D j) 0 (by omega) fd 0 ⟨fun q hq _ kq => A.2 q hq kq, fun t ht => by omega, fun k t _ ht => A.2 j hj k t ht, fun _ => rfl, fun k => (by rw [hk] at k; cases k)⟩⟩
theorem ya_takeF {post : SY → Prop} {k : Nat} {fd nw D hi : Nat → Nat} (hk : k < 40) (hD : D k ≤ 6) (hhi : hi k = D k) (H : ∀ nw' : Nat → Nat, (∀ s, s < 4 + D k → nw' s = fd (10 * k + s)) → post (f_length, f_handlers, f_many, f_there, f_typed, f_wrongNumber, f_wrongPlace, (nI (D k)), f_why, f_height, f_objects, f_line, f_begun, f_last, f_end, a_parent, a_begin, a_op, a_arg, a_from, a_to, a_target, a_caught, a_places, a_heights, a_gone, a_worst, (ar fd), a_maps, (ar hi), a_known, a_mapped, (ar nw'), a_sorts, a_ints, a_classes, a_ready)) : wpY_take__frames post (f_length, f_handlers, f_many, f_there, f_typed, f_wrongNumber, f_wrongPlace, f_size, f_why, f_height, f_objects, f_line, f_begun, f_last, f_end, a_parent, a_begin, a_op, a_arg, a_from, a_to, a_target, a_caught, a_places, a_heights, a_gone, a_worst, (ar fd), a_maps, (ar hi), a_known, a_mapped, (ar nw), a_sorts, a_ints, a_classes, a_ready) (nI k) := by
  have e4 : (4 : Int32) + nI (D k) = nI (4 + D k) := nI_add 4 _
  have L : ∀ e s, s + e = 4 + D k → ∀ nw : Nat → Nat, (∀ t, t < s → nw t = fd (10 * k + t)) → wY_take__frames_12 post (nI k) f_length f_handlers f_many f_there f_typed f_wrongNumber f_wrongPlace (nI (D k)) f_why f_height f_objects f_line f_begun f_last f_end (e + 1) (nI s) a_parent a_begin a_op a_arg a_from a_to a_target a_caught a_places a_heights a_gone a_worst (ar fd) a_maps (ar hi) a_known a_mapped (ar nw) a_sorts a_ints a_classes a_ready := by
    intro e
    induction e with
    | zero =>
      intro s hs nw hf
      exact pk_le (4 + D k) s (fun _ => H nw (fun t ht => hf t (by omega))) (fun c => by omega) e4
    | succ e ih =>
      intro s hs nw hf
      have ei : (10 : Int32) * nI k + nI s = nI (10 * k + s) := by
        show nI 10 * nI k + nI s = _
        rw [pk_mul, nI_add]
      refine pk_le (4 + D k) s (fun c => by omega) (fun _ => ?_) e4
      rw [ei, ar_at _ (by omega)]
      refine ⟨vp_in_nI (by omega) (by omega), vp_in_nI (by omega) (by omega), nm_r (ar_ui _ _ (by omega)) (nm_r (nI_1 s) (ih (s + 1) (by omega) _ (fun t ht => ?_)))⟩
      by_cases q : t = s
      · subst q; exact up_s
      · rw [up_n q]; exact hf t (by omega)
  unfold wpY_take__frames
  dsimp only
  refine ⟨vp_in_nI (by omega) (by omega), nm_r (e' := nI (D k)) (by rw [ar_at _ (by omega), hhi]) ⟨4 + D k + 1, L (4 + D k) 0 (by omega) nw (fun t ht => by omega)⟩⟩
theorem ya_takeM {post : SY → Prop} {k : Nat} {fd nw D hi : Nat → Nat} (hk : k < 40) (hD : D k ≤ 6) (hhi : hi k = D k) (H : ∀ nw' : Nat → Nat, (∀ s, s < 4 + D k → nw' s = fd (10 * k + s)) → post (f_length, f_handlers, f_many, f_there, f_typed, f_wrongNumber, f_wrongPlace, (nI (D k)), f_why, f_height, f_objects, f_line, f_begun, f_last, f_end, a_parent, a_begin, a_op, a_arg, a_from, a_to, a_target, a_caught, a_places, a_heights, a_gone, a_worst, a_frames, (ar fd), (ar hi), a_known, a_mapped, (ar nw'), a_sorts, a_ints, a_classes, a_ready)) : wpY_take__maps post (f_length, f_handlers, f_many, f_there, f_typed, f_wrongNumber, f_wrongPlace, f_size, f_why, f_height, f_objects, f_line, f_begun, f_last, f_end, a_parent, a_begin, a_op, a_arg, a_from, a_to, a_target, a_caught, a_places, a_heights, a_gone, a_worst, a_frames, (ar fd), (ar hi), a_known, a_mapped, (ar nw), a_sorts, a_ints, a_classes, a_ready) (nI k) := by
  have e4 : (4 : Int32) + nI (D k) = nI (4 + D k) := nI_add 4 _
  have L : ∀ e s, s + e = 4 + D k → ∀ nw : Nat → Nat, (∀ t, t < s → nw t = fd (10 * k + t)) → wY_take__maps_12 post (nI k) f_length f_handlers f_many f_there f_typed f_wrongNumber f_wrongPlace (nI (D k)) f_why f_height f_objects f_line f_begun f_last f_end (e + 1) (nI s) a_parent a_begin a_op a_arg a_from a_to a_target a_caught a_places a_heights a_gone a_worst a_frames (ar fd) (ar hi) a_known a_mapped (ar nw) a_sorts a_ints a_classes a_ready := by
    intro e
    induction e with
    | zero =>
      intro s hs nw hf
      exact pk_le (4 + D k) s (fun _ => H nw (fun t ht => hf t (by omega))) (fun c => by omega) e4
    | succ e ih =>
      intro s hs nw hf
      have ei : (10 : Int32) * nI k + nI s = nI (10 * k + s) := by
        show nI 10 * nI k + nI s = _
        rw [pk_mul, nI_add]
      refine pk_le (4 + D k) s (fun c => by omega) (fun _ => ?_) e4
      rw [ei, ar_at _ (by omega)]
      refine ⟨vp_in_nI (by omega) (by omega), vp_in_nI (by omega) (by omega), nm_r (ar_ui _ _ (by omega)) (nm_r (nI_1 s) (ih (s + 1) (by omega) _ (fun t ht => ?_)))⟩
      by_cases q : t = s
      · subst q; exact up_s
      · rw [up_n q]; exact hf t (by omega)
  unfold wpY_take__maps
  dsimp only
  refine ⟨vp_in_nI (by omega) (by omega), nm_r (e' := nI (D k)) (by rw [ar_at _ (by omega), hhi]) ⟨4 + D k + 1, L (4 + D k) 0 (by omega) nw (fun t ht => by omega)⟩⟩
end
end
section
/-! ===== the reference: what an instruction needs and makes of a frame ===== -/
section
variable {f_length f_handlers f_many f_there f_typed f_wrongNumber f_wrongPlace f_size f_why f_height f_objects f_line f_begun f_last f_end : Int32} {a_parent a_begin a_op a_arg a_from a_to a_target a_caught a_places a_heights a_gone a_worst a_frames a_maps a_high a_known a_mapped a_now a_sorts a_ints a_classes a_ready : Nat → Int32}
variable {g : md_C} {m k d : Nat} {P D pl hi nw f : Nat → Nat}
theorem ya_pull {post : Int32 → SY → Prop} (h0 : 0 < d) (hd : d ≤ 8) (H : post (nI (nw (3 + d))) (f_length, f_handlers, f_many, f_there, f_typed, f_wrongNumber, f_wrongPlace, (nI (d - 1)), f_why, f_height, f_objects, f_line, f_begun, f_last, f_end, a_parent, a_begin, a_op, a_arg, a_from, a_to, a_target, a_caught, a_places, a_heights, a_gone, a_worst, a_frames, a_maps, a_high, a_known, a_mapped, (ar nw), a_sorts, a_ints, a_classes, a_ready)) : wpY_pull post (f_length, f_handlers, f_many, f_there, f_typed, f_wrongNumber, f_wrongPlace, (nI d), f_why, f_height, f_objects, f_line, f_begun, f_last, f_end, a_parent, a_begin, a_op, a_arg, a_from, a_to, a_target, a_caught, a_places, a_heights, a_gone, a_worst, a_frames, a_maps, a_high, a_known, a_mapped, (ar nw), a_sorts, a_ints, a_classes, a_ready) := by
  unfold wpY_pull
  dsimp only
  refine nm_r (pk_sub (b := 1) h0) ?_
  have e : (3 : Int32) + nI (d - 1) + 1 = nI (3 + d) := by
    show nI 3 + nI (d - 1) + nI 1 = _
    rw [nI_add, nI_add]; exact congrArg nI (by omega)
  rw [e, ar_at _ (by omega)]
  exact ⟨vp_in_nI (by omega) (by omega), H⟩
theorem ya_push {post : SY → Prop} {v : Nat} (hd : d ≤ 7) (H : post (f_length, f_handlers, f_many, f_there, f_typed, f_wrongNumber, f_wrongPlace, (nI (d + 1)), f_why, f_height, f_objects, f_line, f_begun, f_last, f_end, a_parent, a_begin, a_op, a_arg, a_from, a_to, a_target, a_caught, a_places, a_heights, a_gone, a_worst, a_frames, a_maps, a_high, a_known, a_mapped, (ar (mf_up nw (4 + d) v)), a_sorts, a_ints, a_classes, a_ready)) : wpY_push post (f_length, f_handlers, f_many, f_there, f_typed, f_wrongNumber, f_wrongPlace, (nI d), f_why, f_height, f_objects, f_line, f_begun, f_last, f_end, a_parent, a_begin, a_op, a_arg, a_from, a_to, a_target, a_caught, a_places, a_heights, a_gone, a_worst, a_frames, a_maps, a_high, a_known, a_mapped, (ar nw), a_sorts, a_ints, a_classes, a_ready) (nI v) := by
  unfold wpY_push
  dsimp only
  have e : (4 : Int32) + nI d = nI (4 + d) := nI_add 4 d
  rw [e]
  exact ⟨vp_in_nI (by omega) (by omega), nm_r (ar_ui _ _ (by omega)) (nm_r (nI_1 d) H)⟩
theorem ya_isR {post : Int32 → Prop} {t : Nat} (ht : t ≤ 90) (h1 : 2 ≤ t ∧ t ≤ 10 → post 1) (h0 : ¬ (2 ≤ t ∧ t ≤ 10) → post 0) : wpY_isReference post (nI t) := by
  unfold wpY_isReference
  refine pk_eq t 2 (fun c => h1 (by omega)) (fun c => ya_isC ht (fun q => xb_1 (h1 ?_)) (fun q => xb_0 (h0 ?_)))
  · unfold mt_C at q; omega
  · unfold mt_C at q; omega
theorem ya_begun {post : Int32 → SY → Prop} {t : Nat} (hG : md_G g) (hM : md_M g) (Y : ml_Y g m P D) (hpl : ∀ k, k < m → pl k = P k) (hd : d ≤ 6) (ht : t ≤ 90) (f90 : ∀ s, f s ≤ 90) (hnw : ∀ s, s < 4 + d → nw s = f s) (h1 : mf_isM g m P t → ∀ nw' : Nat → Nat, (∀ s, s < 4 + d → nw' s = if f s = t then 3 + mf_mc g P t else f s) → post 1 ((nI (mc_cc g)), (nI (mc_hc g)), (nI m), f_there, f_typed, f_wrongNumber, f_wrongPlace, (nI d), f_why, f_height, f_objects, f_line, f_begun, f_last, f_end, (ar (mc_p g)), (ar (mc_e g)), (ar (mc_o g)), (mc_r g), (ar (mc_f g)), (ar (mc_t g)), (ar (mc_g g)), (ar (mc_k g)), (ar pl), a_heights, a_gone, a_worst, a_frames, a_maps, (ar hi), a_known, a_mapped, (ar nw'), a_sorts, a_ints, a_classes, a_ready)) (h0 : ¬ mf_isM g m P t → post 0 ((nI (mc_cc g)), (nI (mc_hc g)), (nI m), f_there, f_typed, f_wrongNumber, f_wrongPlace, (nI d), f_why, f_height, f_objects, f_line, f_begun, f_last, f_end, (ar (mc_p g)), (ar (mc_e g)), (ar (mc_o g)), (mc_r g), (ar (mc_f g)), (ar (mc_t g)), (ar (mc_g g)), (ar (mc_k g)), (ar pl), a_heights, a_gone, a_worst, a_frames, a_maps, (ar hi), a_known, a_mapped, (ar nw), a_sorts, a_ints, a_classes, a_ready)) : wpY_begun post ((nI (mc_cc g)), (nI (mc_hc g)), (nI m), f_there, f_typed, f_wrongNumber, f_wrongPlace, (nI d), f_why, f_height, f_objects, f_line, f_begun, f_last, f_end, (ar (mc_p g)), (ar (mc_e g)), (ar (mc_o g)), (mc_r g), (ar (mc_f g)), (ar (mc_t g)), (ar (mc_g g)), (ar (mc_k g)), (ar pl), a_heights, a_gone, a_worst, a_frames, a_maps, (ar hi), a_known, a_mapped, (ar nw), a_sorts, a_ints, a_classes, a_ready) (nI t) := by
  have hm := Y.1
  have hcc := hG.1
  have e4 : (4 : Int32) + nI d = nI (4 + d) := nI_add 4 d
  unfold wpY_begun
  dsimp only
  refine pk_lt t 11 (fun c => h0 (by unfold mf_isM; omega)) (fun c1 => pk_le 51 t (fun c => h0 (by unfold mf_isM; omega)) (fun c2 => ?_))
  have e : nI t - 11 = nI (t - 11) := pk_sub (b := 11) c1
  rw [e]
  refine pk_le m (t - 11) (fun c => h0 (by unfold mf_isM; omega)) (fun c3 => ⟨vp_in_nI (by omega) (by omega), ?_⟩)
  have v := mg_V hG hM Y c3
  have hpl1 := md_Vlt hcc v
  have hi1 := md_Vi hcc v
  have h20 := hG.2.2.1 (P (t - 11) % 24)
  rw [ar_at _ (by omega), hpl _ c3]
  refine ya_ins (by omega) ⟨vp_in_nI (by omega) (by omega), ?_⟩
  rw [ar_at _ (by omega)]
  refine pk_eq (mc_o g (P (t - 11) % 24)) 8 (fun z => ⟨vp_in_nI (by omega) (by omega), ya_ins (by omega) ⟨vp_in_nI (by omega) (by omega), nm_e ⟨4 + d + 1, ?_⟩⟩⟩) (fun z => h0 (fun y => z y.2.2))
  have isM : mf_isM g m P t := ⟨c1, c3, z⟩
  rw [nI_clamp (by omega), (mn_lim8 hG (i := P (t - 11) % 24) (Or.inl z)).2]
  have L : ∀ e s, s + e = 4 + d → ∀ nw1 : Nat → Nat, (∀ j, j < s → nw1 j = if f j = t then 3 + mf_mc g P t else f j) → (∀ j, s ≤ j → nw1 j = nw j) → wY_begun_67 post (nI t) (nI (mc_a g (P (t - 11) % 24))) (nI (mc_cc g)) (nI (mc_hc g)) (nI m) f_there f_typed f_wrongNumber f_wrongPlace (nI d) f_why f_height f_objects f_line f_begun f_last f_end (e + 1) (nI s) (ar (mc_p g)) (ar (mc_e g)) (ar (mc_o g)) (mc_r g) (ar (mc_f g)) (ar (mc_t g)) (ar (mc_g g)) (ar (mc_k g)) (ar pl) a_heights a_gone a_worst a_frames a_maps (ar hi) a_known a_mapped (ar nw1) a_sorts a_ints a_classes a_ready := by
    intro e
    induction e with
    | zero =>
      intro s hs nw1 a b
      exact pk_le (4 + d) s (fun _ => h1 isM nw1 (fun j hj => a j (by omega))) (fun c => by omega) e4
    | succ e ih =>
      intro s hs nw1 a b
      have f9 := f90 s
      have e3 : (3 : Int32) + nI (mc_a g (P (t - 11) % 24)) = nI (3 + mf_mc g P t) := nI_add 3 _
      refine pk_le (4 + d) s (fun c => by omega) (fun _ => ⟨vp_in_nI (by omega) (by omega), ?_⟩) e4
      rw [ar_at _ (by omega), b s (Nat.le_refl _), hnw s (by omega)]
      refine pk_eq (f s) t (fun q => ⟨vp_in_nI (by omega) (by omega), nm_r (e' := ar (mf_up nw1 s (3 + mf_mc g P t))) (by rw [e3]; exact ar_ui _ _ (by omega)) (nm_r (nI_1 s) (ih (s + 1) (by omega) _ (fun j hj => ?_) (fun j hj => ?_)))⟩) (fun q => nm_r (nI_1 s) (ih (s + 1) (by omega) nw1 (fun j hj => ?_) (fun j hj => b j (by omega))))
      · by_cases w : j = s
        · subst w; rw [up_s, if_pos q]
        · rw [up_n w]; exact a j (by omega)
      · rw [up_n (by omega)]; exact b j (by omega)
      · by_cases w : j = s
        · subst w; rw [b j (Nat.le_refl _), hnw j (by omega), if_neg q]
        · exact a j (by omega)
  exact L (4 + d) 0 (by omega) nw (fun j hj => by omega) (fun j _ => rfl)
theorem ya_does {post : Int32 → SY → Prop} (hG : md_G g) (hM : md_M g) (Y : ml_Y g m P D) (hpl : ∀ k, k < m → pl k = P k) (hk : k < m) (hd : d = D k) (f90 : ∀ s, f s ≤ 90) (hnw : ∀ s, s < 4 + d → nw s = f s) (H1 : mf_nd g m P k d f → ∀ nw' : Nat → Nat, (∀ s, s < 4 + md_th g (P k) d → nw' s = mf_cg g P k d f s) → post 1 ((nI (mc_cc g)), (nI (mc_hc g)), (nI m), f_there, f_typed, f_wrongNumber, f_wrongPlace, (nI (md_th g (P k) d)), f_why, f_height, f_objects, f_line, f_begun, f_last, f_end, (ar (mc_p g)), (ar (mc_e g)), (ar (mc_o g)), (mc_r g), (ar (mc_f g)), (ar (mc_t g)), (ar (mc_g g)), (ar (mc_k g)), (ar pl), a_heights, a_gone, a_worst, a_frames, a_maps, (ar hi), a_known, a_mapped, (ar nw'), a_sorts, a_ints, a_classes, a_ready)) (H0 : ¬ mf_nd g m P k d f → ∀ (sz : Int32) (nw' : Nat → Nat), post 0 ((nI (mc_cc g)), (nI (mc_hc g)), (nI m), f_there, f_typed, f_wrongNumber, f_wrongPlace, sz, f_why, f_height, f_objects, f_line, f_begun, f_last, f_end, (ar (mc_p g)), (ar (mc_e g)), (ar (mc_o g)), (mc_r g), (ar (mc_f g)), (ar (mc_t g)), (ar (mc_g g)), (ar (mc_k g)), (ar pl), a_heights, a_gone, a_worst, a_frames, a_maps, (ar hi), a_known, a_mapped, (ar nw'), a_sorts, a_ints, a_classes, a_ready)) : wpY_does post ((nI (mc_cc g)), (nI (mc_hc g)), (nI m), f_there, f_typed, f_wrongNumber, f_wrongPlace, (nI d), f_why, f_height, f_objects, f_line, f_begun, f_last, f_end, (ar (mc_p g)), (ar (mc_e g)), (ar (mc_o g)), (mc_r g), (ar (mc_f g)), (ar (mc_t g)), (ar (mc_g g)), (ar (mc_k g)), (ar pl), a_heights, a_gone, a_worst, a_frames, a_maps, (ar hi), a_known, a_mapped, (ar nw), a_sorts, a_ints, a_classes, a_ready) (nI k) := by
  have hm := Y.1
  have hcc := hG.1
  have v := mg_V hG hM Y hk
  have hPl := md_Vlt hcc v
  have hi1 := md_Vi hcc v
  have hD := mg_D hG hM Y hk
  have hth := mg_th Y hk
  have h20 := hG.2.2.1 (P k % 24)
  have t2 := md_tk2 (mc_o g (P k % 24))
  have p2 := md_pu2 (mc_o g (P k % 24))
  obtain ⟨_, _, _, _, f5⟩ := mg_W Y hk
  have tk := hth.1
  have th6 := hth.2
  rw [← hd] at tk th6 hD
  have nb1 : narrow .boolean (.int (1 : Int32)) = .int 1 := rfl
  have nb0 : narrow .boolean (.int (0 : Int32)) = .int 0 := rfl
  have thv : ∀ n t p, mc_o g (P k % 24) = n → md_tk n = t → md_pu n = p → md_th g (P k) d = d - t + p ∧ md_tk (mc_o g (P k % 24)) = t ∧ t ≤ d := by
    intro n t p e1 e2 e3
    unfold md_th; rw [e1] at tk ⊢; rw [e2] at tk ⊢; rw [e3]; exact ⟨rfl, rfl, tk⟩
  have f3 : 0 < d → nw (3 + d) = f (3 + d) := fun h => hnw _ (by omega)
  have f2 : 1 < d → nw (2 + d) = f (2 + d) := fun h => hnw _ (by omega)
  -- nothing needed, or all else than the one clause empty
  have S69 : ∀ x7 z0 : Nat, (0 < md_tk (mc_o g (P k % 24)) → x7 = f (3 + d)) → (1 < md_tk (mc_o g (P k % 24)) → z0 = f (2 + d)) → wY_does_69 post (nI k) (nI (P k)) (nI (mc_o g (P k % 24))) (mc_r g (P k % 24)) (nI (11 + k)) (nI x7) (nI z0) (nI (mc_cc g)) (nI (mc_hc g)) (nI m) f_there f_typed f_wrongNumber f_wrongPlace (nI (d - md_tk (mc_o g (P k % 24)))) f_why f_height f_objects f_line f_begun f_last f_end (ar (mc_p g)) (ar (mc_e g)) (ar (mc_o g)) (mc_r g) (ar (mc_f g)) (ar (mc_t g)) (ar (mc_g g)) (ar (mc_k g)) (ar pl) a_heights a_gone a_worst a_frames a_maps (ar hi) a_known a_mapped (ar nw) a_sorts a_ints a_classes a_ready := by
    intro x7 z0 h7 hz
    unfold wY_does_69
    have put : ∀ v, md_tk (mc_o g (P k % 24)) = 0 → md_th g (P k) d = d + 1 → mf_cg g P k d f = mf_up f (4 + d) v → mf_nd g m P k d f → post 1 ((nI (mc_cc g)), (nI (mc_hc g)), (nI m), f_there, f_typed, f_wrongNumber, f_wrongPlace, (nI (d + 1)), f_why, f_height, f_objects, f_line, f_begun, f_last, f_end, (ar (mc_p g)), (ar (mc_e g)), (ar (mc_o g)), (mc_r g), (ar (mc_f g)), (ar (mc_t g)), (ar (mc_g g)), (ar (mc_k g)), (ar pl), a_heights, a_gone, a_worst, a_frames, a_maps, (ar hi), a_known, a_mapped, (ar (mf_up nw (4 + d) v)), a_sorts, a_ints, a_classes, a_ready) := by
      intro v e0 e1 e2 nd
      have := H1 nd (mf_up nw (4 + d) v) (fun s hs => by
        rw [e2]
        by_cases q : s = 4 + d
        · subst q; rw [up_s, up_s]
        · rw [up_n q, up_n q]; exact hnw s (by omega))
      rw [e1] at this; exact this
    have idd : mf_cg g P k d f = f → md_th g (P k) d = d - md_tk (mc_o g (P k % 24)) → mf_nd g m P k d f → post 1 ((nI (mc_cc g)), (nI (mc_hc g)), (nI m), f_there, f_typed, f_wrongNumber, f_wrongPlace, (nI (d - md_tk (mc_o g (P k % 24)))), f_why, f_height, f_objects, f_line, f_begun, f_last, f_end, (ar (mc_p g)), (ar (mc_e g)), (ar (mc_o g)), (mc_r g), (ar (mc_f g)), (ar (mc_t g)), (ar (mc_g g)), (ar (mc_k g)), (ar pl), a_heights, a_gone, a_worst, a_frames, a_maps, (ar hi), a_known, a_mapped, (ar nw), a_sorts, a_ints, a_classes, a_ready) := by
      intro e1 e2 nd
      have := H1 nd nw (fun s hs => by rw [e1]; exact hnw s (by omega))
      rw [e2] at this; exact this
    have cgid : mc_o g (P k % 24) = 4 ∨ mc_o g (P k % 24) = 7 ∨ (11 ≤ mc_o g (P k % 24) ∧ mc_o g (P k % 24) ≤ 14) ∨ 15 < mc_o g (P k % 24) → mf_cg g P k d f = f := by
      intro q
      unfold mf_cg
      rw [if_neg (by omega), if_neg (by omega), if_neg (by omega), if_neg (by omega), if_neg (by omega), if_neg (by omega), if_neg (by omega), if_neg (by omega), if_neg (by omega), if_neg (by omega)]
    refine br_f (nI_pos (by omega)) (pk_lt 19 (mc_o g (P k % 24)) (fun c => by omega) (fun c19 => ?_))
    have triv : (mc_o g (P k % 24) = 0 ∨ mc_o g (P k % 24) = 1 ∨ mc_o g (P k % 24) = 3 ∨ mc_o g (P k % 24) = 4 ∨ mc_o g (P k % 24) = 5 ∨ mc_o g (P k % 24) = 6 ∨ mc_o g (P k % 24) = 12 ∨ mc_o g (P k % 24) = 15 ∨ mc_o g (P k % 24) = 17) → mf_nd g m P k d f := by
      intro q
      unfold mf_nd
      refine ⟨fun z => by omega, fun z => by omega, fun z => by omega, fun z => by omega, fun z => by omega, fun z => by omega, fun z => by omega, fun z => by omega⟩
    have refs : (mc_o g (P k % 24) = 10 ∨ mc_o g (P k % 24) = 14 ∨ mc_o g (P k % 24) = 19) → (mf_nd g m P k d f ↔ 2 ≤ f (3 + d) ∧ f (3 + d) ≤ 10) := by
      intro q
      unfold mf_nd
      exact ⟨fun z => z.2.2.2.2.1 q, fun z => ⟨fun z => by omega, fun z => by omega, fun z => by omega, fun z => by omega, fun _ => z, fun z => by omega, fun z => by omega, fun z => by omega⟩⟩
    have s381 : (mc_o g (P k % 24) = 11 ∨ mc_o g (P k % 24) = 18) → md_tk (mc_o g (P k % 24)) = 1 → md_th g (P k) d = d - 1 → wY_does_381 post (mc_r g (P k % 24)) (nI x7) (nI (mc_cc g)) (nI (mc_hc g)) (nI m) f_there f_typed f_wrongNumber f_wrongPlace (nI (d - md_tk (mc_o g (P k % 24)))) f_why f_height f_objects f_line f_begun f_last f_end (ar (mc_p g)) (ar (mc_e g)) (ar (mc_o g)) (mc_r g) (ar (mc_f g)) (ar (mc_t g)) (ar (mc_g g)) (ar (mc_k g)) (ar pl) a_heights a_gone a_worst a_frames a_maps (ar hi) a_known a_mapped (ar nw) a_sorts a_ints a_classes a_ready := by
      intro q e1 e2
      have ha := mn_lim8 hG (i := P k % 24) (by omega)
      have e3 : (3 : Int32) + nI (mc_a g (P k % 24)) = nI (3 + mc_a g (P k % 24)) := nI_add 3 _
      unfold wY_does_381
      rw [ha.2, e3, h7 (by omega)]
      refine ya_fits hG (f90 _) (by omega) (fun z => ⟨nb1, idd (cgid (by omega)) (by omega) ?_⟩) (fun z => ⟨nb0, H0 (fun y => z (y.2.2.2.2.2.1 q)) _ _⟩)
      unfold mf_nd
      exact ⟨fun z => by omega, fun z => by omega, fun z => by omega, fun z => by omega, fun z => by omega, fun _ => z, fun z => by omega, fun z => by omega⟩
    have s404 : (mc_o g (P k % 24) = 14 ∨ mc_o g (P k % 24) = 19) → md_tk (mc_o g (P k % 24)) = 1 → md_th g (P k) d = d - 1 → wY_does_404 post (nI x7) (nI (mc_cc g)) (nI (mc_hc g)) (nI m) f_there f_typed f_wrongNumber f_wrongPlace (nI (d - md_tk (mc_o g (P k % 24)))) f_why f_height f_objects f_line f_begun f_last f_end (ar (mc_p g)) (ar (mc_e g)) (ar (mc_o g)) (mc_r g) (ar (mc_f g)) (ar (mc_t g)) (ar (mc_g g)) (ar (mc_k g)) (ar pl) a_heights a_gone a_worst a_frames a_maps (ar hi) a_known a_mapped (ar nw) a_sorts a_ints a_classes a_ready := by
      intro q e1 e2
      unfold wY_does_404
      rw [h7 (by omega)]
      refine ya_isR (f90 _) (fun z => ⟨nb1, idd (cgid (by omega)) (by omega) ((refs (by omega)).mpr z)⟩) (fun z => ⟨nb0, H0 (fun y => z ((refs (by omega)).mp y)) _ _⟩)
    refine pk_eq (mc_o g (P k % 24)) 0 (fun c => ?_) (fun n0 => ?_)
    · obtain ⟨th, et, _⟩ := thv 0 0 1 c rfl rfl
      rw [et]
      refine ya_push (v := 1) (by omega) (put 1 et (by omega) (by unfold mf_cg; rw [if_pos c]) (triv (by omega)))
    refine pk_eq (mc_o g (P k % 24)) 1 (fun c => ?_) (fun n1 => ?_)
    · obtain ⟨th, et, _⟩ := thv 1 0 1 c rfl rfl
      rw [et]
      refine ya_push (v := 2) (by omega) (put 2 et (by omega) (by unfold mf_cg; rw [if_neg n0, if_pos c]) (triv (by omega)))
    refine pk_eq (mc_o g (P k % 24)) 2 (fun c => ?_) (fun n2 => ?_)
    · obtain ⟨th, et, _⟩ := thv 2 0 1 c rfl rfl
      have ha := mn_lim4 hG (i := P k % 24) (Or.inl c)
      have fa := f90 (mc_a g (P k % 24))
      rw [et, ha.2, ar_at _ (by omega), hnw _ (by omega)]
      refine ⟨vp_in_nI (by omega) (by omega), ya_push (by omega) ⟨vp_in_nI (by omega) (by omega), ?_⟩⟩
      rw [ar_at _ (by omega), up_n (by omega), hnw _ (by omega)]
      refine pk_eq (f (mc_a g (P k % 24))) 0 (fun q => H0 (fun z => (z.1 c).1 q) _ _) (fun q => ⟨vp_in_nI (by omega) (by omega), pk_le 51 (f (mc_a g (P k % 24))) (fun q2 => H0 (fun z => ?_) _ _) (fun q2 => put _ et (by omega) (by unfold mf_cg; rw [if_neg n0, if_neg n1, if_pos c]) ?_)⟩)
      · have := (z.1 c).2; omega
      · unfold mf_nd
        exact ⟨fun _ => ⟨q, q2⟩, fun z => by omega, fun z => by omega, fun z => by omega, fun z => by omega, fun z => by omega, fun z => by omega, fun z => by omega⟩
    refine pk_eq (mc_o g (P k % 24)) 3 (fun c => ?_) (fun n3 => ?_)
    · obtain ⟨th, et, _⟩ := thv 3 1 0 c rfl rfl
      have ha := mn_lim4 hG (i := P k % 24) (Or.inr (Or.inl c))
      rw [et, ha.2, h7 (by omega)]
      refine ⟨vp_in_nI (by omega) (by omega), nm_r (ar_ui _ _ (by omega)) ?_⟩
      have := H1 (triv (by omega)) (mf_up nw (mc_a g (P k % 24)) (f (3 + d))) (fun s hs => by
        unfold mf_cg; rw [if_neg n0, if_neg n1, if_neg n2, if_pos c]
        by_cases q : s = mc_a g (P k % 24)
        · subst q; rw [up_s, up_s]
        · rw [up_n q, up_n q]; exact hnw s (by omega))
      rw [show md_th g (P k) d = d - 1 by omega] at this; exact this
    refine pk_eq (mc_o g (P k % 24)) 4 (fun c => idd (cgid (by omega)) (by have := thv 4 1 0 c rfl rfl; omega) (triv (by omega))) (fun n4 => ?_)
    refine pk_eq (mc_o g (P k % 24)) 5 (fun c => ?_) (fun n5 => ?_)
    · obtain ⟨th, et, td⟩ := thv 5 1 2 c rfl rfl
      rw [et, h7 (by omega)]
      refine ya_push (by omega) (ya_push (by omega) ?_)
      have := H1 (triv (by omega)) (mf_up (mf_up nw (4 + (d - 1)) (f (3 + d))) (4 + (d - 1 + 1)) (f (3 + d))) (fun s hs => by
        unfold mf_cg; rw [if_neg n0, if_neg n1, if_neg n2, if_neg n3, if_pos c]
        by_cases q : s = 4 + d
        · have : s = 4 + (d - 1 + 1) := by omega
          rw [this, up_s]
          have : 4 + (d - 1 + 1) = 4 + d := by omega
          rw [this, up_s]
        · rw [up_n (by omega), up_n q]
          by_cases q2 : s = 3 + d
          · have : s = 4 + (d - 1) := by omega
            rw [this, up_s]; exact congrArg f (by omega)
          · rw [up_n (by omega)]; exact hnw s (by omega))
      rw [show md_th g (P k) d = d - 1 + 1 + 1 by omega] at this; exact this
    refine pk_eq (mc_o g (P k % 24)) 6 (fun c => ?_) (fun n6 => ?_)
    · obtain ⟨th, et, td⟩ := thv 6 2 2 c rfl rfl
      rw [et, h7 (by omega), hz (by omega)]
      refine ya_push (by omega) (ya_push (by omega) ?_)
      have := H1 (triv (by omega)) (mf_up (mf_up nw (4 + (d - 2)) (f (3 + d))) (4 + (d - 2 + 1)) (f (2 + d))) (fun s hs => by
        unfold mf_cg; rw [if_neg n0, if_neg n1, if_neg n2, if_neg n3, if_neg n5, if_pos c]
        by_cases q : s = 2 + d
        · have e1 : mf_up (mf_up f (3 + d) (f (2 + d))) (2 + d) (f (3 + d)) s = f (3 + d) := by rw [q, up_s]
          rw [e1, up_n (by omega)]
          have : s = 4 + (d - 2) := by omega
          rw [this, up_s]
        · by_cases q2 : s = 3 + d
          · have e1 : mf_up (mf_up f (3 + d) (f (2 + d))) (2 + d) (f (3 + d)) s = f (2 + d) := by rw [up_n q, q2, up_s]
            rw [e1]
            have : s = 4 + (d - 2 + 1) := by omega
            rw [this, up_s]
          · rw [up_n (by omega), up_n (by omega), up_n q, up_n q2]; exact hnw s (by omega))
      rw [show md_th g (P k) d = d - 2 + 1 + 1 by omega] at this; exact this
    refine pk_eq (mc_o g (P k % 24)) 7 (fun c => ?_) (fun n7 => ?_)
    · obtain ⟨th, et, td⟩ := thv 7 2 1 c rfl rfl
      have a1 := f90 (3 + d)
      have a2 := f90 (2 + d)
      rw [et, h7 (by omega), hz (by omega)]
      refine ya_push (v := 1) (by omega) (pk_eq (f (3 + d)) 1 (fun q => pk_eq (f (2 + d)) 1 (fun q2 => ?_) (fun q2 => H0 (fun z => q2 (z.2.1 c).2) _ _)) (fun q => H0 (fun z => q (z.2.1 c).1) _ _))
      have nd : mf_nd g m P k d f := by
        unfold mf_nd
        exact ⟨fun z => by omega, fun _ => ⟨q, q2⟩, fun z => by omega, fun z => by omega, fun z => by omega, fun z => by omega, fun z => by omega, fun z => by omega⟩
      have := H1 nd (mf_up nw (4 + (d - 2)) 1) (fun s hs => by
        rw [cgid (by omega)]
        by_cases w : s = 2 + d
        · have : s = 4 + (d - 2) := by omega
          rw [this, up_s, ← this, w]; exact q2.symm
        · rw [up_n (by omega)]; exact hnw s (by omega))
      rw [show md_th g (P k) d = d - 2 + 1 by omega] at this; exact this
    refine pk_eq (mc_o g (P k % 24)) 8 (fun c => ?_) (fun n8 => ?_)
    · obtain ⟨th, et, td⟩ := thv 8 0 1 c rfl rfl
      rw [et]
      have e4 : (4 : Int32) + nI (d - 0) = nI (4 + d) := nI_add 4 d
      have ndiff : mf_nd g m P k d f ↔ ∀ i, i < d → f (4 + i) ≠ 11 + k := by
        unfold mf_nd
        exact ⟨fun z => z.2.2.1 c, fun z => ⟨fun z => by omega, fun z => by omega, fun _ => z, fun z => by omega, fun z => by omega, fun z => by omega, fun z => by omega, fun z => by omega⟩⟩
      have B : ∀ e s, s + e = 4 + d → 4 ≤ s → ∀ nw1 : Nat → Nat, (∀ j, j < 4 → nw1 j = if f j = 11 + k then 0 else f j) → (∀ j, 4 ≤ j → nw1 j = nw j) → (∀ i, 4 + i < s → f (4 + i) ≠ 11 + k) → wY_does_321 post (nI (11 + k)) (nI (mc_cc g)) (nI (mc_hc g)) (nI m) f_there f_typed f_wrongNumber f_wrongPlace (nI (d - 0)) f_why f_height f_objects f_line f_begun f_last f_end (ar (mc_p g)) (ar (mc_e g)) (ar (mc_o g)) (mc_r g) (ar (mc_f g)) (ar (mc_t g)) (ar (mc_g g)) (ar (mc_k g)) (ar pl) a_heights a_gone a_worst a_frames a_maps (ar hi) a_known a_mapped (ar nw1) a_sorts a_ints a_classes a_ready (e + 1) (nI s) := by
        intro e
        induction e with
        | zero =>
          intro s hs h4 nw1 a b no
          refine pk_le (4 + d) s (fun _ => ?_) (fun c => by omega) e4
          refine ya_push (by omega) ?_
          have := H1 (ndiff.mpr (fun i hi => no i (by omega))) (mf_up nw1 (4 + d) (11 + k)) (fun j hj => by
            unfold mf_cg; rw [if_neg n0, if_neg n1, if_neg n2, if_neg n3, if_neg n5, if_neg n6, if_pos c]
            by_cases q : j = 4 + d
            · subst q; rw [up_s, up_s]
            · rw [up_n q, up_n q]
              by_cases q2 : j < 4
              · exact a j q2
              · rw [b j (by omega), hnw j (by omega)]
                have := no (j - 4) (by omega)
                rw [show 4 + (j - 4) = j by omega] at this
                rw [if_neg this])
          rw [show md_th g (P k) d = d + 1 by omega] at this; exact this
        | succ e ih =>
          intro s hs h4 nw1 a b no
          have f9 := f90 s
          refine pk_le (4 + d) s (fun c => by omega) (fun _ => ⟨vp_in_nI (by omega) (by omega), ?_⟩) e4
          rw [ar_at _ (by omega), b s h4, hnw s (by omega)]
          refine pk_eq (f s) (11 + k) (fun q => H0 (fun z => ?_) _ _) (fun q => nm_r (nI_1 s) (ih (s + 1) (by omega) (by omega) nw1 a b (fun i hi => ?_)))
          · have := ndiff.mp z (s - 4) (by omega)
            rw [show 4 + (s - 4) = s by omega] at this
            exact this q
          · by_cases w : 4 + i = s
            · rw [w]; exact q
            · exact no i (by omega)
      have A : ∀ e s, s + e = 4 → ∀ nw1 : Nat → Nat, (∀ j, j < s → nw1 j = if f j = 11 + k then 0 else f j) → (∀ j, s ≤ j → nw1 j = nw j) → wY_does_286 post (nI (11 + k)) (nI (mc_cc g)) (nI (mc_hc g)) (nI m) f_there f_typed f_wrongNumber f_wrongPlace (nI (d - 0)) f_why f_height f_objects f_line f_begun f_last f_end (e + 1) (nI s) (ar (mc_p g)) (ar (mc_e g)) (ar (mc_o g)) (mc_r g) (ar (mc_f g)) (ar (mc_t g)) (ar (mc_g g)) (ar (mc_k g)) (ar pl) a_heights a_gone a_worst a_frames a_maps (ar hi) a_known a_mapped (ar nw1) a_sorts a_ints a_classes a_ready := by
        intro e
        induction e with
        | zero =>
          intro s hs nw1 a b
          exact pk_le 4 s (fun _ => ⟨d + 1, B d 4 (by omega) (by omega) nw1 (fun j hj => a j (by omega)) (fun j hj => b j (by omega)) (fun i hi => by omega)⟩) (fun c => by omega)
        | succ e ih =>
          intro s hs nw1 a b
          have f9 := f90 s
          refine pk_le 4 s (fun c => by omega) (fun _ => ⟨vp_in_nI (by omega) (by omega), ?_⟩)
          rw [ar_at _ (by omega), b s (Nat.le_refl _), hnw s (by omega)]
          refine pk_eq (f s) (11 + k) (fun q => ⟨vp_in_nI (by omega) (by omega), nm_r (ar_ui nw1 0 (by omega)) (nm_r (nI_1 s) (ih (s + 1) (by omega) _ (fun j hj => ?_) (fun j hj => ?_)))⟩) (fun q => nm_r (nI_1 s) (ih (s + 1) (by omega) nw1 (fun j hj => ?_) (fun j hj => b j (by omega))))
          · by_cases w : j = s
            · subst w; rw [up_s, if_pos q]
            · rw [up_n w]; exact a j (by omega)
          · rw [up_n (by omega)]; exact b j (by omega)
          · by_cases w : j = s
            · subst w; rw [b j (Nat.le_refl _), hnw j (by omega), if_neg q]
            · exact a j (by omega)
      exact ⟨5, A 4 0 rfl nw (fun j hj => by omega) (fun j _ => rfl)⟩
    refine pk_eq (mc_o g (P k % 24)) 9 (fun c => ?_) (fun n9 => ?_)
    · obtain ⟨th, et, td⟩ := thv 9 1 0 c rfl rfl
      rw [et, h7 (by omega)]
      refine ya_begun hG hM Y hpl (by omega) (f90 _) f90 (fun s hs => hnw s (by omega)) (fun q nw1 h1 => ⟨nb1, ?_⟩) (fun q => ⟨nb0, H0 (fun z => q (z.2.2.2.1 c)) _ _⟩)
      have nd : mf_nd g m P k d f := by
        unfold mf_nd
        exact ⟨fun z => by omega, fun z => by omega, fun z => by omega, fun _ => q, fun z => by omega, fun z => by omega, fun z => by omega, fun z => by omega⟩
      have := H1 nd nw1 (fun s hs => by
        unfold mf_cg; rw [if_neg n0, if_neg n1, if_neg n2, if_neg n3, if_neg n5, if_neg n6, if_neg n8, if_pos c]
        exact h1 s (by omega))
      rw [show md_th g (P k) d = d - 1 by omega] at this; exact this
    refine pk_eq (mc_o g (P k % 24)) 10 (fun c => ?_) (fun n10 => ?_)
    · obtain ⟨th, et, td⟩ := thv 10 1 1 c rfl rfl
      have ha := mn_lim8 hG (i := P k % 24) (Or.inr (Or.inl c))
      have e3 : (3 : Int32) + nI (mc_a g (P k % 24)) = nI (3 + mc_a g (P k % 24)) := nI_add 3 _
      rw [et, h7 (by omega), ha.2, e3]
      refine ya_push (by omega) (ya_isR (f90 _) (fun z => ⟨nb1, ?_⟩) (fun z => ⟨nb0, H0 (fun y => z ((refs (by omega)).mp y)) _ _⟩))
      have := H1 ((refs (by omega)).mpr z) (mf_up nw (4 + (d - 1)) (3 + mc_a g (P k % 24))) (fun s hs => by
        unfold mf_cg; rw [if_neg n0, if_neg n1, if_neg n2, if_neg n3, if_neg n5, if_neg n6, if_neg n8, if_neg n9, if_pos c]
        by_cases q : s = 3 + d
        · have e1 : mf_up f (3 + d) (3 + mc_a g (P k % 24)) s = 3 + mc_a g (P k % 24) := by rw [q, up_s]
          rw [e1]
          have : s = 4 + (d - 1) := by omega
          rw [this, up_s]
        · rw [up_n (by omega), up_n q]; exact hnw s (by omega))
      rw [show md_th g (P k) d = d - 1 + 1 by omega] at this; exact this
    refine pk_eq (mc_o g (P k % 24)) 11 (fun c => s381 (by omega) (thv 11 1 0 c rfl rfl).2.1 (by have := thv 11 1 0 c rfl rfl; omega)) (fun n11 => ?_)
    refine pk_eq (mc_o g (P k % 24)) 12 (fun c => idd (cgid (by omega)) (by have := thv 12 0 0 c rfl rfl; omega) (triv (by omega))) (fun n12 => ?_)
    refine pk_eq (mc_o g (P k % 24)) 13 (fun c => ?_) (fun n13 => ?_)
    · obtain ⟨th, et, td⟩ := thv 13 1 0 c rfl rfl
      have a1 := f90 (3 + d)
      rw [h7 (by omega)]
      refine pk_eq (f (3 + d)) 1 (fun q => idd (cgid (by omega)) (by omega) ?_) (fun q => H0 (fun z => q (z.2.2.2.2.2.2.1 c)) _ _)
      unfold mf_nd
      exact ⟨fun z => by omega, fun z => by omega, fun z => by omega, fun z => by omega, fun z => by omega, fun z => by omega, fun _ => q, fun z => by omega⟩
    refine pk_eq (mc_o g (P k % 24)) 14 (fun c => s404 (by omega) (thv 14 1 0 c rfl rfl).2.1 (by have := thv 14 1 0 c rfl rfl; omega)) (fun n14 => ?_)
    refine pk_eq (mc_o g (P k % 24)) 15 (fun c => ?_) (fun n15 => ?_)
    · obtain ⟨th, et, td⟩ := thv 15 0 1 c rfl rfl
      have e51 : (51 : Int32) + nI k = nI (51 + k) := nI_add 51 k
      rw [et, e51]
      refine ya_push (by omega) (put _ et (by omega) ?_ (triv (by omega)))
      unfold mf_cg; rw [if_neg n0, if_neg n1, if_neg n2, if_neg n3, if_neg n5, if_neg n6, if_neg n8, if_neg n9, if_neg n10, if_pos c]
    refine pk_eq (mc_o g (P k % 24)) 16 (fun c => ?_) (fun n16 => ?_)
    · obtain ⟨th, et, td⟩ := thv 16 0 0 c rfl rfl
      have ha := mn_lim4 hG (i := P k % 24) (Or.inr (Or.inr c))
      have hn : 0 < md_n (P k) := Nat.pos_of_ne_zero (fun z => f5 ⟨c, z⟩)
      obtain ⟨j, hj, ej⟩ := mg_cl hG hM Y hk hn
      have hK : ∀ j, j < m → pl j < 1327104 := fun j hj => by rw [hpl j hj]; exact md_Vlt hcc (mg_V hG hM Y hj)
      have fa := f90 (mc_a g (P k % 24))
      refine ya_cl hcc v hn ?_
      rw [ha.2, ar_at _ (by omega), hnw _ (by omega)]
      refine ⟨vp_in_nI (by omega) (by omega), ya_num (by omega) hK (by rw [← ej, ← hpl j hj]; exact hK j hj) (fun i hi ei => ?_) (fun no => absurd ((hpl j hj).trans ej) (no j hj))⟩
      have eij : i = j := ml_inj Y.2.1 _ _ hi hj ((hpl i hi).symm.trans (ei.trans ej.symm))
      subst eij
      have ix : mf_ix P m (md_cl (P k)) = i := by rw [← ej]; exact mf_ix_eq m i Y.2.1 hj
      have e51 : (51 : Int32) + nI i = nI (51 + i) := nI_add 51 i
      rw [e51]
      refine pk_eq (f (mc_a g (P k % 24))) (51 + i) (fun q => idd (cgid (by omega)) (by omega) ?_) (fun q => H0 (fun z => q ?_) _ _)
      · unfold mf_nd
        exact ⟨fun z => by omega, fun z => by omega, fun z => by omega, fun z => by omega, fun z => by omega, fun z => by omega, fun z => by omega, fun _ => by rw [ix]; exact q⟩
      · have := z.2.2.2.2.2.2.2 c
        rw [ix] at this; exact this
    refine pk_eq (mc_o g (P k % 24)) 17 (fun c => idd (cgid (by omega)) (by have := thv 17 0 0 c rfl rfl; omega) (triv (by omega))) (fun n17 => ?_)
    refine pk_eq (mc_o g (P k % 24)) 18 (fun c => s381 (by omega) (thv 18 1 0 c rfl rfl).2.1 (by have := thv 18 1 0 c rfl rfl; omega)) (fun n18 => ?_)
    refine pk_eq (mc_o g (P k % 24)) 19 (fun c => s404 (by omega) (thv 19 1 0 c rfl rfl).2.1 (by have := thv 19 1 0 c rfl rfl; omega)) (fun n19 => by omega)
  have S50 : ∀ x7 : Nat, (0 < md_tk (mc_o g (P k % 24)) → x7 = f (3 + d)) → ∀ h, h = (if 0 < md_tk (mc_o g (P k % 24)) then d - 1 else d) → wY_does_50 post (nI k) (nI (P k)) (nI (mc_o g (P k % 24))) (mc_r g (P k % 24)) (nI (11 + k)) (nI x7) (nI (mc_cc g)) (nI (mc_hc g)) (nI m) f_there f_typed f_wrongNumber f_wrongPlace (nI h) f_why f_height f_objects f_line f_begun f_last f_end (ar (mc_p g)) (ar (mc_e g)) (ar (mc_o g)) (mc_r g) (ar (mc_f g)) (ar (mc_t g)) (ar (mc_g g)) (ar (mc_k g)) (ar pl) a_heights a_gone a_worst a_frames a_maps (ar hi) a_known a_mapped (ar nw) a_sorts a_ints a_classes a_ready := by
    intro x7 h7 h eh
    unfold wY_does_50
    refine ya_tk h20 (pk_le (md_tk (mc_o g (P k % 24))) 1 (fun c => ?_) (fun c => ?_))
    · have : h = d - md_tk (mc_o g (P k % 24)) := by
        rw [eh]; split <;> omega
      rw [this]
      exact S69 x7 0 h7 (fun z => by omega)
    · have eh' : h = d - 1 := by rw [eh, if_pos (by omega)]
      rw [eh']
      refine ya_pull (by omega) (by omega) ?_
      have : d - 1 - 1 = d - md_tk (mc_o g (P k % 24)) := by omega
      rw [this]
      refine S69 x7 (nw (3 + (d - 1))) h7 (fun _ => ?_)
      rw [show 3 + (d - 1) = 2 + d by omega]; exact f2 (by omega)
  unfold wpY_does
  dsimp only
  refine ⟨vp_in_nI (by omega) (by omega), nm_r (e' := nI (P k)) (by rw [ar_at _ (by omega), hpl k hk]) (ya_ins (by omega) ⟨vp_in_nI (by omega) (by omega), nm_r (ar_at _ (by omega)) ⟨vp_in_nI (by omega) (by omega), nm_e (nm_r (nI_add 11 k) (ya_tk h20 ?_))⟩⟩)⟩
  rw [nI_clamp (show P k % 24 < 2 ^ 31 by omega)]
  refine pk_le (md_tk (mc_o g (P k % 24))) 0 (fun c => ?_) (fun c => ?_)
  · exact S50 0 (fun z => by omega) d (by rw [if_neg (by omega)])
  · refine ya_pull (by omega) (by omega) (S50 (nw (3 + d)) (fun _ => f3 (by omega)) (d - 1) (by rw [if_pos (by omega)]))
end
end
section
/-! ===== the reference: finding types ===== -/
section
variable {f_length f_handlers f_many f_there f_typed f_wrongNumber f_wrongPlace f_size f_why f_height f_objects f_line f_begun f_last f_end : Int32} {a_parent a_begin a_op a_arg a_from a_to a_target a_caught a_places a_heights a_gone a_worst a_frames a_maps a_high a_known a_mapped a_now a_sorts a_ints a_classes a_ready : Nat → Int32}
variable {g : md_C} {m : Nat} {P D pl hi : Nat → Nat}
theorem mf_jj (t : Nat) : mt_j g t t = t := by unfold mt_j; rw [if_pos rfl]
theorem mf_hs_keep {k : Nat} {z : mf_Z} (kn : z.1.1 k = true) : ∀ x s, s < 4 → (mf_hs g m P k (z.1.2 k) x z).1.2 k s = z.1.2 k s := by
  intro x
  induction x with
  | zero => intro s _; rfl
  | succ x ih =>
    intro s hs
    simp only [mf_hs]
    split
    · show (if k = mf_ix P m (md_at (P k) (mc_g g x)) ∧ s < 5 then mf_nw g (mf_hs g m P k (z.1.2 k) x z).1 (mf_ix P m (md_at (P k) (mc_g g x))) (mf_hf g (z.1.2 k) x) s else (mf_hs g m P k (z.1.2 k) x z).1.2 k s) = z.1.2 k s
      by_cases q : k = mf_ix P m (md_at (P k) (mc_g g x)) ∧ s < 5
      · rw [if_pos q, ← q.1]
        unfold mf_nw
        rw [if_pos (mn_hsk kn x), ih s hs]
        have : mf_hf g (z.1.2 k) x s = z.1.2 k s := up_n (by omega)
        rw [this]; exact mf_jj _
      · rw [if_neg q]; exact ih s hs
    · exact ih s hs
theorem ya_throw {post : Int32 → SY → Prop} {T : mf_T} {k x : Nat} {hf fd nw f : Nat → Nat} {j : Nat} (hG : md_G g) (hM : md_M g) (Y : ml_Y g m P D) (hpl : ∀ k, k < m → pl k = P k) (hhi : ∀ k, k < m → hi k = D k) (hk : k < m) (hx : x < 4) (kn : T.1 k = true) (A : mf_A m D T hf fd) (T90 : mn_90 T) (f90 : ∀ s, f s ≤ 90) (hf4 : ∀ s, s < 4 → T.2 k s = f s) (hj : j < m) (ej : P j = md_at (P k) (mc_g g x)) (eD : D j = 1) (H : ∀ hf' fd' nw' : Nat → Nat, mf_A m D (mf_gv g T j 5 (mf_hf g f x)) hf' fd' → post (mf_b (mf_fl g T j 5 (mf_hf g f x))) ((nI (mc_cc g)), (nI (mc_hc g)), (nI m), f_there, f_typed, f_wrongNumber, f_wrongPlace, 1, f_why, f_height, f_objects, f_line, f_begun, f_last, f_end, (ar (mc_p g)), (ar (mc_e g)), (ar (mc_o g)), (mc_r g), (ar (mc_f g)), (ar (mc_t g)), (ar (mc_g g)), (ar (mc_k g)), (ar pl), a_heights, a_gone, a_worst, (ar fd'), a_maps, (ar hi), (ar hf'), a_mapped, (ar nw'), a_sorts, a_ints, a_classes, a_ready)) : wpY_throwTo post ((nI (mc_cc g)), (nI (mc_hc g)), (nI m), f_there, f_typed, f_wrongNumber, f_wrongPlace, f_size, f_why, f_height, f_objects, f_line, f_begun, f_last, f_end, (ar (mc_p g)), (ar (mc_e g)), (ar (mc_o g)), (mc_r g), (ar (mc_f g)), (ar (mc_t g)), (ar (mc_g g)), (ar (mc_k g)), (ar pl), a_heights, a_gone, a_worst, (ar fd), a_maps, (ar hi), (ar hf), a_mapped, (ar nw), a_sorts, a_ints, a_classes, a_ready) (nI k) (nI x) := by
  have hm := Y.1
  have hcc := hG.1
  have hPl : ∀ k, k < m → P k < 1327104 := fun k hk => md_Vlt hcc (mg_V hG hM Y hk)
  have hDs : ∀ q, q < m → D q ≤ 6 := fun q hq => mg_D hG hM Y hq
  have hb := hG.2.2.2.2.1 x
  unfold wpY_throwTo
  dsimp only
  refine ya_takeF (by omega) (hDs k hk) (hhi k hk) (fun nw1 h1 => ⟨vp_in_nI (by omega) (by omega), ?_⟩)
  have e3 : upd (ar nw1) 4 (3 + ar (mc_k g) (nI x).toNatClampNeg) = ar (mf_up nw1 4 (3 + mc_k g x)) := by
    rw [ar_at _ (by omega)]
    show upd (ar nw1) 4 (nI 3 + nI (mc_k g x)) = _
    rw [nI_add, ar_up]
  refine nm_r e3 ⟨vp_in_nI (by omega) (by omega), vp_in_nI (by omega) (by omega), ?_⟩
  dsimp only
  rw [ar_at _ (by omega), ar_at _ (by omega), hpl k hk]
  have := hPl k hk
  refine ya_at (by omega) ?_
  refine ya_give (d := 1) (f := mf_hf g f x) hG hm hj hpl hPl Y.2.1 ej eD.symm hDs A T90 (mn_h90 hG f90 x) (fun s hs => ?_) (fun hf' fd' A' => ⟨ya_nb _, H hf' fd' _ A'⟩)
  unfold mf_hf
  by_cases q : s = 4
  · subst q; rw [up_s, up_s]
  · rw [up_n q, up_n q, h1 s (by omega), A.2 k hk kn s (by omega)]; exact hf4 s (by omega)
theorem ya_led2 {post : Int32 → Prop} (hG : md_G g) (hM : md_M g) (Y : ml_Y g m P D) {k : Nat} (hk : k < m) (hs : ∀ q, md_L g (P k) = some q → post (nI q)) (hn : md_L g (P k) = none → post (-1)) : wpY_led post ((nI (mc_cc g)), (nI (mc_hc g)), f_many, f_there, f_typed, f_wrongNumber, f_wrongPlace, f_size, f_why, f_height, f_objects, f_line, f_begun, f_last, f_end, (ar (mc_p g)), (ar (mc_e g)), (ar (mc_o g)), (mc_r g), (ar (mc_f g)), (ar (mc_t g)), (ar (mc_g g)), (ar (mc_k g)), a_places, a_heights, a_gone, a_worst, a_frames, a_maps, a_high, a_known, a_mapped, a_now, a_sorts, a_ints, a_classes, a_ready) (nI (P k)) := by
  obtain ⟨_, _, _, _, f5⟩ := mg_W Y hk
  exact ya_led hG (mg_V hG hM Y hk) (fun o => Nat.pos_of_ne_zero (fun z => f5 ⟨o, z⟩)) hs hn
theorem ya_step {post : Int32 → SY → Prop} {J33 : _} {J41 : _} {T : mf_T} {gr : Bool} {k : Nat} {hf fd nw : Nat → Nat} (hG : md_G g) (hM : md_M g) (Y : ml_Y g m P D) (hpl : ∀ k, k < m → pl k = P k) (hhi : ∀ k, k < m → hi k = D k) (hk : k < m) (kn : T.1 k = true) (A : mf_A m D T hf fd) (T90 : mn_90 T) (H0 : mf_st g m P D k (T, gr) = none → ∀ (hf' fd' nw' : Nat → Nat) (sz : Int32), post 0 ((nI (mc_cc g)), (nI (mc_hc g)), (nI m), f_there, f_typed, f_wrongNumber, f_wrongPlace, sz, f_why, f_height, f_objects, f_line, f_begun, f_last, f_end, (ar (mc_p g)), (ar (mc_e g)), (ar (mc_o g)), (mc_r g), (ar (mc_f g)), (ar (mc_t g)), (ar (mc_g g)), (ar (mc_k g)), (ar pl), a_heights, a_gone, a_worst, (ar fd'), a_maps, (ar hi), (ar hf'), a_mapped, (ar nw'), a_sorts, a_ints, a_classes, a_ready)) (H1 : ∀ y, mf_st g m P D k (T, gr) = some y → ∀ (hf' fd' nw' : Nat → Nat) (sz : Int32), mf_A m D y.1 hf' fd' → J41 (mf_b y.2) (nI (k + 1)) (nI (mc_cc g)) (nI (mc_hc g)) (nI m) f_there f_typed f_wrongNumber f_wrongPlace sz f_why f_height f_objects f_line f_begun f_last f_end (ar (mc_p g)) (ar (mc_e g)) (ar (mc_o g)) (mc_r g) (ar (mc_f g)) (ar (mc_t g)) (ar (mc_g g)) (ar (mc_k g)) (ar pl) a_heights a_gone a_worst (ar fd') a_maps (ar hi) (ar hf') a_mapped (ar nw') a_sorts a_ints a_classes a_ready) : ∃ n, wY_findTypes_63 post J33 J41 (nI k) n (mf_b gr) 0 (nI (mc_cc g)) (nI (mc_hc g)) (nI m) f_there f_typed f_wrongNumber f_wrongPlace f_size f_why f_height f_objects f_line f_begun f_last f_end (ar (mc_p g)) (ar (mc_e g)) (ar (mc_o g)) (mc_r g) (ar (mc_f g)) (ar (mc_t g)) (ar (mc_g g)) (ar (mc_k g)) (ar pl) a_heights a_gone a_worst (ar fd) a_maps (ar hi) (ar hf) a_mapped (ar nw) a_sorts a_ints a_classes a_ready := by
  have hm := Y.1
  have hcc := hG.1
  have hhc := hG.2.1
  have v := mg_V hG hM Y hk
  have hPl : ∀ k, k < m → P k < 1327104 := fun k hk => md_Vlt hcc (mg_V hG hM Y hk)
  have hpk := hPl k hk
  have hDs : ∀ q, q < m → D q ≤ 6 := fun q hq => mg_D hG hM Y hq
  have th6 := (mg_th Y hk).2
  have L : ∀ e x, x + e = mc_hc g → ∀ (Z : mf_Z) (hf fd nw : Nat → Nat) (sz : Int32), Z = mf_hs g m P k (T.2 k) x (T, gr) → mf_A m D Z.1 hf fd → wY_findTypes_63 post J33 J41 (nI k) (e + 1) (mf_b Z.2) (nI x) (nI (mc_cc g)) (nI (mc_hc g)) (nI m) f_there f_typed f_wrongNumber f_wrongPlace sz f_why f_height f_objects f_line f_begun f_last f_end (ar (mc_p g)) (ar (mc_e g)) (ar (mc_o g)) (mc_r g) (ar (mc_f g)) (ar (mc_t g)) (ar (mc_g g)) (ar (mc_k g)) (ar pl) a_heights a_gone a_worst (ar fd) a_maps (ar hi) (ar hf) a_mapped (ar nw) a_sorts a_ints a_classes a_ready := by
    intro e
    induction e with
    | zero =>
      intro x hx Z hf fd nw sz eZ A
      have ex : x = mc_hc g := by omega
      subst ex
      refine pk_le (mc_hc g) (mc_hc g) (fun _ => ?_) (fun c => by omega)
      have kZ : Z.1.1 k = true := by rw [eZ]; exact mn_hsk kn _
      have Z90 : mn_90 Z.1 := by rw [eZ]; exact mn_hs90 hG T90 (T90 k) _
      refine ya_takeF (by omega) (hDs k hk) (hhi k hk) (fun nw1 h1 => ?_)
      refine ya_does hG hM Y hpl hk rfl (Z90 k) (fun s hs => (h1 s hs).trans (A.2 k hk kZ s hs)) (fun nd nw2 h2 => xb_1 ⟨vp_in_nI (by omega) (by omega), ?_⟩) (fun nd sz nw2 => xb_0 (H0 ?_ hf fd nw2 sz))
      · have c90 := mn_cg90 (P := P) hG (show k < 40 by omega) (Z90 k) nd
        have st : mf_st g m P D k (T, gr) = some (mf_gj g m P k (4 + md_th g (P k) (D k)) (mf_cg g P k (D k) (Z.1.2 k)) (mf_gb g P k (4 + md_th g (P k) (D k)) (mf_cg g P k (D k) (Z.1.2 k)) Z)) := by
          unfold mf_st
          dsimp only
          rw [← eZ, if_pos nd]
        have jmp : ∀ (W : mf_Z) (hf fd : Nat → Nat) (x8 : Int32), W = mf_gb g P k (4 + md_th g (P k) (D k)) (mf_cg g P k (D k) (Z.1.2 k)) Z → mf_A m D W.1 hf fd → mn_90 W.1 → ((md_L g (P k) = none ∧ x8 = -1) ∨ ∃ q, md_L g (P k) = some q ∧ x8 = nI q) → wY_findTypes_154 post J33 J41 (mf_b W.2) (nI k) x8 (nI (mc_cc g)) (nI (mc_hc g)) (nI m) f_there f_typed f_wrongNumber f_wrongPlace (nI (md_th g (P k) (D k))) f_why f_height f_objects f_line f_begun f_last f_end (ar (mc_p g)) (ar (mc_e g)) (ar (mc_o g)) (mc_r g) (ar (mc_f g)) (ar (mc_t g)) (ar (mc_g g)) (ar (mc_k g)) (ar pl) a_heights a_gone a_worst (ar fd) a_maps (ar hi) (ar hf) a_mapped (ar nw2) a_sorts a_ints a_classes a_ready := by
          intro W hf fd x8 eW A W90 h8
          unfold wY_findTypes_154
          rw [← eW] at st
          rcases h8 with ⟨hq, rfl⟩ | ⟨q, hq, rfl⟩
          · refine xb_m (nm_r (nI_1 k) ?_)
            unfold mf_gj at st
            rw [hq] at st
            exact H1 _ st hf fd nw2 _ A
          · obtain ⟨j, hj, ej, eD⟩ := mg_j Y hk hq
            have ix : mf_ix P m q = j := by rw [← ej]; exact mf_ix_eq m j Y.2.1 hj
            have := hPl j hj
            refine xb_n (by omega) (ya_give hG hm hj hpl hPl Y.2.1 ej eD.symm hDs A W90 c90 h2 (fun hf' fd' A' => ?_))
            rw [yb_or]
            unfold mf_gj at st
            rw [hq] at st
            dsimp only at st
            rw [ix] at st
            exact nm_e (nm_r (nI_1 k) (H1 _ st hf' fd' nw2 _ A'))
        rw [ar_at _ (by omega), hpl k hk]
        refine ya_bh hG v (fun b => ⟨vp_in_nI (by omega) (by omega), ?_⟩) (fun b => ⟨vp_in_nI (by omega) (by omega), ?_⟩)
        · obtain ⟨hk1, eP, eD⟩ := mg_b Y hk b
          have go : ∀ x8 : Int32, ((md_L g (P k) = none ∧ x8 = -1) ∨ ∃ q, md_L g (P k) = some q ∧ x8 = nI q) → wpY_give (fun r_281 u => match u with | (f_length, f_handlers, f_many, f_there, f_typed, f_wrongNumber, f_wrongPlace, f_size, f_why, f_height, f_objects, f_line, f_begun, f_last, f_end, a_parent, a_begin, a_op, a_arg, a_from, a_to, a_target, a_caught, a_places, a_heights, a_gone, a_worst, a_frames, a_maps, a_high, a_known, a_mapped, a_now, a_sorts, a_ints, a_classes, a_ready) => ∀ x1_319, x1_319 = mf_b Z.2 ||| r_281 → wY_findTypes_154 post J33 J41 x1_319 (nI k) x8 f_length f_handlers f_many f_there f_typed f_wrongNumber f_wrongPlace f_size f_why f_height f_objects f_line f_begun f_last f_end a_parent a_begin a_op a_arg a_from a_to a_target a_caught a_places a_heights a_gone a_worst a_frames a_maps a_high a_known a_mapped a_now a_sorts a_ints a_classes a_ready) ((nI (mc_cc g)), (nI (mc_hc g)), (nI m), f_there, f_typed, f_wrongNumber, f_wrongPlace, (nI (md_th g (P k) (D k))), f_why, f_height, f_objects, f_line, f_begun, f_last, f_end, (ar (mc_p g)), (ar (mc_e g)), (ar (mc_o g)), (mc_r g), (ar (mc_f g)), (ar (mc_t g)), (ar (mc_g g)), (ar (mc_k g)), (ar pl), a_heights, a_gone, a_worst, (ar fd), a_maps, (ar hi), (ar hf), a_mapped, (ar nw2), a_sorts, a_ints, a_classes, a_ready) (nI (P k + 1)) := by
            intro x8 h8
            refine ya_give hG hm hk1 hpl hPl Y.2.1 eP eD.symm hDs A Z90 c90 h2 (fun hf' fd' A' => ?_)
            dsimp only
            rw [yb_or]
            have eW : (mf_gv g Z.1 (k + 1) (4 + md_th g (P k) (D k)) (mf_cg g P k (D k) (Z.1.2 k)), Z.2 || mf_fl g Z.1 (k + 1) (4 + md_th g (P k) (D k)) (mf_cg g P k (D k) (Z.1.2 k))) = mf_gb g P k (4 + md_th g (P k) (D k)) (mf_cg g P k (D k) (Z.1.2 k)) Z := by
              unfold mf_gb mf_g1
              rw [if_pos b]
            exact nm_e (jmp _ hf' fd' x8 eW A' (by rw [eW]; unfold mf_gb; rw [if_pos b]; exact mn_g90 hG.2.2.2.2.2.1 Z90 c90) h8)
          refine ya_led2 hG hM Y hk (fun q hq => xb_n (by omega) (go _ (Or.inr ⟨q, hq, rfl⟩))) (fun hq => xb_n (by omega) (go _ (Or.inl ⟨hq, rfl⟩)))
        · have eW : Z = mf_gb g P k (4 + md_th g (P k) (D k)) (mf_cg g P k (D k) (Z.1.2 k)) Z := by
            unfold mf_gb; rw [if_neg b]
          refine ya_led2 hG hM Y hk (fun q hq => xb_m (jmp Z hf fd _ eW A Z90 (Or.inr ⟨q, hq, rfl⟩))) (fun hq => xb_m (jmp Z hf fd _ eW A Z90 (Or.inl ⟨hq, rfl⟩)))
      · unfold mf_st
        dsimp only
        rw [← eZ, if_neg nd]
    | succ e ih =>
      intro x hx Z hf fd nw sz eZ A
      refine pk_le (mc_hc g) x (fun c => by omega) (fun _ => ⟨vp_in_nI (by omega) (by omega), ?_⟩)
      rw [ar_at _ (by omega), hpl k hk]
      refine ya_cov hG (by omega) (by omega) (fun cv => xb_1 ?_) (fun cv => xb_0 ?_)
      · have kZ : Z.1.1 k = true := by rw [eZ]; exact mn_hsk kn _
        have Z90 : mn_90 Z.1 := by rw [eZ]; exact mn_hs90 hG T90 (T90 k) _
        obtain ⟨j, hj, ej, eD⟩ := mg_h Y hk (by omega) cv
        have ix : mf_ix P m (md_at (P k) (mc_g g x)) = j := by rw [← ej]; exact mf_ix_eq m j Y.2.1 hj
        refine ya_throw (f := T.2 k) hG hM Y hpl hhi hk (by omega) kZ A Z90 (T90 k) (fun s hs => by rw [eZ]; exact mf_hs_keep (z := (T, gr)) kn x s hs) hj ej eD (fun hf' fd' nw' A' => ?_)
        rw [yb_or]
        have eW : (mf_gv g Z.1 j 5 (mf_hf g (T.2 k) x), Z.2 || mf_fl g Z.1 j 5 (mf_hf g (T.2 k) x)) = mf_hs g m P k (T.2 k) (x + 1) (T, gr) := by
          show _ = if md_cv g x (P k) then mf_g1 g (mf_hs g m P k (T.2 k) x (T, gr)) (mf_ix P m (md_at (P k) (mc_g g x))) 5 (mf_hf g (T.2 k) x) else _
          rw [if_pos cv, ← eZ, ix]; rfl
        exact nm_e (nm_r (nI_1 x) (ih (x + 1) (by omega) _ hf' fd' nw' _ eW A'))
      · have eW : Z = mf_hs g m P k (T.2 k) (x + 1) (T, gr) := by
          show _ = if md_cv g x (P k) then mf_g1 g (mf_hs g m P k (T.2 k) x (T, gr)) (mf_ix P m (md_at (P k) (mc_g g x))) 5 (mf_hf g (T.2 k) x) else _
          rw [if_neg cv]; exact eZ
        exact nm_r (nI_1 x) (ih (x + 1) (by omega) Z hf fd nw sz eW A)
  exact ⟨mc_hc g + 1, L (mc_hc g) 0 (by omega) (T, gr) hf fd nw _ rfl A⟩
theorem ya_round {post : Int32 → SY → Prop} {J33 : _} {T0 : mf_T} (hG : md_G g) (hM : md_M g) (Y : ml_Y g m P D) (hpl : ∀ k, k < m → pl k = P k) (hhi : ∀ k, k < m → hi k = D k) (T90 : mn_90 T0) (H0 : mf_rd g m P D m (T0, false) = none → ∀ (hf' fd' nw' : Nat → Nat) (sz : Int32), post 0 ((nI (mc_cc g)), (nI (mc_hc g)), (nI m), f_there, f_typed, f_wrongNumber, f_wrongPlace, sz, f_why, f_height, f_objects, f_line, f_begun, f_last, f_end, (ar (mc_p g)), (ar (mc_e g)), (ar (mc_o g)), (mc_r g), (ar (mc_f g)), (ar (mc_t g)), (ar (mc_g g)), (ar (mc_k g)), (ar pl), a_heights, a_gone, a_worst, (ar fd'), a_maps, (ar hi), (ar hf'), a_mapped, (ar nw'), a_sorts, a_ints, a_classes, a_ready)) (H1 : ∀ y, mf_rd g m P D m (T0, false) = some y → ∀ (hf' fd' nw' : Nat → Nat) (sz : Int32), mf_A m D y.1 hf' fd' → J33 (mf_b y.2) (nI (mc_cc g)) (nI (mc_hc g)) (nI m) f_there f_typed f_wrongNumber f_wrongPlace sz f_why f_height f_objects f_line f_begun f_last f_end (ar (mc_p g)) (ar (mc_e g)) (ar (mc_o g)) (mc_r g) (ar (mc_f g)) (ar (mc_t g)) (ar (mc_g g)) (ar (mc_k g)) (ar pl) a_heights a_gone a_worst (ar fd') a_maps (ar hi) (ar hf') a_mapped (ar nw') a_sorts a_ints a_classes a_ready) : ∀ e k, k + e = m → ∀ (Z : mf_Z) (hf fd nw : Nat → Nat) (sz : Int32), mf_rd g m P D k (T0, false) = some Z → mf_A m D Z.1 hf fd → wY_findTypes_41 post J33 (e + 1) (mf_b Z.2) (nI k) (nI (mc_cc g)) (nI (mc_hc g)) (nI m) f_there f_typed f_wrongNumber f_wrongPlace sz f_why f_height f_objects f_line f_begun f_last f_end (ar (mc_p g)) (ar (mc_e g)) (ar (mc_o g)) (mc_r g) (ar (mc_f g)) (ar (mc_t g)) (ar (mc_g g)) (ar (mc_k g)) (ar pl) a_heights a_gone a_worst (ar fd) a_maps (ar hi) (ar hf) a_mapped (ar nw) a_sorts a_ints a_classes a_ready := by
  have hm := Y.1
  intro e
  induction e with
  | zero =>
    intro k hk Z hf fd nw sz eZ A
    have ek : k = m := by omega
    subst ek
    exact pk_le k k (fun _ => H1 Z eZ hf fd nw sz A) (fun c => by omega)
  | succ e ih =>
    intro k hk Z hf fd nw sz eZ A
    refine pk_le m k (fun c => by omega) (fun _ => ⟨vp_in_nI (by omega) (by omega), ?_⟩)
    rw [ar_at _ (by omega), A.1 k (by omega)]
    have Z90 := mi_rd90 hG hm k _ Z (by omega) eZ T90
    cases kk : Z.1.1 k with
    | false =>
      refine xb_0 (nm_r (nI_1 k) (ih (k + 1) (by omega) Z hf fd nw sz ?_ A))
      simp only [mf_rd]; rw [eZ]; dsimp only; rw [kk]; simp
    | true =>
      refine xb_1 ?_
      have nx : mf_rd g m P D (k + 1) (T0, false) = mf_st g m P D k Z := by
        simp only [mf_rd]; rw [eZ]; dsimp only; rw [kk]; simp
      refine ya_step (T := Z.1) (gr := Z.2) hG hM Y hpl hhi (by omega) kk A Z90 (fun hn hf' fd' nw' sz' => H0 ?_ hf' fd' nw' sz') (fun y hy hf' fd' nw' sz' A' => ih (k + 1) (by omega) y hf' fd' nw' sz' (nx.trans hy) A')
      have := mi_rdn (g := g) (m := m) (P := P) (D := D) e (k + 1) (T0, false) (nx.trans hn)
      rw [show k + 1 + e = m by omega] at this
      exact this
theorem ya_rounds {post : Int32 → SY → Prop} (hG : md_G g) (hM : md_M g) (Y : ml_Y g m P D) (hpl : ∀ k, k < m → pl k = P k) (hhi : ∀ k, k < m → hi k = D k) : ∀ n (T : mf_T) (hf fd nw : Nat → Nat) (sz : Int32), mf_mu m T < n → mn_90 T → mf_A m D T hf fd → (mf_it g m P D n T = none → ∀ (hf' fd' nw' : Nat → Nat) (sz : Int32), post 0 ((nI (mc_cc g)), (nI (mc_hc g)), (nI m), f_there, f_typed, f_wrongNumber, f_wrongPlace, sz, f_why, f_height, f_objects, f_line, f_begun, f_last, f_end, (ar (mc_p g)), (ar (mc_e g)), (ar (mc_o g)), (mc_r g), (ar (mc_f g)), (ar (mc_t g)), (ar (mc_g g)), (ar (mc_k g)), (ar pl), a_heights, a_gone, a_worst, (ar fd'), a_maps, (ar hi), (ar hf'), a_mapped, (ar nw'), a_sorts, a_ints, a_classes, a_ready)) → (∀ T', mf_it g m P D n T = some T' → ∀ (hf' fd' nw' : Nat → Nat) (sz : Int32), mf_A m D T' hf' fd' → post 1 ((nI (mc_cc g)), (nI (mc_hc g)), (nI m), f_there, f_typed, f_wrongNumber, f_wrongPlace, sz, f_why, f_height, f_objects, f_line, f_begun, f_last, f_end, (ar (mc_p g)), (ar (mc_e g)), (ar (mc_o g)), (mc_r g), (ar (mc_f g)), (ar (mc_t g)), (ar (mc_g g)), (ar (mc_k g)), (ar pl), a_heights, a_gone, a_worst, (ar fd'), a_maps, (ar hi), (ar hf'), a_mapped, (ar nw'), a_sorts, a_ints, a_classes, a_ready)) → wY_findTypes_33 post (n + 1) 1 (nI (mc_cc g)) (nI (mc_hc g)) (nI m) f_there f_typed f_wrongNumber f_wrongPlace sz f_why f_height f_objects f_line f_begun f_last f_end (ar (mc_p g)) (ar (mc_e g)) (ar (mc_o g)) (mc_r g) (ar (mc_f g)) (ar (mc_t g)) (ar (mc_g g)) (ar (mc_k g)) (ar pl) a_heights a_gone a_worst (ar fd) a_maps (ar hi) (ar hf) a_mapped (ar nw) a_sorts a_ints a_classes a_ready := by
  intro n
  induction n with
  | zero => intro T hf fd nw sz h; omega
  | succ n ih =>
    intro T hf fd nw sz hmu T90 A H0 H1
    refine xb_1 ⟨m + 1, ?_⟩
    refine ya_round hG hM Y hpl hhi T90 (fun hn => ?_) (fun y hy hf' fd' nw' sz' A' => ?_) m 0 (by omega) (T, false) hf fd nw sz rfl A
    · refine H0 ?_
      simp only [mf_it]; rw [hn]
    · have Q := mg_Qrd hG.2.2.2.2.2.1 Y m _ y (Nat.le_refl _) hy
      have y90 := mi_rd90 hG Y.1 m _ y (Nat.le_refl _) hy T90
      have it : mf_it g m P D (n + 1) T = if y.2 = true then mf_it g m P D n y.1 else some y.1 := by
        simp only [mf_it]; rw [hy]
      cases fy : y.2 with
      | true =>
        rw [fy] at it
        rw [if_pos rfl] at it
        rcases Q.2 fy with z | z
        · cases z
        · have z' : mf_mu m y.1 < mf_mu m T := z
          exact ih y.1 hf' fd' nw' sz' (by omega) y90 A' (fun h => H0 (it.trans h)) (fun T' h => H1 T' (it.trans h))
      | false =>
        rw [fy] at it
        rw [if_neg (by simp)] at it
        exact xb_0 (H1 y.1 it hf' fd' nw' sz' A')
theorem ya_start {post : SY → Prop} {nw : Nat → Nat} (H : ∀ nw' : Nat → Nat, (∀ s, s < 4 → nw' s = mc_e g s) → post ((nI (mc_cc g)), (nI (mc_hc g)), f_many, f_there, f_typed, f_wrongNumber, f_wrongPlace, 0, f_why, f_height, f_objects, f_line, f_begun, f_last, f_end, (ar (mc_p g)), (ar (mc_e g)), (ar (mc_o g)), (mc_r g), (ar (mc_f g)), (ar (mc_t g)), (ar (mc_g g)), (ar (mc_k g)), a_places, a_heights, a_gone, a_worst, a_frames, a_maps, a_high, a_known, a_mapped, (ar nw'), a_sorts, a_ints, a_classes, a_ready)) : wpY_start post ((nI (mc_cc g)), (nI (mc_hc g)), f_many, f_there, f_typed, f_wrongNumber, f_wrongPlace, f_size, f_why, f_height, f_objects, f_line, f_begun, f_last, f_end, (ar (mc_p g)), (ar (mc_e g)), (ar (mc_o g)), (mc_r g), (ar (mc_f g)), (ar (mc_t g)), (ar (mc_g g)), (ar (mc_k g)), a_places, a_heights, a_gone, a_worst, a_frames, a_maps, a_high, a_known, a_mapped, (ar nw), a_sorts, a_ints, a_classes, a_ready) := by
  have L : ∀ e s, s + e = 4 → ∀ fr : Nat → Nat, (∀ t, t < s → fr t = mc_e g t) → wY_start_7 post (nI (mc_cc g)) (nI (mc_hc g)) f_many f_there f_typed f_wrongNumber f_wrongPlace 0 f_why f_height f_objects f_line f_begun f_last f_end (e + 1) (nI s) (ar (mc_p g)) (ar (mc_e g)) (ar (mc_o g)) (mc_r g) (ar (mc_f g)) (ar (mc_t g)) (ar (mc_g g)) (ar (mc_k g)) a_places a_heights a_gone a_worst a_frames a_maps a_high a_known a_mapped (ar fr) a_sorts a_ints a_classes a_ready := by
    intro e
    induction e with
    | zero =>
      intro s hs fr h
      exact pk_le 4 s (fun _ => H fr (fun t ht => h t (by omega))) (fun c => by omega)
    | succ e ih =>
      intro s hs fr h
      refine pk_le 4 s (fun c => by omega) (fun _ => ?_)
      rw [ar_at _ (by omega)]
      refine ⟨vp_in_nI (by omega) (by omega), vp_in_nI (by omega) (by omega), nm_r (ar_ui _ _ (by omega)) (nm_r (nI_1 s) (ih (s + 1) (by omega) _ (fun t ht => ?_)))⟩
      by_cases q : t = s
      · subst q; exact up_s
      · rw [up_n q]; exact h t (by omega)
  unfold wpY_start
  dsimp only
  exact ⟨5, L 4 0 rfl nw (fun t ht => by omega)⟩
theorem ya_find {post : Int32 → SY → Prop} {hf fd nw : Nat → Nat} (hG : md_G g) (hM : md_M g) (Y : ml_Y g m P D) (hpl : ∀ k, k < m → pl k = P k) (hhi : ∀ k, k < m → hi k = D k) (H0 : mf_it g m P D 4000 (mf_T0 g) = none → ∀ (hf' fd' nw' : Nat → Nat) (sz : Int32), post 0 ((nI (mc_cc g)), (nI (mc_hc g)), (nI m), f_there, f_typed, f_wrongNumber, f_wrongPlace, sz, f_why, f_height, f_objects, f_line, f_begun, f_last, f_end, (ar (mc_p g)), (ar (mc_e g)), (ar (mc_o g)), (mc_r g), (ar (mc_f g)), (ar (mc_t g)), (ar (mc_g g)), (ar (mc_k g)), (ar pl), a_heights, a_gone, a_worst, (ar fd'), a_maps, (ar hi), (ar hf'), a_mapped, (ar nw'), a_sorts, a_ints, a_classes, a_ready)) (H1 : ∀ T', mf_it g m P D 4000 (mf_T0 g) = some T' → ∀ (hf' fd' nw' : Nat → Nat) (sz : Int32), mf_A m D T' hf' fd' → post 1 ((nI (mc_cc g)), (nI (mc_hc g)), (nI m), f_there, f_typed, f_wrongNumber, f_wrongPlace, sz, f_why, f_height, f_objects, f_line, f_begun, f_last, f_end, (ar (mc_p g)), (ar (mc_e g)), (ar (mc_o g)), (mc_r g), (ar (mc_f g)), (ar (mc_t g)), (ar (mc_g g)), (ar (mc_k g)), (ar pl), a_heights, a_gone, a_worst, (ar fd'), a_maps, (ar hi), (ar hf'), a_mapped, (ar nw'), a_sorts, a_ints, a_classes, a_ready)) : wpY_findTypes post ((nI (mc_cc g)), (nI (mc_hc g)), (nI m), f_there, f_typed, f_wrongNumber, f_wrongPlace, f_size, f_why, f_height, f_objects, f_line, f_begun, f_last, f_end, (ar (mc_p g)), (ar (mc_e g)), (ar (mc_o g)), (mc_r g), (ar (mc_f g)), (ar (mc_t g)), (ar (mc_g g)), (ar (mc_k g)), (ar pl), a_heights, a_gone, a_worst, (ar fd), a_maps, (ar hi), (ar hf), a_mapped, (ar nw), a_sorts, a_ints, a_classes, a_ready) := by
  have hm := Y.1
  have hcc := hG.1
  obtain ⟨m0, P0, D0⟩ := mg_0 Y
  have hPl : ∀ k, k < m → P k < 1327104 := fun k hk => md_Vlt hcc (mg_V hG hM Y hk)
  have hDs : ∀ q, q < m → D q ≤ 6 := fun q hq => mg_D hG hM Y hq
  have L : ∀ e k, k + e = m → ∀ hf : Nat → Nat, (∀ t, t < k → hf t = 0) → wY_findTypes_2 post (nI (mc_cc g)) (nI (mc_hc g)) (nI m) f_there f_typed f_wrongNumber f_wrongPlace f_size f_why f_height f_objects f_line f_begun f_last f_end (e + 1) (nI k) (ar (mc_p g)) (ar (mc_e g)) (ar (mc_o g)) (mc_r g) (ar (mc_f g)) (ar (mc_t g)) (ar (mc_g g)) (ar (mc_k g)) (ar pl) a_heights a_gone a_worst (ar fd) a_maps (ar hi) (ar hf) a_mapped (ar nw) a_sorts a_ints a_classes a_ready := by
    intro e
    induction e with
    | zero =>
      intro k hk hf h
      refine pk_le m k (fun _ => ?_) (fun c => by omega)
      refine ya_start (fun nw1 h1 => ?_)
      refine ya_give (q := 0) (p := 0) (d := 0) (T := (fun _ => false, fun _ _ => 0)) (f := mc_e g) hG hm m0 hpl hPl Y.2.1 P0 D0.symm hDs ⟨fun q hq => h q (by omega), fun q _ z => (by cases z)⟩ (fun p s => by show 0 ≤ 90; omega) (fun s => by have := hG.2.2.2.2.2.2 s; omega) (fun s hs => h1 s (by omega)) (fun hf' fd' A' => ⟨4001, ?_⟩)
      have ef : mf_fl g (fun _ => false, fun _ _ => 0) 0 (4 + 0) (mc_e g) = true := by unfold mf_fl; simp
      rw [ef]
      have mub := mf_mu_b m (mf_T0 g) hm
      exact ya_rounds hG hM Y hpl hhi 4000 (mf_T0 g) hf' fd' nw1 _ (by omega) (mf_T0_90 hG) A' H0 H1
    | succ e ih =>
      intro k hk hf h
      refine pk_le m k (fun c => by omega) (fun _ => ⟨vp_in_nI (by omega) (by omega), nm_r (e' := ar (mf_up hf k 0)) (by rw [mi_n0]; exact ar_ui hf 0 (by omega)) (nm_r (nI_1 k) (ih (k + 1) (by omega) _ (fun t ht => ?_)))⟩)
      by_cases q : t = k
      · subst q; exact up_s
      · rw [up_n q]; exact h t (by omega)
  unfold wpY_findTypes
  dsimp only
  exact ⟨m + 1, L m 0 (by omega) hf (fun t ht => by omega)⟩
end
end
section
/-! ===== the reference: maps, and the whole of lay ===== -/
section
variable {f_length f_handlers f_many f_there f_typed f_wrongNumber f_wrongPlace f_size f_why f_height f_objects f_line f_begun f_last f_end : Int32} {a_parent a_begin a_op a_arg a_from a_to a_target a_caught a_places a_heights a_gone a_worst a_frames a_maps a_high a_known a_mapped a_now a_sorts a_ints a_classes a_ready : Nat → Int32}
variable {g : md_C} {m : Nat} {P D pl hi : Nat → Nat}
theorem ya_num2 {post : Int32 → Prop} {q : Nat} (hG : md_G g) (hM : md_M g) (Y : ml_Y g m P D) (hpl : ∀ k, k < m → pl k = P k) {j : Nat} (hj : j < m) (ej : P j = q) (h : post (nI j)) : wpY_number post (f_length, f_handlers, (nI m), f_there, f_typed, f_wrongNumber, f_wrongPlace, f_size, f_why, f_height, f_objects, f_line, f_begun, f_last, f_end, a_parent, a_begin, a_op, a_arg, a_from, a_to, a_target, a_caught, (ar pl), a_heights, a_gone, a_worst, a_frames, a_maps, a_high, a_known, a_mapped, a_now, a_sorts, a_ints, a_classes, a_ready) (nI q) := by
  have hm := Y.1
  have hK : ∀ j, j < m → pl j < 1327104 := fun j hj => by rw [hpl j hj]; exact md_Vlt hG.1 (mg_V hG hM Y hj)
  refine ya_num (by omega) hK (by rw [← ej, ← hpl j hj]; exact hK j hj) (fun i hi ei => ?_) (fun no => absurd ((hpl j hj).trans ej) (no j hj))
  have eij : i = j := ml_inj Y.2.1 _ _ hi hj ((hpl i hi).symm.trans (ei.trans ej.symm))
  subst eij; exact h
theorem ya_maps {post : SY → Prop} {mp : Nat → Nat} (hG : md_G g) (hM : md_M g) (Y : ml_Y g m P D) (hpl : ∀ k, k < m → pl k = P k) (H : ∀ mp', mm_is m (fun k => ∃ j, j < m ∧ mg_hit g P j k) mp' → post ((nI (mc_cc g)), (nI (mc_hc g)), (nI m), f_there, f_typed, f_wrongNumber, f_wrongPlace, f_size, f_why, f_height, f_objects, f_line, f_begun, f_last, f_end, (ar (mc_p g)), (ar (mc_e g)), (ar (mc_o g)), (mc_r g), (ar (mc_f g)), (ar (mc_t g)), (ar (mc_g g)), (ar (mc_k g)), (ar pl), a_heights, a_gone, a_worst, a_frames, a_maps, (ar hi), a_known, (ar mp'), a_now, a_sorts, a_ints, a_classes, a_ready)) : wpY_findMaps post ((nI (mc_cc g)), (nI (mc_hc g)), (nI m), f_there, f_typed, f_wrongNumber, f_wrongPlace, f_size, f_why, f_height, f_objects, f_line, f_begun, f_last, f_end, (ar (mc_p g)), (ar (mc_e g)), (ar (mc_o g)), (mc_r g), (ar (mc_f g)), (ar (mc_t g)), (ar (mc_g g)), (ar (mc_k g)), (ar pl), a_heights, a_gone, a_worst, a_frames, a_maps, (ar hi), a_known, (ar mp), a_now, a_sorts, a_ints, a_classes, a_ready) := by
  have hm40 := Y.1
  have hcc := hG.1
  have hhc := hG.2.1
  have B : ∀ e n, n + e = m → ∀ hm, mm_is m (fun k => ∃ j, j < n ∧ mg_hit g P j k) hm → wY_findMaps_25 post (nI (mc_cc g)) (nI (mc_hc g)) (nI m) f_there f_typed f_wrongNumber f_wrongPlace f_size f_why f_height f_objects f_line f_begun f_last f_end (e + 1) (nI n) (ar (mc_p g)) (ar (mc_e g)) (ar (mc_o g)) (mc_r g) (ar (mc_f g)) (ar (mc_t g)) (ar (mc_g g)) (ar (mc_k g)) (ar pl) a_heights a_gone a_worst a_frames a_maps (ar hi) a_known (ar hm) a_now a_sorts a_ints a_classes a_ready := by
    intro e
    induction e with
    | zero =>
      intro n hn hm h
      have en : n = m := by omega
      subst en
      exact pk_le n n (fun _ => H hm h) (fun c => by omega)
    | succ e ih =>
      intro n hn hm h
      have hnm : n < m := by omega
      have v := mg_V hG hM Y hnm
      have hpl1 := md_Vlt hcc v
      have C : ∀ d x, x + d = mc_hc g → ∀ hm, mm_is m (fun k => (∃ j, j < n ∧ mg_hit g P j k) ∨ md_L g (P n) = some (P k) ∨ ∃ y, y < x ∧ md_cv g y (P n) ∧ md_at (P n) (mc_g g y) = P k) hm → wY_findMaps_61 post (wY_findMaps_25 post (nI (mc_cc g)) (nI (mc_hc g)) (nI m) f_there f_typed f_wrongNumber f_wrongPlace f_size f_why f_height f_objects f_line f_begun f_last f_end (e + 1)) (nI n) (nI (mc_cc g)) (nI (mc_hc g)) (nI m) f_there f_typed f_wrongNumber f_wrongPlace f_size f_why f_height f_objects f_line f_begun f_last f_end (d + 1) (nI x) (ar (mc_p g)) (ar (mc_e g)) (ar (mc_o g)) (mc_r g) (ar (mc_f g)) (ar (mc_t g)) (ar (mc_g g)) (ar (mc_k g)) (ar pl) a_heights a_gone a_worst a_frames a_maps (ar hi) a_known (ar hm) a_now a_sorts a_ints a_classes a_ready := by
        intro d
        induction d with
        | zero =>
          intro x hx hm h
          have ex : x = mc_hc g := by omega
          subst ex
          refine pk_le (mc_hc g) (mc_hc g) (fun _ => nm_r (nI_1 n) (ih (n + 1) (by omega) hm (mm_iff h (fun k hk => ?_)))) (fun c => by omega)
          constructor
          · rintro (⟨j, hj, z⟩ | z)
            · exact ⟨j, by omega, z⟩
            · exact ⟨n, by omega, z⟩
          · rintro ⟨j, hj, z⟩
            by_cases q : j = n
            · subst q; exact Or.inr z
            · exact Or.inl ⟨j, by omega, z⟩
        | succ d ihd =>
          intro x hx hm h
          refine pk_le (mc_hc g) x (fun c => by omega) (fun c => ⟨vp_in_nI (by omega) (by omega), vp_in_nI (by omega) (by omega), ?_⟩)
          rw [ar_at _ (by omega), ar_at _ (by omega), hpl n hnm]
          refine ya_at (by omega) ⟨vp_in_nI (by omega) (by omega), ?_⟩
          refine ya_cov hG (by omega) (by omega) (fun cv => xb_1 ?_) (fun cv => xb_0 ?_)
          · obtain ⟨j, hj, ej, _⟩ := mg_h Y hnm c cv
            refine ya_num2 hG hM Y hpl hj ej ⟨vp_in_nI (by omega) (by omega), nm_r (e' := ar (mf_up hm j 1)) (by rw [mi_n1]; exact ar_ui hm 1 (by omega)) (nm_r (nI_1 x) (ihd (x + 1) (by omega) _ (mm_iff (mm_set Y.2.1 hj ej h) (fun k hk => ?_))))⟩
            constructor
            · rintro ((z | z | ⟨y, z1, z2⟩) | z)
              · exact Or.inl z
              · exact Or.inr (Or.inl z)
              · exact Or.inr (Or.inr ⟨y, by omega, z2⟩)
              · exact Or.inr (Or.inr ⟨x, by omega, cv, z.symm⟩)
            · rintro (z | z | ⟨y, z1, z2, z3⟩)
              · exact Or.inl (Or.inl z)
              · exact Or.inl (Or.inr (Or.inl z))
              · by_cases q : y = x
                · subst q; exact Or.inr z3.symm
                · exact Or.inl (Or.inr (Or.inr ⟨y, by omega, z2, z3⟩))
          · refine nm_r (nI_1 x) (ihd (x + 1) (by omega) hm (mm_iff h (fun k hk => ?_)))
            constructor
            · rintro (z | z | ⟨y, z1, z2⟩)
              · exact Or.inl z
              · exact Or.inr (Or.inl z)
              · exact Or.inr (Or.inr ⟨y, by omega, z2⟩)
            · rintro (z | z | ⟨y, z1, z2, z3⟩)
              · exact Or.inl z
              · exact Or.inr (Or.inl z)
              · by_cases q : y = x
                · subst q; exact absurd z2 cv
                · exact Or.inr (Or.inr ⟨y, by omega, z2, z3⟩)
      refine pk_le m n (fun c => by omega) (fun _ => ⟨vp_in_nI (by omega) (by omega), ?_⟩)
      rw [ar_at _ (by omega), hpl n hnm]
      refine ya_led2 hG hM Y hnm (fun q hq => ?_) (fun hq => xb_m ⟨mc_hc g + 1, C (mc_hc g) 0 (by omega) hm (mm_iff h (fun k hk => ?_))⟩)
      · obtain ⟨j, hj, ej, _⟩ := mg_j Y hnm hq
        have hq1 : q < 1327104 := by rw [← ej]; exact md_Vlt hcc (mg_V hG hM Y hj)
        refine xb_n (by omega) (ya_num2 hG hM Y hpl hj ej ⟨vp_in_nI (by omega) (by omega), nm_r (e' := ar (mf_up hm j 1)) (by rw [mi_n1]; exact ar_ui hm 1 (by omega)) ⟨mc_hc g + 1, C (mc_hc g) 0 (by omega) _ (mm_iff (mm_set Y.2.1 hj ej h) (fun k hk => ?_))⟩⟩)
        constructor
        · rintro (z | z)
          · exact Or.inl z
          · exact Or.inr (Or.inl (by rw [hq, z]))
        · rintro (z | z | ⟨y, z1, _⟩)
          · exact Or.inl z
          · rw [hq] at z; cases z; exact Or.inr rfl
          · omega
      · constructor
        · intro z; exact Or.inl z
        · rintro (z | z | ⟨y, z1, _⟩)
          · exact z
          · rw [hq] at z; cases z
          · omega
  have A : ∀ e n, n + e = m → ∀ hm : Nat → Nat, (∀ t, t < n → hm t = 0) → wY_findMaps_2 post (nI (mc_cc g)) (nI (mc_hc g)) (nI m) f_there f_typed f_wrongNumber f_wrongPlace f_size f_why f_height f_objects f_line f_begun f_last f_end (e + 1) (nI n) (ar (mc_p g)) (ar (mc_e g)) (ar (mc_o g)) (mc_r g) (ar (mc_f g)) (ar (mc_t g)) (ar (mc_g g)) (ar (mc_k g)) (ar pl) a_heights a_gone a_worst a_frames a_maps (ar hi) a_known (ar hm) a_now a_sorts a_ints a_classes a_ready := by
    intro e
    induction e with
    | zero =>
      intro n hn hm h
      refine pk_le m n (fun _ => ⟨m + 1, B m 0 (by omega) hm (fun k hk => Or.inr ⟨h k (by omega), ?_⟩)⟩) (fun c => by omega)
      rintro ⟨j, hj, _⟩; omega
    | succ e ih =>
      intro n hn hm h
      refine pk_le m n (fun c => by omega) (fun _ => ⟨vp_in_nI (by omega) (by omega), nm_r (e' := ar (mf_up hm n 0)) (by rw [mi_n0]; exact ar_ui hm 0 (by omega)) (nm_r (nI_1 n) (ih (n + 1) (by omega) _ (fun t ht => ?_)))⟩)
      by_cases q : t = n
      · subst q; exact up_s
      · rw [up_n q]; exact h t (by omega)
  unfold wpY_findMaps
  dsimp only
  exact ⟨m + 1, A m 0 (by omega) mp (fun t ht => by omega)⟩
/-- the heights from their bits -/
theorem ya_highs {post : Int32 → SY → Prop} {w hi0 : Nat → Nat} (hm : m ≤ 40) (hw : ∀ k, k < m → w k < 128 ∧ ∀ h, (w k).testBit h = true ↔ h = D k) (hD : ∀ k, k < m → D k ≤ 6) (H : ∀ hi, (∀ k, k < m → hi k = D k) → ∀ n, wY_lay_48 post f_length f_handlers (nI m) f_there f_typed f_wrongNumber f_wrongPlace f_size f_why f_height f_objects f_line f_begun f_last f_end (n + 1) (nI m) a_parent a_begin a_op a_arg a_from a_to a_target a_caught a_places (ar w) a_gone a_worst a_frames a_maps (ar hi) a_known a_mapped a_now a_sorts a_ints a_classes a_ready) : ∃ n, wY_lay_48 post f_length f_handlers (nI m) f_there f_typed f_wrongNumber f_wrongPlace f_size f_why f_height f_objects f_line f_begun f_last f_end n 0 a_parent a_begin a_op a_arg a_from a_to a_target a_caught a_places (ar w) a_gone a_worst a_frames a_maps (ar hi0) a_known a_mapped a_now a_sorts a_ints a_classes a_ready := by
  have L : ∀ e k, k + e = m → ∀ hi : Nat → Nat, (∀ t, t < k → hi t = D t) → wY_lay_48 post f_length f_handlers (nI m) f_there f_typed f_wrongNumber f_wrongPlace f_size f_why f_height f_objects f_line f_begun f_last f_end (e + 1) (nI k) a_parent a_begin a_op a_arg a_from a_to a_target a_caught a_places (ar w) a_gone a_worst a_frames a_maps (ar hi) a_known a_mapped a_now a_sorts a_ints a_classes a_ready := by
    intro e
    induction e with
    | zero =>
      intro k hk hi h
      have ek : k = m := by omega
      subst ek
      exact H hi h 0
    | succ e ih =>
      intro k hk hi h
      have hkm : k < m := by omega
      have wk := hw k hkm
      have Dk := hD k hkm
      refine pk_le m k (fun c => by omega) (fun _ => ⟨vp_in_nI (by omega) (by omega), nm_r (ar_ui hi 0 (by omega)) ⟨8, ?_⟩⟩)
      have I : ∀ d s, s + d = 7 → s ≤ D k → ∀ hi : Nat → Nat, (∀ t, t < k → hi t = D t) → hi k = s → wY_lay_63 post (wY_lay_48 post f_length f_handlers (nI m) f_there f_typed f_wrongNumber f_wrongPlace f_size f_why f_height f_objects f_line f_begun f_last f_end (e + 1)) (nI k) f_length f_handlers (nI m) f_there f_typed f_wrongNumber f_wrongPlace f_size f_why f_height f_objects f_line f_begun f_last f_end (d + 1) a_parent a_begin a_op a_arg a_from a_to a_target a_caught a_places (ar w) a_gone a_worst a_frames a_maps (ar hi) a_known a_mapped a_now a_sorts a_ints a_classes a_ready := by
        intro d
        induction d with
        | zero => intro s hs hle; omega
        | succ d ihd =>
          intro s hs hle hi h hk0
          refine ⟨vp_in_nI (by omega) (by omega), vp_in_nI (by omega) (by omega), ?_⟩
          rw [ar_at _ (by omega), ar_at _ (by omega), hk0]
          refine br_c (fun c => ?_) (fun c => ?_)
          · rw [mb_shb _ wk.1 s (by omega), wk.2 s] at c
            refine ⟨vp_in_nI (by omega) (by omega), vp_in_nI (by omega) (by omega), nm_r (e' := ar (mf_up hi k (s + 1))) ?_ (ihd (s + 1) (by omega) (by omega) _ (fun t ht => ?_) up_s)⟩
            · rw [nI_1]; exact ar_ui _ _ (by omega)
            · rw [up_n (by omega)]; exact h t ht
          · rw [mb_shb _ wk.1 s (by omega), wk.2 s] at c
            have es : s = D k := Classical.byContradiction c
            refine nm_r (nI_1 k) (ih (k + 1) (by omega) hi (fun t ht => ?_))
            by_cases q : t = k
            · subst q; rw [hk0, es]
            · exact h t (by omega)
      exact I 7 0 rfl (by omega) _ (fun t ht => by rw [up_n (by omega)]; exact h t ht) up_s
  exact ⟨m + 1, L m 0 (by omega) hi0 (fun t ht => by omega)⟩
theorem ya_fill {post : Int32 → SY → Prop} {ty : Bool} {fd mp : Nat → Nat} (hm : m ≤ 40) (H : ∀ mp' : Nat → Nat, (ty = true → ∀ i, i < 10 * m → mp' i = fd i) → (ty = false → ∀ i, i < 10 * m → mp' i = 0) → post (if ty = true then 0 else 2) (f_length, f_handlers, (nI m), f_there, (mf_b ty), f_wrongNumber, f_wrongPlace, f_size, f_why, f_height, f_objects, f_line, f_begun, f_last, f_end, a_parent, a_begin, a_op, a_arg, a_from, a_to, a_target, a_caught, a_places, a_heights, a_gone, a_worst, (ar fd), (ar mp'), a_high, a_known, a_mapped, a_now, a_sorts, a_ints, a_classes, a_ready)) : ∃ n, wY_lay_114 post f_length f_handlers (nI m) f_there (mf_b ty) f_wrongNumber f_wrongPlace f_size f_why f_height f_objects f_line f_begun f_last f_end n 0 a_parent a_begin a_op a_arg a_from a_to a_target a_caught a_places a_heights a_gone a_worst (ar fd) (ar mp) a_high a_known a_mapped a_now a_sorts a_ints a_classes a_ready := by
  have e10 : (10 : Int32) * nI m = nI (10 * m) := pk_mul 10 m
  have L : ∀ e i, i + e = 10 * m → ∀ mp : Nat → Nat, (ty = true → ∀ t, t < i → mp t = fd t) → (ty = false → ∀ t, t < i → mp t = 0) → wY_lay_114 post f_length f_handlers (nI m) f_there (mf_b ty) f_wrongNumber f_wrongPlace f_size f_why f_height f_objects f_line f_begun f_last f_end (e + 1) (nI i) a_parent a_begin a_op a_arg a_from a_to a_target a_caught a_places a_heights a_gone a_worst (ar fd) (ar mp) a_high a_known a_mapped a_now a_sorts a_ints a_classes a_ready := by
    intro e
    induction e with
    | zero =>
      intro i hi mp h1 h2
      have ei : i = 10 * m := by omega
      subst ei
      refine pk_le (10 * m) (10 * m) (fun _ => ?_) (fun c => by omega) e10
      have := H mp h1 h2
      cases ty with
      | false => exact xb_0 this
      | true => exact xb_1 this
    | succ e ih =>
      intro i hi mp h1 h2
      refine pk_le (10 * m) i (fun c => by omega) (fun _ => ?_) e10
      cases ty with
      | false =>
        refine xb_0 ⟨vp_in_nI (by omega) (by omega), nm_r (ar_ui mp 0 (by omega)) (nm_r (nI_1 i) (ih (i + 1) (by omega) _ (fun z => by cases z) (fun _ t ht => ?_)))⟩
        by_cases q : t = i
        · subst q; exact up_s
        · rw [up_n q]; exact h2 rfl t (by omega)
      | true =>
        rw [ar_at _ (by omega)]
        refine xb_1 ⟨vp_in_nI (by omega) (by omega), vp_in_nI (by omega) (by omega), nm_r (ar_ui _ _ (by omega)) (nm_r (nI_1 i) (ih (i + 1) (by omega) _ (fun _ t ht => ?_) (fun z => by cases z)))⟩
        by_cases q : t = i
        · subst q; exact up_s
        · rw [up_n q]; exact h1 rfl t (by omega)
  exact ⟨10 * m + 1, L (10 * m) 0 (by omega) mp (fun _ t ht => by omega) (fun _ t ht => by omega)⟩
end
end
section
/-! ===== the reference: lay ===== -/
section
variable {f_length f_handlers f_many f_there f_typed f_wrongNumber f_wrongPlace f_size f_why f_height f_objects f_line f_begun f_last f_end : Int32} {a_parent a_begin a_op a_arg a_from a_to a_target a_caught a_places a_heights a_gone a_worst a_frames a_maps a_high a_known a_mapped a_now a_sorts a_ints a_classes a_ready : Nat → Int32}
variable {g : md_C} {m : Nat} {P D : Nat → Nat}
theorem yl_lay {post : Int32 → SY → Prop} {K w l f fd mp hi hf md nw : Nat → Nat} (hG : md_G g) (YX : md_M g → ¬ ml_Many g → (∀ p n, ¬ ml_B g p n) → ml_Y g m P D)
  (Hbad : ¬ md_M g → post (-1) ((nI (mc_cc g)), (nI (mc_hc g)), f_many, 0, f_typed, (-1), f_wrongPlace, f_size, 0, f_height, f_objects, f_line, f_begun, f_last, f_end, (ar (mc_p g)), (ar (mc_e g)), (ar (mc_o g)), (mc_r g), (ar (mc_f g)), (ar (mc_t g)), (ar (mc_g g)), (ar (mc_k g)), (ar K), (ar w), (ar l), (ar f), (ar fd), (ar mp), (ar hi), (ar hf), (ar md), (ar nw), a_sorts, a_ints, a_classes, a_ready))
  (Hmany : md_M g → ml_Many g → ∀ (mn : Int32) (K w l f : Nat → Nat), post 1 ((nI (mc_cc g)), (nI (mc_hc g)), mn, 0, f_typed, 7, (-1), f_size, 0, f_height, f_objects, f_line, f_begun, f_last, f_end, (ar (mc_p g)), (ar (mc_e g)), (ar (mc_o g)), (mc_r g), (ar (mc_f g)), (ar (mc_t g)), (ar (mc_g g)), (ar (mc_k g)), (ar K), (ar w), (ar l), (ar f), (ar fd), (ar mp), (ar hi), (ar hf), (ar md), (ar nw), a_sorts, a_ints, a_classes, a_ready))
  (Hwrong : md_M g → ¬ ml_Many g → ∀ p n, ml_F g p n → p < 1327104 → ∀ (mn : Int32) (K w l f : Nat → Nat), post 1 ((nI (mc_cc g)), (nI (mc_hc g)), mn, 0, f_typed, (nI n), (nI p), f_size, 0, f_height, f_objects, f_line, f_begun, f_last, f_end, (ar (mc_p g)), (ar (mc_e g)), (ar (mc_o g)), (mc_r g), (ar (mc_f g)), (ar (mc_t g)), (ar (mc_g g)), (ar (mc_k g)), (ar K), (ar w), (ar l), (ar f), (ar fd), (ar mp), (ar hi), (ar hf), (ar md), (ar nw), a_sorts, a_ints, a_classes, a_ready))
  (Hok : md_M g → ¬ ml_Many g → (∀ p n, ¬ ml_B g p n) → ∀ pl hi : Nat → Nat, (∀ k, k < m → pl k = P k) → (∀ k, k < m → hi k = D k) → ∀ md : Nat → Nat, mm_is m (fun k => ∃ j, j < m ∧ mg_hit g P j k) md → ∀ (sz : Int32) (w l f fd mp hf nw : Nat → Nat), (mf_it g m P D 4000 (mf_T0 g) = none → (∀ i, i < 10 * m → mp i = 0) → post 2 ((nI (mc_cc g)), (nI (mc_hc g)), (nI m), 1, 0, (-1), (-1), sz, 0, f_height, f_objects, f_line, f_begun, f_last, f_end, (ar (mc_p g)), (ar (mc_e g)), (ar (mc_o g)), (mc_r g), (ar (mc_f g)), (ar (mc_t g)), (ar (mc_g g)), (ar (mc_k g)), (ar pl), (ar w), (ar l), (ar f), (ar fd), (ar mp), (ar hi), (ar hf), (ar md), (ar nw), a_sorts, a_ints, a_classes, a_ready)) ∧ (∀ T', mf_it g m P D 4000 (mf_T0 g) = some T' → mf_A m D T' hf fd → (∀ i, i < 10 * m → mp i = fd i) → post 0 ((nI (mc_cc g)), (nI (mc_hc g)), (nI m), 1, 1, (-1), (-1), sz, 0, f_height, f_objects, f_line, f_begun, f_last, f_end, (ar (mc_p g)), (ar (mc_e g)), (ar (mc_o g)), (mc_r g), (ar (mc_f g)), (ar (mc_t g)), (ar (mc_g g)), (ar (mc_k g)), (ar pl), (ar w), (ar l), (ar f), (ar fd), (ar mp), (ar hi), (ar hf), (ar md), (ar nw), a_sorts, a_ints, a_classes, a_ready))) :
  wpY_lay post ((nI (mc_cc g)), (nI (mc_hc g)), f_many, f_there, f_typed, f_wrongNumber, f_wrongPlace, f_size, f_why, f_height, f_objects, f_line, f_begun, f_last, f_end, (ar (mc_p g)), (ar (mc_e g)), (ar (mc_o g)), (mc_r g), (ar (mc_f g)), (ar (mc_t g)), (ar (mc_g g)), (ar (mc_k g)), (ar K), (ar w), (ar l), (ar f), (ar fd), (ar mp), (ar hi), (ar hf), (ar md), (ar nw), a_sorts, a_ints, a_classes, a_ready) := by
  unfold wpY_lay
  dsimp only
  refine ya_im hG (fun hM => xb_1 ?_) (fun nM => xb_0 (Hbad nM))
  refine ye_walk hG hM (fun s J cl => ?_)
  have hm41 := J.1.1
  have hKV : ∀ k, k < ys_m s → md_V g (ys_K s k) := fun k hk => ye_KV hG hM J hk
  have h0 : 0 < ys_m s := by
    obtain ⟨j, hj, _⟩ := J.1.2.2.2.2.2.2.1
    omega
  refine ys_sort hm41 J.1.2.2.1 (fun k hk => by have := md_Vlt hG.1 (hKV k hk); omega) (fun a b c inc pm => ?_)
  have fin : ys_m s ≤ 40 → ∀ p h, md_R g p h ↔ me_at (ys_m s) (ys_K s) (ys_w s) p h := fun h40 => me_fin J.1 (by omega) cl
  have bitR : ys_m s ≤ 40 → ∀ j h, j < ys_m s → ((ys_w s j).testBit h = true ↔ md_R g (ys_K s j) h) := by
    intro h40 j h hj
    constructor
    · intro q; exact J.1.2.2.2.1 j h hj q
    · intro q
      obtain ⟨i, hi, ei, hb⟩ := (fin h40 _ h).mp q
      have := J.1.2.2.1 i j hi hj ei
      subst this; exact hb
  have bc : ∀ k, k < ys_m s → ∃ j, j < ys_m s ∧ a k = ys_K s j ∧ b k = ys_w s j ∧ c k = ys_f s j := by
    intro k hk
    obtain ⟨j, hj, e1, e2⟩ := pm.1 k hk
    exact ⟨j, hj, e1, congrArg Prod.fst e2, congrArg Prod.snd e2⟩
  have S : ys_m s ≤ 40 → my_srt g (ys_m s) a b c := by
    intro h40
    refine ⟨inc, fun k hk => ?_, fun k h hk => ?_, fun k hk => ?_⟩
    · obtain ⟨j, hj, e1, e2, e3⟩ := bc k hk
      rw [e1, e2]
      exact ⟨md_Vlt hG.1 (hKV j hj), (J.1.2.1 j hj).1⟩
    · obtain ⟨j, hj, e1, e2, e3⟩ := bc k hk
      rw [e1, e2]; exact bitR h40 j h hj
    · obtain ⟨j, hj, e1, e2, e3⟩ := bc k hk
      rw [e1, e3]
      obtain ⟨q1, q2⟩ := J.2 j hj
      refine ⟨⟨_, J.1.2.2.2.1 j _ hj (J.1.2.2.2.2.2.2.2 j hj)⟩, fun h r => q1 h (cl j h hj ((bitR h40 j h hj).mpr r)), ?_⟩
      rcases q2 with q | ⟨d, q3, q4⟩
      · exact Or.inl q
      · exact Or.inr ⟨d, J.1.2.2.2.1 j d hj (J.1.2.2.2.2.1 j d hj q3), q4⟩
  have hall : ys_m s ≤ 40 → ∀ p h, md_R g p h → ∃ k, k < ys_m s ∧ a k = p := by
    intro h40 p h r
    obtain ⟨j, hj, e1, _⟩ := (fin h40 p h).mp r
    obtain ⟨i, hi, e2, _⟩ := pm.2 j hj
    exact ⟨i, hi, e2.trans e1⟩
  refine ye_right h0 hm41 S hall (fun e41 => xb_0 (Hmany hM ?_ _ _ _ _ _)) (fun h40 noB => xb_1 ?_) (fun h40 p n F hp => xb_0 (Hwrong hM (ml_few h40 (hall h40)) p n F hp _ _ _ _ _))
  · refine ⟨ys_K s, fun i hi => ⟨_, J.1.2.2.2.1 i _ (by omega) (J.1.2.2.2.2.2.2.2 i (by omega))⟩, fun i j hi hj e => J.1.2.2.1 i j (by omega) (by omega) e⟩
  · have notmany : ¬ ml_Many g := ml_few h40 (hall h40)
    have Y := YX hM notmany noB
    have Rk : ∀ k, k < ys_m s → ∃ h, md_R g (a k) h := fun k hk => ((S h40).2.2.2 k hk).1
    obtain ⟨em, eP⟩ := ml_uni inc Y.2.1 (fun i hi => by
      obtain ⟨h, r⟩ := Rk i hi
      obtain ⟨j, hj, e, _⟩ := (Y.2.2.1 _ _).mp r
      exact ⟨j, hj, e⟩) (fun i hi => hall h40 _ _ (mg_R Y hi))
    have hpl : ∀ k, k < m → a k = P k := fun k hk => eP k (by omega)
    have hw : ∀ k, k < m → b k < 128 ∧ ∀ h, (b k).testBit h = true ↔ h = D k := by
      intro k hk
      refine ⟨((S h40).2.1 k (by omega)).2, fun h => ?_⟩
      rw [(S h40).2.2.1 k h (by omega), hpl k hk, Y.2.2.1]
      constructor
      · rintro ⟨i, hi, e1, e2⟩
        have := ml_inj Y.2.1 _ _ hi hk e1
        subst this; exact e2.symm
      · intro e; exact ⟨k, hk, rfl, e.symm⟩
    dsimp only
    rw [em]
    refine ya_highs (D := D) Y.1 hw (fun k hk => mg_D hG hM Y hk) (fun hi1 hhi n => ?_)
    refine pk_le m m (fun _ => ?_) (fun c => by omega)
    refine ya_maps hG hM Y hpl (fun md1 hmd => ?_)
    refine ya_find hG hM Y hpl hhi (fun hn hf1 fd1 nw1 sz => ⟨rfl, by decide, ?_⟩) (fun T' hT hf1 fd1 nw1 sz A => ⟨rfl, by decide, ?_⟩)
    · refine ya_fill (ty := false) Y.1 (fun mp1 _ hz => ?_)
      exact (Hok hM notmany noB a hi1 hpl hhi md1 hmd _ _ _ _ _ _ _ _).1 hn (hz rfl)
    · refine ya_fill (ty := true) Y.1 (fun mp1 ho _ => ?_)
      exact (Hok hM notmany noB a hi1 hpl hhi md1 hmd _ _ _ _ _ _ _ _).2 T' hT A (ho rfl)
end
end
section
/-! ===== the class: the one pass ===== -/
section
variable {f_codeCount f_coverCount f_placeCount f_tooMany f_layAnswer f_wrongKind f_wrongKey f_grown f_frameDepth f_frameThere f_lastReason f_valueDepth f_objectCount f_hasRun f_begun f_nowAt f_endClass : Int32} {a_parent a_entry a_code a_operand a_coverFrom a_coverTo a_coverTarget a_coverClass a_placeKey a_placeDepth a_cameWith a_ledWith a_faults a_found a_hasFound a_kept a_hasMap a_frame a_kind a_value a_objectClass a_objectReady : Nat → Int32}
variable {g : md_C} {m : Nat} {P D kr kp hm : Nat → Nat} {M : Nat → Bool} {K : Nat → Nat → Nat}
def mk_A (m : Nat) (D : Nat → Nat) (K : Nat → Nat → Nat) (kp : Nat → Nat) : Prop := ∀ q, q < m → ∀ s, s < 4 + D q → kp (10 * q + s) = K q s
theorem xa_fm {post : Int32 → Prop} {p : Nat} {fr f : Nat → Nat} (hG : md_G g) (hm : m ≤ 40) (hp : p < m) (hD : D p ≤ 6) (A : mk_A m D K kp) (K90 : ∀ q s, K q s ≤ 90) (f90 : ∀ s, f s ≤ 90) (hfr : ∀ s, s < 4 + D p → fr s = f s) (h1 : mk_ft g K p (4 + D p) f → post 1) (h0 : ¬ mk_ft g K p (4 + D p) f → post 0) : wpX_fitsMap post ((nI (mc_cc g)), (nI (mc_hc g)), f_placeCount, f_tooMany, f_layAnswer, f_wrongKind, f_wrongKey, f_grown, f_frameDepth, f_frameThere, f_lastReason, f_valueDepth, f_objectCount, f_hasRun, f_begun, f_nowAt, f_endClass, (ar (mc_p g)), (ar (mc_e g)), (ar (mc_o g)), (mc_r g), (ar (mc_f g)), (ar (mc_t g)), (ar (mc_g g)), (ar (mc_k g)), a_placeKey, (ar D), a_cameWith, a_ledWith, a_faults, a_found, a_hasFound, (ar kp), a_hasMap, (ar fr), a_kind, a_value, a_objectClass, a_objectReady) (nI p) := by
  have L : ∀ e s, s + e = 4 + D p → (∀ t, t < s → mt_fit g (f t) (K p t)) → wX_fitsMap_11 post (nI p) (nI (4 + D p)) (nI (mc_cc g)) (nI (mc_hc g)) f_placeCount f_tooMany f_layAnswer f_wrongKind f_wrongKey f_grown f_frameDepth f_frameThere f_lastReason f_valueDepth f_objectCount f_hasRun f_begun f_nowAt f_endClass (ar (mc_p g)) (ar (mc_e g)) (ar (mc_o g)) (mc_r g) (ar (mc_f g)) (ar (mc_t g)) (ar (mc_g g)) (ar (mc_k g)) a_placeKey (ar D) a_cameWith a_ledWith a_faults a_found a_hasFound (ar kp) a_hasMap (ar fr) a_kind a_value a_objectClass a_objectReady (e + 1) (nI s) := by
    intro e
    induction e with
    | zero =>
      intro s hs h
      have es : s = 4 + D p := by omega
      subst es
      exact pk_le 10 (4 + D p) (fun _ => h1 h) (fun _ => pk_le (4 + D p) (4 + D p) (fun _ => h1 h) (fun c => by omega))
    | succ e ih =>
      intro s hs h
      have ei : nI p * 10 + nI s = nI (10 * p + s) := by
        show nI p * nI 10 + nI s = _
        rw [pk_mul, nI_add, Nat.mul_comm]
      refine pk_le 10 s (fun c => by omega) (fun _ => pk_le (4 + D p) s (fun c => by omega) (fun _ => ⟨vp_in_nI (by omega) (by omega), ?_⟩))
      rw [ei, ar_at _ (by omega), ar_at _ (by omega), hfr s (by omega), A p hp s (by omega)]
      refine ⟨vp_in_nI (by omega) (by omega), xa_fits hG (f90 s) (K90 p s) (fun q => xb_1 (nm_r (nI_1 s) (ih (s + 1) (by omega) (fun t ht => ?_)))) (fun q => xb_0 (h0 (fun z => q (z s (by omega)))))⟩
      by_cases w : t = s
      · subst w; exact q
      · exact h t (by omega)
  unfold wpX_fitsMap
  dsimp only
  refine ⟨vp_in_nI (by omega) (by omega), nm_r (e' := nI (4 + D p)) ?_ ⟨4 + D p + 1, L (4 + D p) 0 (by omega) (fun t ht => by omega)⟩⟩
  rw [ar_at _ (by omega)]
  exact nI_add 4 _
theorem xa_fc {post : Int32 → Prop} {k x : Nat} {fr f : Nat → Nat} (hG : md_G g) (hM : md_M g) (Y : ml_Y g m P D) (hkr : ∀ k, k < m → kr k = md_kx (P k)) (hk : k < m) (hx : x < mc_hc g) (cv : md_cv g x (P k)) (A : mk_A m D K kp) (K90 : ∀ q s, K q s ≤ 90) (f90 : ∀ s, f s ≤ 90) (hfr : ∀ s, s < 4 → fr s = f s) (h1 : mk_ft g K (mf_ix P m (md_at (P k) (mc_g g x))) 5 (mf_hf g f x) → post 1) (h0 : ¬ mk_ft g K (mf_ix P m (md_at (P k) (mc_g g x))) 5 (mf_hf g f x) → post 0) : wpX_fitsCaught post ((nI (mc_cc g)), (nI (mc_hc g)), (nI m), f_tooMany, f_layAnswer, f_wrongKind, f_wrongKey, f_grown, f_frameDepth, f_frameThere, f_lastReason, f_valueDepth, f_objectCount, f_hasRun, f_begun, f_nowAt, f_endClass, (ar (mc_p g)), (ar (mc_e g)), (ar (mc_o g)), (mc_r g), (ar (mc_f g)), (ar (mc_t g)), (ar (mc_g g)), (ar (mc_k g)), (ar kr), a_placeDepth, a_cameWith, a_ledWith, a_faults, a_found, a_hasFound, (ar kp), a_hasMap, (ar fr), a_kind, a_value, a_objectClass, a_objectReady) (nI (md_kx (P k))) (nI x) := by
  have hm := Y.1
  have hhc := hG.2.1
  have hb := hG.2.2.2.2.1 x
  obtain ⟨j, hj, ej, eD⟩ := mg_h Y hk hx cv
  have ix : mf_ix P m (md_at (P k) (mc_g g x)) = j := by rw [← ej]; exact mf_ix_eq m j Y.2.1 hj
  rw [ix] at h1 h0
  have nb1 : narrow .boolean (.int (1 : Int32)) = .int 1 := rfl
  have nb0 : narrow .boolean (.int (0 : Int32)) = .int 0 := rfl
  have L : ∀ e s, s + e = 4 → (∀ t, t < s → mt_fit g (f t) (K j t)) → wX_fitsCaught_24 post (nI x) (nI j) (nI (mc_cc g)) (nI (mc_hc g)) (nI m) f_tooMany f_layAnswer f_wrongKind f_wrongKey f_grown f_frameDepth f_frameThere f_lastReason f_valueDepth f_objectCount f_hasRun f_begun f_nowAt f_endClass (ar (mc_p g)) (ar (mc_e g)) (ar (mc_o g)) (mc_r g) (ar (mc_f g)) (ar (mc_t g)) (ar (mc_g g)) (ar (mc_k g)) (ar kr) a_placeDepth a_cameWith a_ledWith a_faults a_found a_hasFound (ar kp) a_hasMap (ar fr) a_kind a_value a_objectClass a_objectReady (e + 1) (nI s) := by
    intro e
    induction e with
    | zero =>
      intro s hs h
      have e4 : nI j * 10 + 4 = nI (10 * j + 4) := by
        show nI j * nI 10 + nI 4 = _
        rw [pk_mul, nI_add, Nat.mul_comm]
      have e3 : (3 : Int32) + nI (mc_k g x) = nI (3 + mc_k g x) := nI_add 3 _
      refine pk_le 4 s (fun _ => ?_) (fun c => by omega)
      rw [e4, ar_at _ (by omega), ar_at _ (by omega), e3, A j hj 4 (by omega)]
      refine ⟨vp_in_nI (by omega) (by omega), vp_in_nI (by omega) (by omega), xa_fits hG (by omega) (K90 j 4) (fun q => ⟨nb1, h1 (fun t ht => ?_)⟩) (fun q => ⟨nb0, h0 (fun z => q ?_)⟩)⟩
      · unfold mf_hf
        by_cases w : t = 4
        · subst w; rw [up_s]; exact q
        · rw [up_n w]; exact h t (by omega)
      · have := z 4 (by omega)
        unfold mf_hf at this
        rw [up_s] at this; exact this
    | succ e ih =>
      intro s hs h
      have ei : nI j * 10 + nI s = nI (10 * j + s) := by
        show nI j * nI 10 + nI s = _
        rw [pk_mul, nI_add, Nat.mul_comm]
      refine pk_le 4 s (fun c => by omega) (fun _ => ⟨vp_in_nI (by omega) (by omega), ?_⟩)
      rw [ei, ar_at _ (by omega), ar_at _ (by omega), hfr s (by omega), A j hj s (by omega)]
      refine ⟨vp_in_nI (by omega) (by omega), xa_fits hG (f90 s) (K90 j s) (fun q => xb_1 (nm_r (nI_1 s) (ih (s + 1) (by omega) (fun t ht => ?_)))) (fun q => xb_0 (h0 (fun z => q ?_)))⟩
      · by_cases w : t = s
        · subst w; exact q
        · exact h t (by omega)
      · have := z s (by omega)
        unfold mf_hf at this
        rw [up_n (by omega)] at this; exact this
  unfold wpX_fitsCaught
  dsimp only
  refine xa_cgt hG (by omega) (md_Vlt hG.1 (mg_V hG hM Y hk)) (xa_po2 hG hM Y hkr hj ej (xb_n' (by omega) ⟨5, L 4 0 rfl (fun t ht => by omega)⟩))
theorem mk_fr90 (K90 : ∀ q s, K q s ≤ 90) {f : Nat → Nat} (f90 : ∀ s, f s ≤ 90) (k : Nat) : ∀ s, mk_fr M K k f s ≤ 90 := by
  intro s; unfold mk_fr; split
  · exact K90 k s
  · exact f90 s
theorem xa_rat {post : Int32 → SX → Prop} {k : Nat} {b : Bool} {dp : Int32} {fr f : Nat → Nat} (hG : md_G g) (hM : md_M g) (Y : ml_Y g m P D) (hkr : ∀ k, k < m → kr k = md_kx (P k)) (hk : k < m) (hhm : ∀ k, k < m → hm k = (M k).toNat) (A : mk_A m D K kp) (K90 : ∀ q s, K q s ≤ 90) (f90 : ∀ s, f s ≤ 90) (hb : b = true → dp = nI (D k) ∧ ∀ s, s < 4 + D k → fr s = f s) (hnb : b = false → M k = true) (H1 : ∀ w, mk_rs g m P D M K k b f = w → w ≠ 0 → ∀ (dp' th' : Int32) (fr' : Nat → Nat), post (nI w) ((nI (mc_cc g)), (nI (mc_hc g)), (nI m), f_tooMany, f_layAnswer, f_wrongKind, f_wrongKey, f_grown, dp', th', f_lastReason, f_valueDepth, f_objectCount, f_hasRun, f_begun, f_nowAt, f_endClass, (ar (mc_p g)), (ar (mc_e g)), (ar (mc_o g)), (mc_r g), (ar (mc_f g)), (ar (mc_t g)), (ar (mc_g g)), (ar (mc_k g)), (ar kr), (ar D), a_cameWith, a_ledWith, a_faults, a_found, a_hasFound, (ar kp), (ar hm), (ar fr'), a_kind, a_value, a_objectClass, a_objectReady)) (H0 : mk_rs g m P D M K k b f = 0 → (∀ s, mf_cg g P k (D k) (mk_fr M K k f) s ≤ 90) → ∀ fr' : Nat → Nat, (∀ s, s < 4 + md_th g (P k) (D k) → fr' s = mf_cg g P k (D k) (mk_fr M K k f) s) → post 0 ((nI (mc_cc g)), (nI (mc_hc g)), (nI m), f_tooMany, f_layAnswer, f_wrongKind, f_wrongKey, f_grown, (nI (md_th g (P k) (D k))), (mf_b (decide (md_gb (mc_o g (P k % 24))))), f_lastReason, f_valueDepth, f_objectCount, f_hasRun, f_begun, f_nowAt, f_endClass, (ar (mc_p g)), (ar (mc_e g)), (ar (mc_o g)), (mc_r g), (ar (mc_f g)), (ar (mc_t g)), (ar (mc_g g)), (ar (mc_k g)), (ar kr), (ar D), a_cameWith, a_ledWith, a_faults, a_found, a_hasFound, (ar kp), (ar hm), (ar fr'), a_kind, a_value, a_objectClass, a_objectReady)) : wpX_reasonAt post ((nI (mc_cc g)), (nI (mc_hc g)), (nI m), f_tooMany, f_layAnswer, f_wrongKind, f_wrongKey, f_grown, dp, (mf_b b), f_lastReason, f_valueDepth, f_objectCount, f_hasRun, f_begun, f_nowAt, f_endClass, (ar (mc_p g)), (ar (mc_e g)), (ar (mc_o g)), (mc_r g), (ar (mc_f g)), (ar (mc_t g)), (ar (mc_g g)), (ar (mc_k g)), (ar kr), (ar D), a_cameWith, a_ledWith, a_faults, a_found, a_hasFound, (ar kp), (ar hm), (ar fr), a_kind, a_value, a_objectClass, a_objectReady) (nI k) := by
  have hm40 := Y.1
  have hcc := hG.1
  have hhc := hG.2.1
  have v := mg_V hG hM Y hk
  have hpl := md_Vlt hcc v
  have hi := md_Vi hcc v
  have hDs : ∀ q, q < m → D q ≤ 6 := fun q hq => mg_D hG hM Y hq
  have hDk := hDs k hk
  have F90 := mk_fr90 (M := M) K90 f90 k
  -- with the frame of the place
  have S : ¬ (M k = true ∧ b = true ∧ ¬ mk_ft g K k (4 + D k) f) → ∀ (fr : Nat → Nat) (th : Int32), (∀ s, s < 4 + D k → fr s = mk_fr M K k f s) → ∃ n, wX_reasonAt_50 post (nI k) (nI (md_kx (P k))) (nI (P k % 24)) (nI (mc_cc g)) (nI (mc_hc g)) (nI m) f_tooMany f_layAnswer f_wrongKind f_wrongKey f_grown (nI (D k)) th f_lastReason f_valueDepth f_objectCount f_hasRun f_begun f_nowAt f_endClass (ar (mc_p g)) (ar (mc_e g)) (ar (mc_o g)) (mc_r g) (ar (mc_f g)) (ar (mc_t g)) (ar (mc_g g)) (ar (mc_k g)) (ar kr) (ar D) a_cameWith a_ledWith a_faults a_found a_hasFound (ar kp) (ar hm) (ar fr) a_kind a_value a_objectClass a_objectReady n 0 := by
    intro n1 fr th hfr
    have S93 : mk_hok g m P K k (mk_fr M K k f) → wX_reasonAt_93 post (nI k) (nI (md_kx (P k))) (nI (P k % 24)) (nI (mc_cc g)) (nI (mc_hc g)) (nI m) f_tooMany f_layAnswer f_wrongKind f_wrongKey f_grown (nI (D k)) th f_lastReason f_valueDepth f_objectCount f_hasRun f_begun f_nowAt f_endClass (ar (mc_p g)) (ar (mc_e g)) (ar (mc_o g)) (mc_r g) (ar (mc_f g)) (ar (mc_t g)) (ar (mc_g g)) (ar (mc_k g)) (ar kr) (ar D) a_cameWith a_ledWith a_faults a_found a_hasFound (ar kp) (ar hm) (ar fr) a_kind a_value a_objectClass a_objectReady := by
      intro hok
      unfold wX_reasonAt_93
      refine xa_need hG hM Y hkr hk rfl F90 hfr (fun nd => xb_1 ?_) (fun nd => xb_0 ?_)
      · have c90 := mn_cg90 (P := P) hG (show k < 40 by omega) F90 nd
        refine xa_chg hG hM Y hkr hk rfl F90 hfr nd (fun fr2 h2 => ?_)
        have last : mk_rs g m P D M K k b f = 0 → wX_reasonAt_139 post (nI (P k % 24)) (nI (mc_cc g)) (nI (mc_hc g)) (nI m) f_tooMany f_layAnswer f_wrongKind f_wrongKey f_grown (nI (md_th g (P k) (D k))) th f_lastReason f_valueDepth f_objectCount f_hasRun f_begun f_nowAt f_endClass (ar (mc_p g)) (ar (mc_e g)) (ar (mc_o g)) (mc_r g) (ar (mc_f g)) (ar (mc_t g)) (ar (mc_g g)) (ar (mc_k g)) (ar kr) (ar D) a_cameWith a_ledWith a_faults a_found a_hasFound (ar kp) (ar hm) (ar fr2) a_kind a_value a_objectClass a_objectReady := by
          intro e0
          have H0' := H0 e0 c90 fr2 h2
          unfold wX_reasonAt_139
          refine ⟨vp_in_nI (by omega) (by omega), ?_⟩
          rw [ar_at _ (by omega)]
          refine xa_gb (hG.2.2.1 _) (fun q => ⟨rfl, by decide, ?_⟩) (fun q => ⟨rfl, by decide, ?_⟩)
          · rw [decide_eq_true q] at H0'; exact H0'
          · rw [decide_eq_false q] at H0'; exact H0'
        refine xa_jk2 hG hM Y hk (fun q hq => ?_) (fun hq => ?_)
        · obtain ⟨j, hj, ej, eD⟩ := mg_j Y hk hq
          have ix : mf_ix P m q = j := by rw [← ej]; exact mf_ix_eq m j Y.2.1 hj
          have rs : mk_rs g m P D M K k b f = if mk_ft g K j (4 + md_th g (P k) (D k)) (mf_cg g P k (D k) (mk_fr M K k f)) then 0 else 4 := by
            unfold mk_rs
            rw [if_neg n1, if_neg (fun z => z hok), if_neg (fun z => z nd), hq]
            dsimp only
            rw [ix]
          refine xa_po2 hG hM Y hkr hj ej (xb_n (by omega) ?_)
          rw [← eD] at rs
          refine xa_fm hG hm40 hj (hDs j hj) A K90 c90 (fun s hs => h2 s (by omega)) (fun z => xb_1 (last ?_)) (fun z => xb_0 ?_)
          · rw [if_pos z] at rs; exact rs
          · rw [if_neg z] at rs; exact H1 4 rs (by omega) _ _ _
        · refine xa_po3 hG hM Y hkr (xb_m (last ?_))
          unfold mk_rs
          rw [if_neg n1, if_neg (fun z => z hok), if_neg (fun z => z nd), hq]
      · refine H1 3 ?_ (by omega) _ _ _
        unfold mk_rs
        rw [if_neg n1, if_neg (fun z => z hok), if_pos nd]
    have L : ∀ e x, x + e = 4 → x ≤ mc_hc g → (∀ y, y < x → md_cv g y (P k) → mk_ft g K (mf_ix P m (md_at (P k) (mc_g g y))) 5 (mf_hf g (mk_fr M K k f) y)) → wX_reasonAt_50 post (nI k) (nI (md_kx (P k))) (nI (P k % 24)) (nI (mc_cc g)) (nI (mc_hc g)) (nI m) f_tooMany f_layAnswer f_wrongKind f_wrongKey f_grown (nI (D k)) th f_lastReason f_valueDepth f_objectCount f_hasRun f_begun f_nowAt f_endClass (ar (mc_p g)) (ar (mc_e g)) (ar (mc_o g)) (mc_r g) (ar (mc_f g)) (ar (mc_t g)) (ar (mc_g g)) (ar (mc_k g)) (ar kr) (ar D) a_cameWith a_ledWith a_faults a_found a_hasFound (ar kp) (ar hm) (ar fr) a_kind a_value a_objectClass a_objectReady (e + 1) (nI x) := by
      intro e
      induction e with
      | zero =>
        intro x hx hxc h
        exact pk_le 4 x (fun _ => S93 (fun y hy cv => h y (by omega) cv)) (fun c => by omega)
      | succ e ih =>
        intro x hx hxc h
        refine pk_le 4 x (fun c => by omega) (fun _ => pk_le (mc_hc g) x (fun c => S93 (fun y hy cv => h y (by omega) cv)) (fun c => ?_))
        refine xa_cov hG (by omega) (by omega) (fun cv => xb_1 ?_) (fun cv => xb_0 (nm_r (nI_1 x) (ih (x + 1) (by omega) (by omega) (fun y hy cy => ?_))))
        · refine xa_fc hG hM Y hkr hk c cv A K90 F90 (fun s hs => hfr s (by omega)) (fun z => xb_1 (nm_r (nI_1 x) (ih (x + 1) (by omega) (by omega) (fun y hy cy => ?_)))) (fun z => xb_0 (H1 2 ?_ (by omega) _ _ _))
          · by_cases w : y = x
            · subst w; exact z
            · exact h y (by omega) cy
          · unfold mk_rs
            rw [if_neg n1, if_pos (fun y => z (y x c cv))]
        · by_cases w : y = x
          · subst w; exact absurd cy cv
          · exact h y (by omega) cy
    exact ⟨5, L 4 0 rfl (by omega) (fun y hy => by omega)⟩
  unfold wpX_reasonAt
  dsimp only
  refine ⟨vp_in_nI (by omega) (by omega), nm_r (e' := nI (md_kx (P k))) (by rw [ar_at _ (by omega), hkr k hk]) (nm_r (e' := nI (P k % 24)) (by rw [xk_31 (md_kxlt _ hpl), xk_i]) ⟨vp_in_nI (by omega) (by omega), ?_⟩)⟩
  rw [ar_at _ (by omega), hhm k hk]
  cases eM : M k with
  | false =>
    refine xb_0 ?_
    have eb : b = true := by
      cases q : b
      · have := hnb q; rw [eM] at this; cases this
      · rfl
    obtain ⟨ed, ef⟩ := hb eb
    rw [ed]
    refine S (fun z => by rw [eM] at z; cases z.1) fr _ (fun s hs => ?_)
    unfold mk_fr; rw [eM]; exact ef s hs
  | true =>
    have S38 : ¬ (M k = true ∧ b = true ∧ ¬ mk_ft g K k (4 + D k) f) → wX_reasonAt_38 post (nI k) (nI (md_kx (P k))) (nI (P k % 24)) (nI (mc_cc g)) (nI (mc_hc g)) (nI m) f_tooMany f_layAnswer f_wrongKind f_wrongKey f_grown dp (mf_b b) f_lastReason f_valueDepth f_objectCount f_hasRun f_begun f_nowAt f_endClass (ar (mc_p g)) (ar (mc_e g)) (ar (mc_o g)) (mc_r g) (ar (mc_f g)) (ar (mc_t g)) (ar (mc_g g)) (ar (mc_k g)) (ar kr) (ar D) a_cameWith a_ledWith a_faults a_found a_hasFound (ar kp) (ar hm) (ar fr) a_kind a_value a_objectClass a_objectReady := by
      intro n1
      unfold wX_reasonAt_38
      refine xa_loadK (by omega) (fun fr1 h1 => S n1 fr1 _ (fun s hs => ?_))
      unfold mk_fr; rw [eM, if_pos rfl, h1 s (by omega)]; exact A k hk s hs
    refine xb_1 ?_
    cases eb : b with
    | false =>
      subst eb
      exact xb_0 (S38 (fun z => by cases z.2.1))
    | true =>
      subst eb
      obtain ⟨ed, ef⟩ := hb rfl
      refine xb_1 (xa_fm hG hm40 hk hDk A K90 f90 ef (fun z => xb_1 (S38 (fun y => y.2.2 z))) (fun z => xb_0 (H1 1 ?_ (by omega) _ _ _)))
      unfold mk_rs
      rw [if_pos ⟨eM, rfl, z⟩]
/-- what check answers and why -/
theorem xl_check {post : Int32 → SX → Prop} {fr : Nat → Nat} {dp0 th0 : Int32} (hG : md_G g) (hM : md_M g) (Y : ml_Y g m P D) (hkr : ∀ k, k < m → kr k = md_kx (P k)) (hhm : ∀ k, k < m → hm k = (M k).toNat) (hMp : ∀ k, k < m → (M k = true ↔ ∃ j, j < m ∧ mg_hit g P j k)) (A : mk_A m D K kp) (K90 : ∀ q s, K q s ≤ 90) (H : ∀ r, mk_ck g m P D M K m 0 true (mc_e g) = r → ∀ (dp th : Int32) (fr' : Nat → Nat), post (match r with | none => -1 | some (k, _) => nI k) ((nI (mc_cc g)), (nI (mc_hc g)), (nI m), f_tooMany, f_layAnswer, f_wrongKind, f_wrongKey, f_grown, dp, th, ((match r with | none => 0 | some (_, w) => nI w)), f_valueDepth, f_objectCount, f_hasRun, f_begun, f_nowAt, f_endClass, (ar (mc_p g)), (ar (mc_e g)), (ar (mc_o g)), (mc_r g), (ar (mc_f g)), (ar (mc_t g)), (ar (mc_g g)), (ar (mc_k g)), (ar kr), (ar D), a_cameWith, a_ledWith, a_faults, a_found, a_hasFound, (ar kp), (ar hm), (ar fr'), a_kind, a_value, a_objectClass, a_objectReady)) : wpX_check post ((nI (mc_cc g)), (nI (mc_hc g)), (nI m), f_tooMany, f_layAnswer, f_wrongKind, f_wrongKey, f_grown, dp0, th0, f_lastReason, f_valueDepth, f_objectCount, f_hasRun, f_begun, f_nowAt, f_endClass, (ar (mc_p g)), (ar (mc_e g)), (ar (mc_o g)), (mc_r g), (ar (mc_f g)), (ar (mc_t g)), (ar (mc_g g)), (ar (mc_k g)), (ar kr), (ar D), a_cameWith, a_ledWith, a_faults, a_found, a_hasFound, (ar kp), (ar hm), (ar fr), a_kind, a_value, a_objectClass, a_objectReady) := by
  have hm40 := Y.1
  obtain ⟨m0, P0, D0⟩ := mg_0 Y
  have L : ∀ e k, k + e = m → ∀ (b : Bool) (dp : Int32) (fr f : Nat → Nat), (k < m → b = true → dp = nI (D k) ∧ ∀ s, s < 4 + D k → fr s = f s) → (k < m → b = false → M k = true) → (∀ s, f s ≤ 90) → mk_ck g m P D M K m 0 true (mc_e g) = mk_ck g m P D M K e k b f → wX_check_21 post (e + 1) (nI k) (nI (mc_cc g)) (nI (mc_hc g)) (nI m) f_tooMany f_layAnswer f_wrongKind f_wrongKey f_grown dp (mf_b b) 0 f_valueDepth f_objectCount f_hasRun f_begun f_nowAt f_endClass (ar (mc_p g)) (ar (mc_e g)) (ar (mc_o g)) (mc_r g) (ar (mc_f g)) (ar (mc_t g)) (ar (mc_g g)) (ar (mc_k g)) (ar kr) (ar D) a_cameWith a_ledWith a_faults a_found a_hasFound (ar kp) (ar hm) (ar fr) a_kind a_value a_objectClass a_objectReady := by
    intro e
    induction e with
    | zero =>
      intro k hk b dp fr f _ _ _ ec
      have ek : k = m := by omega
      subst ek
      have := H none (ec.trans rfl) dp (mf_b b) fr
      exact pk_le 40 k (fun _ => this) (fun _ => pk_le k k (fun _ => this) (fun c => by omega))
    | succ e ih =>
      intro k hk b dp fr f h1 h2 f90 ec
      have hkm : k < m := by omega
      refine pk_le 40 k (fun c => by omega) (fun _ => pk_le m k (fun c => by omega) (fun _ => ?_))
      refine xa_rat hG hM Y hkr hkm hhm A K90 f90 (h1 hkm) (h2 hkm) (fun w ew w0 dp' th' fr' => ?_) (fun e0 c90 fr' hfr' => xb_0 (nm_r (nI_1 k) (ih (k + 1) (by omega) _ _ fr' (mf_cg g P k (D k) (mk_fr M K k f)) (fun hk1 q => ?_) (fun hk1 q => ?_) c90 ?_)))
      · have e1 : mk_ck g m P D M K (e + 1) k b f = some (k, w) := by
          simp only [mk_ck]
          rw [ew, if_neg w0]
        have w4 : w ≤ 4 := by
          rw [← ew]; unfold mk_rs
          split
          · omega
          · split
            · omega
            · split
              · omega
              · split
                · split <;> omega
                · omega
        exact br_f (nI_ne0 (by omega) (by omega)) (H _ (ec.trans e1) dp' th' fr')
      · have b' : md_gb (mc_o g (P k % 24)) := of_decide_eq_true q
        obtain ⟨_, _, eD⟩ := mg_b Y hkm b'
        rw [eD]; exact ⟨rfl, hfr'⟩
      · have b' : ¬ md_gb (mc_o g (P k % 24)) := of_decide_eq_false q
        exact (hMp (k + 1) hk1).mpr (mg_mapped Y hk1 b')
      · rw [ec]
        simp only [mk_ck]
        rw [if_pos e0]
  unfold wpX_check
  dsimp only
  refine pk_eq m 0 (fun c => by omega) (fun _ => xa_bf (fun fr1 h1 => ⟨m + 1, ?_⟩))
  refine L m 0 (by omega) true 0 fr1 (mc_e g) (fun _ _ => ?_) (fun _ z => by cases z) (fun s => by have := hG.2.2.2.2.2.2 s; omega) rfl
  rw [D0]; exact ⟨rfl, fun s hs => h1 s (by omega)⟩
end
end
section
/-! ===== the reference: the one pass ===== -/
section
variable {f_length f_handlers f_many f_there f_typed f_wrongNumber f_wrongPlace f_size f_why f_height f_objects f_line f_begun f_last f_end : Int32} {a_parent a_begin a_op a_arg a_from a_to a_target a_caught a_places a_heights a_gone a_worst a_frames a_maps a_high a_known a_mapped a_now a_sorts a_ints a_classes a_ready : Nat → Int32}
variable {g : md_C} {m : Nat} {P D pl hi kp mp : Nat → Nat} {M : Nat → Bool} {K : Nat → Nat → Nat}
theorem ya_und {post : Int32 → Prop} {j q d : Nat} {nw f : Nat → Nat} (hG : md_G g) (hM : md_M g) (Y : ml_Y g m P D) (hpl : ∀ k, k < m → pl k = P k) (hj : j < m) (ej : P j = q) (hd : d = D j) (A : mk_A m D K kp) (K90 : ∀ q s, K q s ≤ 90) (f90 : ∀ s, f s ≤ 90) (hnw : ∀ s, s < 4 + d → nw s = f s) (h1 : mk_ft g K j (4 + d) f → post 1) (h0 : ¬ mk_ft g K j (4 + d) f → post 0) : wpY_isUnder post ((nI (mc_cc g)), (nI (mc_hc g)), (nI m), f_there, f_typed, f_wrongNumber, f_wrongPlace, (nI d), f_why, f_height, f_objects, f_line, f_begun, f_last, f_end, (ar (mc_p g)), (ar (mc_e g)), (ar (mc_o g)), (mc_r g), (ar (mc_f g)), (ar (mc_t g)), (ar (mc_g g)), (ar (mc_k g)), (ar pl), a_heights, a_gone, a_worst, a_frames, (ar kp), a_high, a_known, a_mapped, (ar nw), a_sorts, a_ints, a_classes, a_ready) (nI q) := by
  have hm := Y.1
  have hD := mg_D hG hM Y hj
  have e4 : (4 : Int32) + nI d = nI (4 + d) := nI_add 4 _
  have L : ∀ e s, s + e = 4 + d → (∀ t, t < s → mt_fit g (f t) (K j t)) → wY_isUnder_8 post (nI j) (nI (mc_cc g)) (nI (mc_hc g)) (nI m) f_there f_typed f_wrongNumber f_wrongPlace (nI d) f_why f_height f_objects f_line f_begun f_last f_end (ar (mc_p g)) (ar (mc_e g)) (ar (mc_o g)) (mc_r g) (ar (mc_f g)) (ar (mc_t g)) (ar (mc_g g)) (ar (mc_k g)) (ar pl) a_heights a_gone a_worst a_frames (ar kp) a_high a_known a_mapped (ar nw) a_sorts a_ints a_classes a_ready (e + 1) (nI s) := by
    intro e
    induction e with
    | zero =>
      intro s hs h
      have es : s = 4 + d := by omega
      subst es
      exact pk_le (4 + d) (4 + d) (fun _ => h1 h) (fun c => by omega) e4
    | succ e ih =>
      intro s hs h
      have ei : (10 : Int32) * nI j + nI s = nI (10 * j + s) := by
        show nI 10 * nI j + nI s = _
        rw [pk_mul, nI_add]
      refine pk_le (4 + d) s (fun c => by omega) (fun _ => ⟨vp_in_nI (by omega) (by omega), ?_⟩) e4
      rw [ei, ar_at _ (by omega), ar_at _ (by omega), hnw s (by omega), A j hj s (by omega)]
      refine ⟨vp_in_nI (by omega) (by omega), ya_fits hG (f90 s) (K90 j s) (fun q => xb_1 (nm_r (nI_1 s) (ih (s + 1) (by omega) (fun t ht => ?_)))) (fun q => xb_0 (h0 (fun z => q (z s (by omega)))))⟩
      by_cases w : t = s
      · subst w; exact q
      · exact h t (by omega)
  unfold wpY_isUnder
  dsimp only
  exact ya_num2 hG hM Y hpl hj ej ⟨4 + d + 1, L (4 + d) 0 (by omega) (fun t ht => by omega)⟩
theorem ya_look {post : Int32 → SY → Prop} {k : Nat} {b : Bool} {nw f0 f : Nat → Nat} (hG : md_G g) (hM : md_M g) (Y : ml_Y g m P D) (hpl : ∀ k, k < m → pl k = P k) (hk : k < m) (A : mk_A m D K kp) (K90 : ∀ q s, K q s ≤ 90) (f90 : ∀ s, f0 s ≤ 90) (ef : f = mk_fr M K k f0) (n1 : ¬ (M k = true ∧ b = true ∧ ¬ mk_ft g K k (4 + D k) f0)) (hnw : ∀ s, s < 4 + D k → nw s = f s) (H1 : ∀ w, mk_rs g m P D M K k b f0 = w → w ≠ 0 → ∀ (sz : Int32) (nw' : Nat → Nat), post (nI w) ((nI (mc_cc g)), (nI (mc_hc g)), (nI m), f_there, f_typed, f_wrongNumber, f_wrongPlace, sz, f_why, f_height, f_objects, f_line, f_begun, f_last, f_end, (ar (mc_p g)), (ar (mc_e g)), (ar (mc_o g)), (mc_r g), (ar (mc_f g)), (ar (mc_t g)), (ar (mc_g g)), (ar (mc_k g)), (ar pl), a_heights, a_gone, a_worst, a_frames, (ar kp), (ar hi), a_known, a_mapped, (ar nw'), a_sorts, a_ints, a_classes, a_ready)) (H0 : mk_rs g m P D M K k b f0 = 0 → (∀ s, mf_cg g P k (D k) f s ≤ 90) → ∀ nw' : Nat → Nat, (∀ s, s < 4 + md_th g (P k) (D k) → nw' s = mf_cg g P k (D k) f s) → post 0 ((nI (mc_cc g)), (nI (mc_hc g)), (nI m), f_there, f_typed, f_wrongNumber, f_wrongPlace, (nI (md_th g (P k) (D k))), f_why, f_height, f_objects, f_line, f_begun, f_last, f_end, (ar (mc_p g)), (ar (mc_e g)), (ar (mc_o g)), (mc_r g), (ar (mc_f g)), (ar (mc_t g)), (ar (mc_g g)), (ar (mc_k g)), (ar pl), a_heights, a_gone, a_worst, a_frames, (ar kp), (ar hi), a_known, a_mapped, (ar nw'), a_sorts, a_ints, a_classes, a_ready)) : wpY_look post ((nI (mc_cc g)), (nI (mc_hc g)), (nI m), f_there, f_typed, f_wrongNumber, f_wrongPlace, (nI (D k)), f_why, f_height, f_objects, f_line, f_begun, f_last, f_end, (ar (mc_p g)), (ar (mc_e g)), (ar (mc_o g)), (mc_r g), (ar (mc_f g)), (ar (mc_t g)), (ar (mc_g g)), (ar (mc_k g)), (ar pl), a_heights, a_gone, a_worst, a_frames, (ar kp), (ar hi), a_known, a_mapped, (ar nw), a_sorts, a_ints, a_classes, a_ready) (nI k) := by
  have hm40 := Y.1
  have hcc := hG.1
  have hhc := hG.2.1
  have v := mg_V hG hM Y hk
  have hpk := md_Vlt hcc v
  have F90 : ∀ s, f s ≤ 90 := by rw [ef]; exact mk_fr90 K90 f90 k
  have L : ∀ x8 : Int32, ((md_L g (P k) = none ∧ x8 = -1) ∨ ∃ q, md_L g (P k) = some q ∧ x8 = nI q) → ∀ e x, x + e = mc_hc g → (∀ y, y < x → md_cv g y (P k) → mk_ft g K (mf_ix P m (md_at (P k) (mc_g g y))) 5 (mf_hf g f y)) → wY_look_27 post (nI k) (nI (D k)) (nI (nw 4)) x8 (nI (mc_cc g)) (nI (mc_hc g)) (nI m) f_there f_typed f_wrongNumber f_wrongPlace f_why f_height f_objects f_line f_begun f_last f_end (e + 1) (nI x) (nI (D k)) (ar (mc_p g)) (ar (mc_e g)) (ar (mc_o g)) (mc_r g) (ar (mc_f g)) (ar (mc_t g)) (ar (mc_g g)) (ar (mc_k g)) (ar pl) a_heights a_gone a_worst a_frames (ar kp) (ar hi) a_known a_mapped (ar nw) a_sorts a_ints a_classes a_ready := by
    intro x8 h8 e
    induction e with
    | zero =>
      intro x hx h
      have ex : x = mc_hc g := by omega
      subst ex
      have hok : mk_hok g m P K k (mk_fr M K k f0) := by rw [← ef]; exact h
      refine pk_le (mc_hc g) (mc_hc g) (fun _ => ?_) (fun c => by omega)
      refine ya_does hG hM Y hpl hk rfl F90 hnw (fun nd nw2 h2 => xb_1 ?_) (fun nd sz nw2 => xb_0 (H1 3 ?_ (by omega) _ _))
      · have c90 := mn_cg90 (P := P) hG (show k < 40 by omega) F90 nd
        have nd' : mf_nd g m P k (D k) (mk_fr M K k f0) := by rw [← ef]; exact nd
        rcases h8 with ⟨hq, rfl⟩ | ⟨q, hq, rfl⟩
        · refine xb_m (H0 ?_ c90 nw2 h2)
          unfold mk_rs
          rw [if_neg n1, if_neg (fun z => z hok), if_neg (fun z => z nd'), hq]
        · obtain ⟨j, hj, ej, eD⟩ := mg_j Y hk hq
          have ix : mf_ix P m q = j := by rw [← ej]; exact mf_ix_eq m j Y.2.1 hj
          have hq1 : q < 1327104 := by rw [← ej]; exact md_Vlt hcc (mg_V hG hM Y hj)
          have rs : mk_rs g m P D M K k b f0 = if mk_ft g K j (4 + md_th g (P k) (D k)) (mf_cg g P k (D k) f) then 0 else 4 := by
            unfold mk_rs
            rw [if_neg n1, if_neg (fun z => z hok), if_neg (fun z => z nd'), hq]
            dsimp only
            rw [ix, ← ef]
          refine xb_n (by omega) (ya_und hG hM Y hpl hj ej eD.symm A K90 c90 h2 (fun z => xb_1 (H0 ?_ c90 nw2 h2)) (fun z => xb_0 (H1 4 ?_ (by omega) _ _)))
          · rw [if_pos z] at rs; exact rs
          · rw [if_neg z] at rs; exact rs
      · unfold mk_rs
        rw [if_neg n1, if_neg (fun z => z hok), if_pos (by rw [← ef]; exact nd)]
    | succ e ih =>
      intro x hx h
      have hb := hG.2.2.2.2.1 x
      refine pk_le (mc_hc g) x (fun c => by omega) (fun c => ⟨vp_in_nI (by omega) (by omega), ?_⟩)
      have e3 : upd (ar nw) 4 (3 + ar (mc_k g) (nI x).toNatClampNeg) = ar (mf_up nw 4 (3 + mc_k g x)) := by
        rw [ar_at _ (by omega)]
        show upd (ar nw) 4 (nI 3 + nI (mc_k g x)) = _
        rw [nI_add, ar_up]
      refine nm_r e3 ⟨vp_in_nI (by omega) (by omega), vp_in_nI (by omega) (by omega), ?_⟩
      rw [ar_at _ (by omega), ar_at _ (by omega), hpl k hk]
      have back : upd (ar (mf_up nw 4 (3 + mc_k g x))) 4 (nI (nw 4)) = ar nw := by
        rw [ar_up]
        refine congrArg ar ?_
        funext t
        by_cases q : t = 4
        · subst q; rw [up_s]
        · rw [up_n q, up_n q]
      have nx : (md_cv g x (P k) → mk_ft g K (mf_ix P m (md_at (P k) (mc_g g x))) 5 (mf_hf g f x)) → wY_look_98 post (wY_look_27 post (nI k) (nI (D k)) (nI (nw 4)) x8 (nI (mc_cc g)) (nI (mc_hc g)) (nI m) f_there f_typed f_wrongNumber f_wrongPlace f_why f_height f_objects f_line f_begun f_last f_end (e + 1)) (nI k) (nI (D k)) (nI (nw 4)) x8 (nI x) (nI (mc_cc g)) (nI (mc_hc g)) (nI m) f_there f_typed f_wrongNumber f_wrongPlace 1 f_why f_height f_objects f_line f_begun f_last f_end (ar (mc_p g)) (ar (mc_e g)) (ar (mc_o g)) (mc_r g) (ar (mc_f g)) (ar (mc_t g)) (ar (mc_g g)) (ar (mc_k g)) (ar pl) a_heights a_gone a_worst a_frames (ar kp) (ar hi) a_known a_mapped (ar (mf_up nw 4 (3 + mc_k g x))) a_sorts a_ints a_classes a_ready := by
        intro z
        unfold wY_look_98 wY_look_103
        refine nm_r back (xb_1 (nm_r (nI_1 x) (ih (x + 1) (by omega) (fun y hy cy => ?_))))
        by_cases w : y = x
        · subst w; exact z cy
        · exact h y (by omega) cy
      refine ya_at (by omega) ⟨vp_in_nI (by omega) (by omega), ?_⟩
      refine ya_cov hG (by omega) (by omega) (fun cv => xb_1 ?_) (fun cv => xb_0 (nx (fun z => absurd z cv)))
      obtain ⟨j, hj, ej, eD⟩ := mg_h Y hk c cv
      have ix : mf_ix P m (md_at (P k) (mc_g g x)) = j := by rw [← ej]; exact mf_ix_eq m j Y.2.1 hj
      refine ya_und (d := 1) (f := mf_hf g f x) hG hM Y hpl hj ej eD.symm A K90 (mn_h90 hG F90 x) (fun s hs => ?_) (fun z => xb_1 (nx (fun _ => by rw [ix]; exact z))) (fun z => xb_0 ?_)
      · unfold mf_hf
        by_cases q : s = 4
        · subst q; rw [up_s, up_s]
        · rw [up_n q, up_n q]; exact hnw s (by omega)
      · unfold wY_look_103
        refine nm_r back (xb_0 (H1 2 ?_ (by omega) _ _))
        unfold mk_rs
        have : ¬ mk_hok g m P K k (mk_fr M K k f0) := by
          intro y
          have := y x c cv
          rw [ix, ← ef] at this
          exact z this
        rw [if_neg n1, if_pos this]
  unfold wpY_look
  dsimp only
  refine nm_r (e' := nI (nw 4)) rfl ⟨vp_in_nI (by omega) (by omega), ?_⟩
  rw [ar_at _ (by omega), hpl k hk]
  exact ya_led2 hG hM Y hk (fun q hq => ⟨mc_hc g + 1, L _ (Or.inr ⟨q, hq, rfl⟩) (mc_hc g) 0 (by omega) (fun y hy => by omega)⟩) (fun hq => ⟨mc_hc g + 1, L _ (Or.inl ⟨hq, rfl⟩) (mc_hc g) 0 (by omega) (fun y hy => by omega)⟩)
theorem yl_check {post : Int32 → SY → Prop} {nw : Nat → Nat} {th : Int32} (hG : md_G g) (hM : md_M g) (Y : ml_Y g m P D) (hpl : ∀ k, k < m → pl k = P k) (hhi : ∀ k, k < m → hi k = D k) (hth : ¬ th = 0) (hmp : ∀ k, k < m → mp k = (M k).toNat) (hMp : ∀ k, k < m → (M k = true ↔ ∃ j, j < m ∧ mg_hit g P j k)) (A : mk_A m D K kp) (K90 : ∀ q s, K q s ≤ 90) (H : ∀ r, mk_ck g m P D M K m 0 true (mc_e g) = r → ∀ (sz : Int32) (nw' : Nat → Nat), post (match r with | none => -1 | some (k, _) => nI k) ((nI (mc_cc g)), (nI (mc_hc g)), (nI m), th, f_typed, f_wrongNumber, f_wrongPlace, sz, ((match r with | none => 0 | some (_, w) => nI w)), f_height, f_objects, f_line, f_begun, f_last, f_end, (ar (mc_p g)), (ar (mc_e g)), (ar (mc_o g)), (mc_r g), (ar (mc_f g)), (ar (mc_t g)), (ar (mc_g g)), (ar (mc_k g)), (ar pl), a_heights, a_gone, a_worst, a_frames, (ar kp), (ar hi), a_known, (ar mp), (ar nw'), a_sorts, a_ints, a_classes, a_ready)) : wpY_check post ((nI (mc_cc g)), (nI (mc_hc g)), (nI m), th, f_typed, f_wrongNumber, f_wrongPlace, f_size, f_why, f_height, f_objects, f_line, f_begun, f_last, f_end, (ar (mc_p g)), (ar (mc_e g)), (ar (mc_o g)), (mc_r g), (ar (mc_f g)), (ar (mc_t g)), (ar (mc_g g)), (ar (mc_k g)), (ar pl), a_heights, a_gone, a_worst, a_frames, (ar kp), (ar hi), a_known, (ar mp), (ar nw), a_sorts, a_ints, a_classes, a_ready) := by
  have hm40 := Y.1
  have hcc := hG.1
  obtain ⟨m0, P0, D0⟩ := mg_0 Y
  have L : ∀ e k, k + e = m → ∀ (b : Bool) (dp : Int32) (nw f : Nat → Nat), (k < m → b = true → dp = nI (D k) ∧ ∀ s, s < 4 + D k → nw s = f s) → (k < m → b = false → M k = true) → (∀ s, f s ≤ 90) → mk_ck g m P D M K m 0 true (mc_e g) = mk_ck g m P D M K e k b f → wY_check_23 post (e + 1) (mf_b b) (nI k) (nI (mc_cc g)) (nI (mc_hc g)) (nI m) th f_typed f_wrongNumber f_wrongPlace dp 0 f_height f_objects f_line f_begun f_last f_end (ar (mc_p g)) (ar (mc_e g)) (ar (mc_o g)) (mc_r g) (ar (mc_f g)) (ar (mc_t g)) (ar (mc_g g)) (ar (mc_k g)) (ar pl) a_heights a_gone a_worst a_frames (ar kp) (ar hi) a_known (ar mp) (ar nw) a_sorts a_ints a_classes a_ready := by
    intro e
    induction e with
    | zero =>
      intro k hk b dp nw f _ _ _ ec
      have ek : k = m := by omega
      subst ek
      have := H none (ec.trans rfl) dp nw
      exact pk_le k k (fun _ => this) (fun c => by omega)
    | succ e ih =>
      intro k hk b dp nw f h1 h2 f90 ec
      have hkm : k < m := by omega
      have v := mg_V hG hM Y hkm
      have hDk := mg_D hG hM Y hkm
      have fail : ∀ w, mk_rs g m P D M K k b f = w → w ≠ 0 → w ≤ 4 → ∀ (sz : Int32) (nw' : Nat → Nat), wY_check_87 post (wY_check_23 post (e + 1)) (nI k) (nI (mc_cc g)) (nI (mc_hc g)) (nI m) th f_typed f_wrongNumber f_wrongPlace sz (nI w) f_height f_objects f_line f_begun f_last f_end (ar (mc_p g)) (ar (mc_e g)) (ar (mc_o g)) (mc_r g) (ar (mc_f g)) (ar (mc_t g)) (ar (mc_g g)) (ar (mc_k g)) (ar pl) a_heights a_gone a_worst a_frames (ar kp) (ar hi) a_known (ar mp) (ar nw') a_sorts a_ints a_classes a_ready := by
        intro w ew w0 w4 sz nw'
        have e1 : mk_ck g m P D M K (e + 1) k b f = some (k, w) := by
          simp only [mk_ck]
          rw [ew, if_neg w0]
        unfold wY_check_87
        exact pk_le w 0 (fun c => by omega) (fun _ => H _ (ec.trans e1) sz nw')
      have w4 : mk_rs g m P D M K k b f ≤ 4 := by
        unfold mk_rs
        split
        · omega
        · split
          · omega
          · split
            · omega
            · split
              · split <;> omega
              · omega
      have look : ¬ (M k = true ∧ b = true ∧ ¬ mk_ft g K k (4 + D k) f) → ∀ nw : Nat → Nat, (∀ s, s < 4 + D k → nw s = mk_fr M K k f s) → wY_check_71 post (wY_check_23 post (e + 1)) (nI k) (nI (mc_cc g)) (nI (mc_hc g)) (nI m) th f_typed f_wrongNumber f_wrongPlace (nI (D k)) 0 f_height f_objects f_line f_begun f_last f_end (ar (mc_p g)) (ar (mc_e g)) (ar (mc_o g)) (mc_r g) (ar (mc_f g)) (ar (mc_t g)) (ar (mc_g g)) (ar (mc_k g)) (ar pl) a_heights a_gone a_worst a_frames (ar kp) (ar hi) a_known (ar mp) (ar nw) a_sorts a_ints a_classes a_ready := by
        intro n1 nw hnw
        unfold wY_check_71
        refine xb_0 (ya_look hG hM Y hpl hkm A K90 f90 rfl n1 hnw (fun w ew w0 sz nw' => fail w ew w0 (by omega) sz nw') (fun e0 c90 nw' h' => ?_))
        unfold wY_check_87
        refine pk_le 0 0 (fun _ => ⟨vp_in_nI (by omega) (by omega), ?_⟩) (fun c => by omega)
        have ec' : mk_ck g m P D M K m 0 true (mc_e g) = mk_ck g m P D M K e (k + 1) (decide (md_gb (mc_o g (P k % 24)))) (mf_cg g P k (D k) (mk_fr M K k f)) := by
          rw [ec]; simp only [mk_ck]; rw [if_pos e0]
        rw [ar_at _ (by omega), hpl k hkm]
        have := md_Vlt hcc v
        refine ya_bh hG v (fun q => xb_n (by omega) (nm_r (nI_1 k) (ih (k + 1) (by omega) true _ nw' (mf_cg g P k (D k) (mk_fr M K k f)) (fun hk1 _ => ?_) (fun _ z => by cases z) c90 ?_))) (fun q => xb_m (nm_r (nI_1 k) (ih (k + 1) (by omega) false _ nw' (mf_cg g P k (D k) (mk_fr M K k f)) (fun _ z => by cases z) (fun hk1 _ => ?_) c90 ?_)))
        · obtain ⟨_, _, eD⟩ := mg_b Y hkm q
          rw [eD]; exact ⟨rfl, h'⟩
        · rw [decide_eq_true q] at ec'; exact ec'
        · exact (hMp (k + 1) hk1).mpr (mg_mapped Y hk1 q)
        · rw [decide_eq_false q] at ec'; exact ec'
      refine pk_le m k (fun c => by omega) (fun _ => ⟨vp_in_nI (by omega) (by omega), ?_⟩)
      rw [ar_at _ (by omega), hmp k hkm]
      cases eM : M k with
      | false =>
        refine xb_0 ?_
        have eb : b = true := by
          cases q : b
          · have := h2 hkm q; rw [eM] at this; cases this
          · rfl
        obtain ⟨ed, ef⟩ := h1 hkm eb
        rw [ed]
        refine look (fun z => by rw [eM] at z; cases z.1) nw (fun s hs => ?_)
        unfold mk_fr; rw [eM]; exact ef s hs
      | true =>
        have takes : ∀ nw1 : Nat → Nat, (∀ s, s < 4 + D k → nw1 s = kp (10 * k + s)) → ∀ s, s < 4 + D k → nw1 s = mk_fr M K k f s := by
          intro nw1 h s hs
          unfold mk_fr; rw [eM, if_pos rfl, h s hs]; exact A k hkm s hs
        refine xb_1 ?_
        cases eb : b with
        | false =>
          subst eb
          refine xb_0 ?_
          unfold wY_check_62
          exact ya_takeM (by omega) hDk (hhi k hkm) (fun nw1 hn => look (fun z => by cases z.2.1) nw1 (takes nw1 hn))
        | true =>
          subst eb
          obtain ⟨ed, ef⟩ := h1 hkm rfl
          refine xb_1 ⟨vp_in_nI (by omega) (by omega), ?_⟩
          rw [ar_at _ (by omega), hpl k hkm, ed]
          refine ya_und hG hM Y hpl hkm rfl rfl A K90 f90 ef (fun z => xb_1 ?_) (fun z => xb_0 ?_)
          · unfold wY_check_62
            exact ya_takeM (by omega) hDk (hhi k hkm) (fun nw1 hn => look (fun y => y.2.2 z) nw1 (takes nw1 hn))
          · unfold wY_check_62
            refine ya_takeM (by omega) hDk (hhi k hkm) (fun nw1 hn => ?_)
            unfold wY_check_71
            refine xb_1 (fail 1 ?_ (by omega) (by omega) _ _)
            unfold mk_rs
            rw [if_pos ⟨eM, rfl, z⟩]
  unfold wpY_check
  dsimp only
  refine br_f hth (ya_start (fun nw1 h1 => ⟨m + 1, ?_⟩))
  refine L m 0 (by omega) true 0 nw1 (mc_e g) (fun _ _ => ?_) (fun _ z => by cases z) (fun s => by have := hG.2.2.2.2.2.2 s; omega) rfl
  rw [D0]; exact ⟨rfl, fun s hs => h1 s (by omega)⟩
end
end
section
/-! ===== the class: one instruction of a run ===== -/
section
variable {f_codeCount f_coverCount f_placeCount f_tooMany f_layAnswer f_wrongKind f_wrongKey f_grown f_frameDepth f_frameThere f_lastReason f_valueDepth f_objectCount f_hasRun f_begun f_nowAt f_endClass : Int32} {a_parent a_entry a_code a_operand a_coverFrom a_coverTo a_coverTarget a_coverClass a_placeKey a_placeDepth a_cameWith a_ledWith a_faults a_found a_hasFound a_kept a_hasMap a_frame a_kind a_value a_objectClass a_objectReady : Nat → Int32}
variable {g : md_C} {q : mr_Q} {kd oc od : Nat → Nat} {vl : Nat → Int32}
def mr_kd (t : Nat) : Nat := if t < 3 then t else if t = 3 then 4 else 3
theorem mr_kd0 {t : Nat} : mr_kd t = 0 ↔ t = 0 := by
  unfold mr_kd
  repeat' split
  all_goals omega
theorem mr_kd1 {t : Nat} : mr_kd t = 1 ↔ t = 1 := by
  unfold mr_kd
  repeat' split
  all_goals omega
theorem mr_kd2 {t : Nat} : mr_kd t = 2 ↔ t = 2 := by
  unfold mr_kd
  repeat' split
  all_goals omega
theorem mr_kd3 {t : Nat} : mr_kd t = 3 ↔ 4 ≤ t := by
  unfold mr_kd
  repeat' split
  all_goals omega
theorem mr_kd4 {t : Nat} : mr_kd t = 4 ↔ t = 3 := by
  unfold mr_kd
  repeat' split
  all_goals omega
theorem mr_kdl (t : Nat) : mr_kd t ≤ 4 := by
  unfold mr_kd
  repeat' split
  all_goals omega
/-- what the class holds of a state of a run -/
def mr_X (q : mr_Q) (kd : Nat → Nat) (vl : Nat → Int32) (oc od : Nat → Nat) : Prop := (∀ s, s < 4 + rq_h q → kd s = mr_kd (rq_S q s) ∧ (rq_S q s = 1 ∨ rq_S q s = 3 → vl s = rq_I q s) ∧ (4 ≤ rq_S q s → vl s = nI (rq_S q s - 4))) ∧ (∀ j, j < rq_n q → oc j = rq_C q j ∧ od j = (rq_R q j).toNat)
theorem mr_X_set {i s h' l' : Nat} {v w : Int32} (R : mr_X q kd vl oc od) (hs : h' ≤ rq_h q ∨ (i = 4 + rq_h q ∧ h' = rq_h q + 1)) (hv : s = 1 ∨ s = 3 → w = v) (ho : 4 ≤ s → w = nI (s - 4)) : mr_X (mr_set q i s v h' l') (mf_up kd i (mr_kd s)) (upd vl i w) oc od := by
  refine ⟨fun j hj => ?_, R.2⟩
  have hj' : j < 4 + h' := hj
  show mf_up kd i (mr_kd s) j = mr_kd (mf_up (rq_S q) i s j) ∧ (mf_up (rq_S q) i s j = 1 ∨ mf_up (rq_S q) i s j = 3 → upd vl i w j = upd (rq_I q) i v j) ∧ (4 ≤ mf_up (rq_S q) i s j → upd vl i w j = nI (mf_up (rq_S q) i s j - 4))
  by_cases e : j = i
  · subst e
    rw [up_s, up_s, pk_us, pk_us]; exact ⟨rfl, hv, ho⟩
  · rw [up_n e, up_n e, pk_un e, pk_un e]
    exact R.1 j (by omega)
theorem mr_X_hl {h' l' : Nat} (R : mr_X q kd vl oc od) (hs : h' ≤ rq_h q) : mr_X (mr_hl q h' l') kd vl oc od := by
  refine ⟨fun j hj => ?_, R.2⟩
  have hj' : j < 4 + h' := hj
  exact R.1 j (by omega)
theorem mr_X_obj {c : Nat} {b : Bool} (R : mr_X q kd vl oc od) : mr_X (mr_obj q c b) kd vl (mf_up oc (rq_n q) c) (mf_up od (rq_n q) b.toNat) := by
  refine ⟨R.1, fun j hj => ?_⟩
  have hj' : j < rq_n q + 1 := hj
  show mf_up oc (rq_n q) c j = mf_up (rq_C q) (rq_n q) c j ∧ mf_up od (rq_n q) b.toNat j = (mr_uB (rq_R q) (rq_n q) b j).toNat
  unfold mr_uB
  by_cases e : j = rq_n q
  · subst e; rw [up_s, up_s, up_s, if_pos rfl]; exact ⟨rfl, rfl⟩
  · rw [up_n e, up_n e, up_n e, if_neg e]; exact R.2 j (by omega)
theorem xr_mo {post : Int32 → SX → Prop} {c : Nat} {b : Bool} (hn : rq_n q ≤ 203) (H : post (nI (rq_n q)) ((nI (mc_cc g)), (nI (mc_hc g)), f_placeCount, f_tooMany, f_layAnswer, f_wrongKind, f_wrongKey, f_grown, f_frameDepth, f_frameThere, f_lastReason, (nI (rq_h (mr_obj q c b))), (nI (rq_n (mr_obj q c b))), f_hasRun, f_begun, f_nowAt, f_endClass, (ar (mc_p g)), (ar (mc_e g)), (ar (mc_o g)), (mc_r g), (ar (mc_f g)), (ar (mc_t g)), (ar (mc_g g)), (ar (mc_k g)), a_placeKey, a_placeDepth, a_cameWith, a_ledWith, a_faults, a_found, a_hasFound, a_kept, a_hasMap, a_frame, (ar kd), vl, (ar (mf_up oc (rq_n q) c)), (ar (mf_up od (rq_n q) b.toNat)))) : wpX_makeObject post ((nI (mc_cc g)), (nI (mc_hc g)), f_placeCount, f_tooMany, f_layAnswer, f_wrongKind, f_wrongKey, f_grown, f_frameDepth, f_frameThere, f_lastReason, (nI (rq_h q)), (nI (rq_n q)), f_hasRun, f_begun, f_nowAt, f_endClass, (ar (mc_p g)), (ar (mc_e g)), (ar (mc_o g)), (mc_r g), (ar (mc_f g)), (ar (mc_t g)), (ar (mc_g g)), (ar (mc_k g)), a_placeKey, a_placeDepth, a_cameWith, a_ledWith, a_faults, a_found, a_hasFound, a_kept, a_hasMap, a_frame, (ar kd), vl, (ar oc), (ar od)) (nI c) (mf_b b) := by
  unfold wpX_makeObject
  dsimp only
  refine pk_lt (rq_n q) 204 (fun _ => ⟨vp_in_nI (by omega) (by omega), nm_r (ar_ui _ _ (by omega)) ⟨vp_in_nI (by omega) (by omega), nm_r (e' := ar (mf_up od (rq_n q) b.toNat)) ?_ (nm_r (nI_1 _) H)⟩⟩) (fun c => by omega)
  have : vp_nar .boolean (mf_b b) = nI b.toNat := by cases b <;> decide
  rw [this]; exact ar_ui _ _ (by omega)
theorem xr_ref {post : Int32 → Prop} {s : Nat} (R : mr_X q kd vl oc od) (ok : mr_ok g q) (hn : rq_n q ≤ 204) (hs : s < 4 + rq_h q) (h1 : mr_ref q (rq_S q s) → post 1) (h0 : ¬ mr_ref q (rq_S q s) → post 0) : wpX_isReference post ((nI (mc_cc g)), (nI (mc_hc g)), f_placeCount, f_tooMany, f_layAnswer, f_wrongKind, f_wrongKey, f_grown, f_frameDepth, f_frameThere, f_lastReason, (nI (rq_h q)), (nI (rq_n q)), f_hasRun, f_begun, f_nowAt, f_endClass, (ar (mc_p g)), (ar (mc_e g)), (ar (mc_o g)), (mc_r g), (ar (mc_f g)), (ar (mc_t g)), (ar (mc_g g)), (ar (mc_k g)), a_placeKey, a_placeDepth, a_cameWith, a_ledWith, a_faults, a_found, a_hasFound, a_kept, a_hasMap, a_frame, (ar kd), vl, (ar oc), (ar od)) (nI s) := by
  obtain ⟨r1, r2, r3⟩ := R.1 s hs
  have h6 := ok.1
  have kl := mr_kdl (rq_S q s)
  unfold wpX_isReference
  dsimp only
  have e1 : ar kd (nI s).toNatClampNeg = nI (mr_kd (rq_S q s)) := by rw [ar_at _ (by omega), r1]
  have e2 : vl (nI s).toNatClampNeg = vl s := by rw [nI_clamp (by omega)]
  rw [e1, e2]
  refine ⟨vp_in_nI (by omega) (by omega), pk_eq (mr_kd (rq_S q s)) 2 (fun c => h1 (Or.inl (mr_kd2.mp c))) (fun c => ⟨vp_in_nI (by omega) (by omega), pk_eq (mr_kd (rq_S q s)) 3 (fun d => ⟨vp_in_nI (by omega) (by omega), ?_⟩) (fun d => h0 ?_)⟩)⟩
  · have d' := mr_kd3.mp d
    have hj := (ok.2.2.1 s hs).1 d'
    rw [r3 d', ar_at _ (by omega), (R.2 _ hj).2]
    refine ⟨vp_in_nI (by omega) (by omega), ?_⟩
    cases e : rq_R q (rq_S q s - 4) with
    | false =>
      refine xb_0 (h0 ?_)
      rintro (z | ⟨_, z⟩)
      · exact c (mr_kd2.mpr z)
      · rw [e] at z; cases z
    | true => exact xb_1 (h1 (Or.inr ⟨d', e⟩))
  · rintro (z | ⟨z, _⟩)
    · exact c (mr_kd2.mpr z)
    · exact d (mr_kd3.mpr z)
theorem xr_of {post : Int32 → Prop} {s a : Nat} (hG : md_G g) (R : mr_X q kd vl oc od) (ok : mr_ok g q) (hn : rq_n q ≤ 204) (hs : s < 4 + rq_h q) (ha : a < 8) (h1 : (4 ≤ rq_S q s → mt_ab g a (rq_C q (rq_S q s - 4))) → post 1) (h0 : ¬ (4 ≤ rq_S q s → mt_ab g a (rq_C q (rq_S q s - 4))) → post 0) : wpX_isOfClass post ((nI (mc_cc g)), (nI (mc_hc g)), f_placeCount, f_tooMany, f_layAnswer, f_wrongKind, f_wrongKey, f_grown, f_frameDepth, f_frameThere, f_lastReason, (nI (rq_h q)), (nI (rq_n q)), f_hasRun, f_begun, f_nowAt, f_endClass, (ar (mc_p g)), (ar (mc_e g)), (ar (mc_o g)), (mc_r g), (ar (mc_f g)), (ar (mc_t g)), (ar (mc_g g)), (ar (mc_k g)), a_placeKey, a_placeDepth, a_cameWith, a_ledWith, a_faults, a_found, a_hasFound, a_kept, a_hasMap, a_frame, (ar kd), vl, (ar oc), (ar od)) (nI s) (nI a) := by
  obtain ⟨r1, r2, r3⟩ := R.1 s hs
  have h6 := ok.1
  have kl := mr_kdl (rq_S q s)
  unfold wpX_isOfClass
  dsimp only
  have e1 : ar kd (nI s).toNatClampNeg = nI (mr_kd (rq_S q s)) := by rw [ar_at _ (by omega), r1]
  have e2 : vl (nI s).toNatClampNeg = vl s := by rw [nI_clamp (by omega)]
  rw [e1, e2]
  refine ⟨vp_in_nI (by omega) (by omega), pk_eq (mr_kd (rq_S q s)) 3 (fun d => ⟨vp_in_nI (by omega) (by omega), ?_⟩) (fun d => h1 (fun z => absurd (mr_kd3.mpr z) d))⟩
  have d' := mr_kd3.mp d
  have hj := (ok.2.2.1 s hs).1 d'
  have hc := ok.2.2.2 _ hj
  rw [r3 d', ar_at _ (by omega), (R.2 _ hj).1]
  refine ⟨vp_in_nI (by omega) (by omega), xa_und hG hc ha (fun z => xb_1 (h1 (fun _ => z))) (fun z => xb_0 (h0 (fun y => z (y d'))))⟩
theorem xr_fn {post : Int32 → Prop} (hG : md_G g) (R : mr_X q kd vl oc od) (ok : mr_ok g q) (hn : rq_n q ≤ 204) (hl : rq_l q < mc_cc g) (h1 : mr_gd g q → post 1) (h0 : ¬ mr_gd g q → post 0) : wpX_findsNeeds post ((nI (mc_cc g)), (nI (mc_hc g)), f_placeCount, f_tooMany, f_layAnswer, f_wrongKind, f_wrongKey, f_grown, f_frameDepth, f_frameThere, f_lastReason, (nI (rq_h q)), (nI (rq_n q)), f_hasRun, f_begun, (nI (rq_l q)), f_endClass, (ar (mc_p g)), (ar (mc_e g)), (ar (mc_o g)), (mc_r g), (ar (mc_f g)), (ar (mc_t g)), (ar (mc_g g)), (ar (mc_k g)), a_placeKey, a_placeDepth, a_cameWith, a_ledWith, a_faults, a_found, a_hasFound, a_kept, a_hasMap, a_frame, (ar kd), vl, (ar oc), (ar od)) (nI (rq_l q)) := by
  have hcc := hG.1
  have h6 := ok.1
  have h20 : mr_o g q < 20 := hG.2.2.1 _
  have t2 := md_tk2 (mr_o g q)
  have p2 := md_pu2 (mr_o g q)
  have ho : mc_o g (rq_l q) = mr_o g q := rfl
  have ha : mc_a g (rq_l q) = mr_a g q := rfl
  unfold wpX_findsNeeds
  dsimp only
  refine ⟨vp_in_nI (by omega) (by omega), nm_r (e' := nI (mr_o g q)) (ar_at _ (by omega)) ⟨vp_in_nI (by omega) (by omega), nm_r (e' := mc_r g (rq_l q)) (by rw [nI_clamp (by omega)]) (xa_tk h20 (nm_e ?_))⟩⟩
  have I1 := mi_lt0 (rq_h q) (by omega) _ (show md_tk (mr_o g q) < 3 by omega)
  have I2 := mi_le6 (rq_h q) (by omega) _ (show md_tk (mr_o g q) < 3 by omega) _ (show md_pu (mr_o g q) < 3 by omega)
  refine br_c (fun c => h0 (fun z => ?_)) (fun c => ?_)
  · rw [I1] at c
    have := z.1.1
    omega
  rw [I1] at c
  refine xa_pu h20 (br_c (fun d => ?_) (fun d => h0 (fun z => ?_)))
  rotate_left
  · rw [I2] at d
    have := z.1.2
    omega
  rw [I2] at d
  have tk : md_tk (mr_o g q) ≤ rq_h q ∧ rq_h q + md_pu (mr_o g q) ≤ 6 + md_tk (mr_o g q) := ⟨by omega, d⟩
  have etop : (4 : Int32) + nI (rq_h q) - 1 = nI (3 + rq_h q) := by
    show nI 4 + nI (rq_h q) - nI 1 = _
    rw [nI_add, pk_sub (by omega)]; exact congrArg nI (by omega)
  refine nm_r etop ?_
  have et : 0 < rq_h q → rq_S q (3 + rq_h q) = mr_t q := fun _ => rfl
  have K : ∀ s, s < 4 + rq_h q → ar kd (nI s).toNatClampNeg = nI (mr_kd (rq_S q s)) := by
    intro s hs; rw [ar_at _ (by omega), (R.1 s hs).1]
  have tkn : ∀ n, mr_o g q = n → md_tk n ≤ rq_h q := by
    intro n e; rw [← e]; exact tk.1
  have T : (mr_o g q < 2 ∨ mr_o g q = 3 ∨ mr_o g q = 4 ∨ mr_o g q = 5 ∨ mr_o g q = 6 ∨ mr_o g q = 8 ∨ mr_o g q = 12 ∨ mr_o g q = 15 ∨ mr_o g q = 17) → post 1 := by
    intro z
    refine h1 ⟨tk, fun y => by omega, fun y => by omega, fun y => by omega, fun y => by omega, fun y => by omega, fun y => by omega, fun y => by omega⟩
  have nb1 : narrow .boolean (.int (1 : Int32)) = .int 1 := rfl
  have nb0 : narrow .boolean (.int (0 : Int32)) = .int 0 := rfl
  have S227 : (mr_o g q = 10 ∨ mr_o g q = 14 ∨ mr_o g q = 19) → 0 < rq_h q → wX_findsNeeds_227 post (nI (3 + rq_h q)) (nI (mc_cc g)) (nI (mc_hc g)) f_placeCount f_tooMany f_layAnswer f_wrongKind f_wrongKey f_grown f_frameDepth f_frameThere f_lastReason (nI (rq_h q)) (nI (rq_n q)) f_hasRun f_begun (nI (rq_l q)) f_endClass (ar (mc_p g)) (ar (mc_e g)) (ar (mc_o g)) (mc_r g) (ar (mc_f g)) (ar (mc_t g)) (ar (mc_g g)) (ar (mc_k g)) a_placeKey a_placeDepth a_cameWith a_ledWith a_faults a_found a_hasFound a_kept a_hasMap a_frame (ar kd) vl (ar oc) (ar od) := by
    intro z hp
    unfold wX_findsNeeds_227
    refine xr_ref R ok hn (by omega) (fun y => ⟨nb1, h1 ?_⟩) (fun y => ⟨nb0, h0 (fun w => y (w.2.2.2.2.1 z))⟩)
    exact ⟨tk, fun y => by omega, fun y => by omega, fun y => by omega, fun _ => y, fun y => by omega, fun y => by omega, fun y => by omega⟩
  have S234 : (mr_o g q = 11 ∨ mr_o g q = 18) → 0 < rq_h q → wX_findsNeeds_234 post (mc_r g (rq_l q)) (nI (3 + rq_h q)) (nI (mc_cc g)) (nI (mc_hc g)) f_placeCount f_tooMany f_layAnswer f_wrongKind f_wrongKey f_grown f_frameDepth f_frameThere f_lastReason (nI (rq_h q)) (nI (rq_n q)) f_hasRun f_begun (nI (rq_l q)) f_endClass (ar (mc_p g)) (ar (mc_e g)) (ar (mc_o g)) (mc_r g) (ar (mc_f g)) (ar (mc_t g)) (ar (mc_g g)) (ar (mc_k g)) a_placeKey a_placeDepth a_cameWith a_ledWith a_faults a_found a_hasFound a_kept a_hasMap a_frame (ar kd) vl (ar oc) (ar od) := by
    intro z hp
    have hla := mn_lim8 hG (i := rq_l q) (by omega)
    unfold wX_findsNeeds_234
    rw [hla.2]
    refine xr_ref R ok hn (by omega) (fun y => xb_1 (xr_of hG R ok hn (by omega) hla.1 (fun w => xb_1 (h1 ?_)) (fun w => xb_0 (h0 (fun v => w ?_))))) (fun y => xb_0 (h0 (fun v => y ?_)))
    · refine ⟨tk, fun y => by omega, fun y => by omega, fun y => by omega, fun y => by omega, fun _ => ?_, fun y => by omega, fun y => by omega⟩
      rcases y with y | ⟨y1, y2⟩
      · exact Or.inl y
      · exact Or.inr ⟨y1, y2, w y1⟩
    · intro y4
      rcases v.2.2.2.2.2.1 z with u | ⟨_, _, u⟩
      · have u' : rq_S q (3 + rq_h q) = 2 := u
        omega
      · exact u
    · rcases v.2.2.2.2.2.1 z with u | ⟨u1, u2, _⟩
      · exact Or.inl u
      · exact Or.inr ⟨u1, u2⟩
  refine pk_lt (mr_o g q) 2 (fun c => T (by omega)) (fun c2 => pk_lt 19 (mr_o g q) (fun c => by omega) (fun c19 => ?_))
  refine pk_eq (mr_o g q) 2 (fun c => ?_) (fun n2 => ?_)
  · have hla := mn_lim4 hG (i := rq_l q) (Or.inl c)
    have kl := mr_kdl (rq_S q (mr_a g q))
    rw [hla.2, ha, K _ (by omega)]
    refine ⟨vp_in_nI (by omega) (by omega), pk_eq (mr_kd (rq_S q (mr_a g q))) 0 (fun z => h0 (fun w => (w.2.1 c).1 (mr_kd0.mp z))) (fun z => ⟨vp_in_nI (by omega) (by omega), pk_eq (mr_kd (rq_S q (mr_a g q))) 4 (fun y => h0 (fun w => (w.2.1 c).2 (mr_kd4.mp y))) (fun y => h1 ?_)⟩)⟩
    exact ⟨tk, fun _ => ⟨fun w => z (mr_kd0.mpr w), fun w => y (mr_kd4.mpr w)⟩, fun y => by omega, fun y => by omega, fun y => by omega, fun y => by omega, fun y => by omega, fun y => by omega⟩
  refine pk_eq (mr_o g q) 3 (fun c => T (by omega)) (fun n3 => pk_eq (mr_o g q) 4 (fun c => T (by omega)) (fun n4 => pk_eq (mr_o g q) 5 (fun c => T (by omega)) (fun n5 => pk_eq (mr_o g q) 6 (fun c => T (by omega)) (fun n6 => ?_))))
  refine pk_eq (mr_o g q) 7 (fun c => ?_) (fun n7 => ?_)
  · have hp : 2 ≤ rq_h q := tkn 7 c
    have k1 := mr_kdl (rq_S q (3 + rq_h q))
    have k2 := mr_kdl (rq_S q (2 + rq_h q))
    have e2 : nI (3 + rq_h q) - 1 = nI (2 + rq_h q) := by
      show nI (3 + rq_h q) - nI 1 = _
      rw [pk_sub (by omega)]; exact congrArg nI (by omega)
    rw [e2, K _ (by omega), K _ (by omega)]
    refine ⟨vp_in_nI (by omega) (by omega), pk_eq (mr_kd (rq_S q (3 + rq_h q))) 1 (fun z => ⟨vp_in_nI (by omega) (by omega), pk_eq (mr_kd (rq_S q (2 + rq_h q))) 1 (fun y => h1 ?_) (fun y => h0 (fun w => y (mr_kd1.mpr (w.2.2.1 c).2)))⟩) (fun z => h0 (fun w => z (mr_kd1.mpr (w.2.2.1 c).1)))⟩
    exact ⟨tk, fun y => by omega, fun _ => ⟨mr_kd1.mp z, mr_kd1.mp y⟩, fun y => by omega, fun y => by omega, fun y => by omega, fun y => by omega, fun y => by omega⟩
  refine pk_eq (mr_o g q) 8 (fun c => T (by omega)) (fun n8 => ?_)
  refine pk_eq (mr_o g q) 9 (fun c => ?_) (fun n9 => ?_)
  · have hp : 1 ≤ rq_h q := tkn 9 c
    have k1 := mr_kdl (rq_S q (3 + rq_h q))
    have e2 : vl (nI (3 + rq_h q)).toNatClampNeg = vl (3 + rq_h q) := by rw [nI_clamp (by omega)]
    rw [K _ (by omega), e2]
    refine ⟨vp_in_nI (by omega) (by omega), pk_eq (mr_kd (rq_S q (3 + rq_h q))) 3 (fun z => ⟨vp_in_nI (by omega) (by omega), ?_⟩) (fun z => h0 (fun w => z (mr_kd3.mpr (w.2.2.2.1 c).1)))⟩
    have z' := mr_kd3.mp z
    have hj := (ok.2.2.1 (3 + rq_h q) (by omega)).1 z'
    rw [(R.1 (3 + rq_h q) (by omega)).2.2 z', ar_at _ (by omega), (R.2 _ hj).2]
    refine ⟨vp_in_nI (by omega) (by omega), ?_⟩
    cases e : rq_R q (rq_S q (3 + rq_h q) - 4) with
    | false => exact xb_0 (h1 ⟨tk, fun y => by omega, fun y => by omega, fun _ => ⟨z', e⟩, fun y => by omega, fun y => by omega, fun y => by omega, fun y => by omega⟩)
    | true =>
      refine xb_1 (h0 (fun w => ?_))
      have := (w.2.2.2.1 c).2
      have e' : rq_R q (mr_t q - 4) = true := e
      rw [e'] at this; cases this
  refine pk_eq (mr_o g q) 10 (fun c => S227 (by omega) (tkn 10 c)) (fun n10 => pk_eq (mr_o g q) 11 (fun c => S234 (by omega) (tkn 11 c)) (fun n11 => pk_eq (mr_o g q) 12 (fun c => T (by omega)) (fun n12 => ?_)))
  refine pk_eq (mr_o g q) 13 (fun c => ?_) (fun n13 => ?_)
  · have hp : 1 ≤ rq_h q := tkn 13 c
    have k1 := mr_kdl (rq_S q (3 + rq_h q))
    rw [K _ (by omega)]
    refine ⟨vp_in_nI (by omega) (by omega), pk_eq (mr_kd (rq_S q (3 + rq_h q))) 1 (fun z => h1 ?_) (fun z => h0 (fun w => z (mr_kd1.mpr (w.2.2.2.2.2.2.1 c))))⟩
    exact ⟨tk, fun y => by omega, fun y => by omega, fun y => by omega, fun y => by omega, fun y => by omega, fun _ => mr_kd1.mp z, fun y => by omega⟩
  refine pk_eq (mr_o g q) 14 (fun c => S227 (by omega) (tkn 14 c)) (fun n14 => pk_eq (mr_o g q) 15 (fun c => T (by omega)) (fun n15 => ?_))
  refine pk_eq (mr_o g q) 16 (fun c => ?_) (fun n16 => ?_)
  · have hla := mn_lim4 hG (i := rq_l q) (Or.inr (Or.inr c))
    have kl := mr_kdl (rq_S q (mr_a g q))
    rw [hla.2, ha, K _ (by omega)]
    refine ⟨vp_in_nI (by omega) (by omega), pk_eq (mr_kd (rq_S q (mr_a g q))) 4 (fun z => h1 ?_) (fun z => h0 (fun w => z (mr_kd4.mpr (w.2.2.2.2.2.2.2 c))))⟩
    exact ⟨tk, fun y => by omega, fun y => by omega, fun y => by omega, fun y => by omega, fun y => by omega, fun y => by omega, fun _ => mr_kd4.mp z⟩
  refine pk_eq (mr_o g q) 17 (fun c => T (by omega)) (fun n17 => pk_eq (mr_o g q) 18 (fun c => S234 (by omega) (tkn 18 c)) (fun n18 => pk_eq (mr_o g q) 19 (fun c => S227 (by omega) (tkn 19 c)) (fun n19 => by omega)))
end
end
section
/-! ===== the class: raising, going on, the whole instruction ===== -/
section
variable {f_codeCount f_coverCount f_placeCount f_tooMany f_layAnswer f_wrongKind f_wrongKey f_grown f_frameDepth f_frameThere f_lastReason f_valueDepth f_objectCount f_hasRun f_begun f_nowAt f_endClass : Int32} {a_parent a_entry a_code a_operand a_coverFrom a_coverTo a_coverTarget a_coverClass a_placeKey a_placeDepth a_cameWith a_ledWith a_faults a_found a_hasFound a_kept a_hasMap a_frame a_kind a_value a_objectClass a_objectReady : Nat → Int32}
variable {g : md_C} {q : mr_Q} {kd oc od : Nat → Nat} {vl : Nat → Int32}
theorem xr_top (q : mr_Q) : (4 : Int32) + nI (rq_h q) - 1 = nI (3 + rq_h q) := by
  show nI 4 + nI (rq_h q) - nI 1 = _
  rw [nI_add, pk_sub (by omega)]; exact congrArg nI (by omega)
theorem xr_rat {post : Int32 → SX → Prop} (hG : md_G g) (R : mr_X q kd vl oc od) (ok : mr_ok g q) (hn : rq_n q ≤ 203) (hl : rq_l q < mc_cc g) (gd : mr_gd g q) (H0 : mr_rs g q = none → post (-1) ((nI (mc_cc g)), (nI (mc_hc g)), f_placeCount, f_tooMany, f_layAnswer, f_wrongKind, f_wrongKey, f_grown, f_frameDepth, f_frameThere, f_lastReason, (nI (rq_h q)), (nI (rq_n q)), f_hasRun, f_begun, (nI (rq_l q)), f_endClass, (ar (mc_p g)), (ar (mc_e g)), (ar (mc_o g)), (mc_r g), (ar (mc_f g)), (ar (mc_t g)), (ar (mc_g g)), (ar (mc_k g)), a_placeKey, a_placeDepth, a_cameWith, a_ledWith, a_faults, a_found, a_hasFound, a_kept, a_hasMap, a_frame, (ar kd), vl, (ar oc), (ar od))) (H1 : ∀ ob q', mr_rs g q = some (ob, q') → ∀ oc od : Nat → Nat, mr_X q' kd vl oc od → post (nI ob) ((nI (mc_cc g)), (nI (mc_hc g)), f_placeCount, f_tooMany, f_layAnswer, f_wrongKind, f_wrongKey, f_grown, f_frameDepth, f_frameThere, f_lastReason, (nI (rq_h q')), (nI (rq_n q')), f_hasRun, f_begun, (nI (rq_l q')), f_endClass, (ar (mc_p g)), (ar (mc_e g)), (ar (mc_o g)), (mc_r g), (ar (mc_f g)), (ar (mc_t g)), (ar (mc_g g)), (ar (mc_k g)), a_placeKey, a_placeDepth, a_cameWith, a_ledWith, a_faults, a_found, a_hasFound, a_kept, a_hasMap, a_frame, (ar kd), vl, (ar oc), (ar od))) : wpX_raisedAt post ((nI (mc_cc g)), (nI (mc_hc g)), f_placeCount, f_tooMany, f_layAnswer, f_wrongKind, f_wrongKey, f_grown, f_frameDepth, f_frameThere, f_lastReason, (nI (rq_h q)), (nI (rq_n q)), f_hasRun, f_begun, (nI (rq_l q)), f_endClass, (ar (mc_p g)), (ar (mc_e g)), (ar (mc_o g)), (mc_r g), (ar (mc_f g)), (ar (mc_t g)), (ar (mc_g g)), (ar (mc_k g)), a_placeKey, a_placeDepth, a_cameWith, a_ledWith, a_faults, a_found, a_hasFound, a_kept, a_hasMap, a_frame, (ar kd), vl, (ar oc), (ar od)) (nI (rq_l q)) := by
  have hcc := hG.1
  have h6 := ok.1
  have h20 : mr_o g q < 20 := hG.2.2.1 _
  have tk := gd.1.1
  have ha : mc_a g (rq_l q) = mr_a g q := rfl
  have tkn : ∀ n, mr_o g q = n → md_tk n ≤ rq_h q := by
    intro n e; rw [← e]; exact tk
  unfold wpX_raisedAt
  dsimp only
  refine ⟨vp_in_nI (by omega) (by omega), nm_r (e' := nI (mr_o g q)) (ar_at _ (by omega)) (nm_r (xr_top q) ?_)⟩
  have S72 : ¬ (mr_o g q = 10 ∧ ¬ mr_of g q (mr_t q) (mr_a g q)) → ¬ ((mr_o g q = 11 ∨ mr_o g q = 19) ∧ mr_t q = 2) → wX_raisedAt_72 post (nI (mr_o g q)) (nI (3 + rq_h q)) (nI (mc_cc g)) (nI (mc_hc g)) f_placeCount f_tooMany f_layAnswer f_wrongKind f_wrongKey f_grown f_frameDepth f_frameThere f_lastReason (nI (rq_h q)) (nI (rq_n q)) f_hasRun f_begun (nI (rq_l q)) f_endClass (ar (mc_p g)) (ar (mc_e g)) (ar (mc_o g)) (mc_r g) (ar (mc_f g)) (ar (mc_t g)) (ar (mc_g g)) (ar (mc_k g)) a_placeKey a_placeDepth a_cameWith a_ledWith a_faults a_found a_hasFound a_kept a_hasMap a_frame (ar kd) vl (ar oc) (ar od) := by
    intro n1 n2
    unfold wX_raisedAt_72
    refine pk_eq (mr_o g q) 19 (fun c => ?_) (fun c => H0 ?_)
    · have hp : 1 ≤ rq_h q := tkn 19 c
      have t2 : ¬ mr_t q = 2 := fun z => n2 ⟨Or.inr c, z⟩
      have t4 : 4 ≤ mr_t q := by
        rcases gd.2.2.2.2.1 (Or.inr (Or.inr c)) with z | ⟨z, _⟩
        · exact absurd z t2
        · exact z
      have e2 : vl (nI (3 + rq_h q)).toNatClampNeg = nI (mr_t q - 4) := by
        rw [nI_clamp (by omega)]; exact (R.1 (3 + rq_h q) (by omega)).2.2 t4
      rw [e2]
      refine ⟨vp_in_nI (by omega) (by omega), H1 (mr_t q - 4) q ?_ oc od R⟩
      unfold mr_rs; rw [if_neg n1, if_neg n2, if_pos c]
    · unfold mr_rs; rw [if_neg n1, if_neg n2, if_neg c]
  have S43 : ¬ (mr_o g q = 10 ∧ ¬ mr_of g q (mr_t q) (mr_a g q)) → wX_raisedAt_43 post (nI (mr_o g q)) (nI (3 + rq_h q)) (nI (mc_cc g)) (nI (mc_hc g)) f_placeCount f_tooMany f_layAnswer f_wrongKind f_wrongKey f_grown f_frameDepth f_frameThere f_lastReason (nI (rq_h q)) (nI (rq_n q)) f_hasRun f_begun (nI (rq_l q)) f_endClass (ar (mc_p g)) (ar (mc_e g)) (ar (mc_o g)) (mc_r g) (ar (mc_f g)) (ar (mc_t g)) (ar (mc_g g)) (ar (mc_k g)) a_placeKey a_placeDepth a_cameWith a_ledWith a_faults a_found a_hasFound a_kept a_hasMap a_frame (ar kd) vl (ar oc) (ar od) := by
    intro n1
    have S55 : (mr_o g q = 11 ∨ mr_o g q = 19) → 0 < rq_h q → wX_raisedAt_55 post (nI (mr_o g q)) (nI (3 + rq_h q)) (nI (mc_cc g)) (nI (mc_hc g)) f_placeCount f_tooMany f_layAnswer f_wrongKind f_wrongKey f_grown f_frameDepth f_frameThere f_lastReason (nI (rq_h q)) (nI (rq_n q)) f_hasRun f_begun (nI (rq_l q)) f_endClass (ar (mc_p g)) (ar (mc_e g)) (ar (mc_o g)) (mc_r g) (ar (mc_f g)) (ar (mc_t g)) (ar (mc_g g)) (ar (mc_k g)) a_placeKey a_placeDepth a_cameWith a_ledWith a_faults a_found a_hasFound a_kept a_hasMap a_frame (ar kd) vl (ar oc) (ar od) := by
      intro c hp
      have kl := mr_kdl (mr_t q)
      have e1 : ar kd (nI (3 + rq_h q)).toNatClampNeg = nI (mr_kd (mr_t q)) := by rw [ar_at _ (by omega), (R.1 (3 + rq_h q) (by omega)).1]; rfl
      unfold wX_raisedAt_55
      rw [e1]
      refine ⟨vp_in_nI (by omega) (by omega), pk_eq (mr_kd (mr_t q)) 2 (fun z => ?_) (fun z => S72 n1 (fun w => z (mr_kd2.mpr w.2)))⟩
      refine xr_mo (c := 2) (b := true) (by omega) (H1 (rq_n q) (mr_obj q 2 true) ?_ _ _ (mr_X_obj R))
      unfold mr_rs; rw [if_neg n1, if_pos ⟨c, mr_kd2.mp z⟩]
    unfold wX_raisedAt_43
    refine pk_eq (mr_o g q) 11 (fun c => S55 (Or.inl c) (tkn 11 c)) (fun c => pk_eq (mr_o g q) 19 (fun d => S55 (Or.inr d) (tkn 19 d)) (fun d => S72 n1 (fun w => by rcases w.1 with z | z <;> omega)))
  refine pk_eq (mr_o g q) 10 (fun c => ?_) (fun c => S43 (fun z => c z.1))
  have hp : 1 ≤ rq_h q := tkn 10 c
  have hla := mn_lim8 hG (i := rq_l q) (Or.inr (Or.inl c))
  have rf := gd.2.2.2.2.1 (Or.inl c)
  rw [nI_clamp (by omega), hla.2]
  refine ⟨vp_in_nI (by omega) (by omega), xr_of hG R ok (by omega) (by omega) hla.1 (fun z => xb_1 (S43 (fun w => w.2 ?_))) (fun z => xb_0 (xr_mo (c := 1) (b := true) (by omega) (H1 (rq_n q) (mr_obj q 1 true) ?_ _ _ (mr_X_obj R))))⟩
  · rcases rf with y | ⟨y1, y2⟩
    · exact Or.inl y
    · exact Or.inr ⟨y1, y2, z y1⟩
  · have nof : ¬ mr_of g q (mr_t q) (mr_a g q) := by
      intro w
      refine z (fun y => ?_)
      rcases w with w | ⟨_, _, w⟩
      · have w' : rq_S q (3 + rq_h q) = 2 := w
        omega
      · exact w
    unfold mr_rs
    rw [if_pos ⟨c, nof⟩]
theorem xr_raise {post : Int32 → SX → Prop} {ob : Nat} (hG : md_G g) (R : mr_X q kd vl oc od) (ok : mr_ok g q) (hn : rq_n q ≤ 204) (hl : rq_l q < mc_cc g) (hob : ob < rq_n q) (H1 : ∀ q', mr_rz g q ob = (q', 0, 0) → ∀ (kd : Nat → Nat) (vl : Nat → Int32), mr_X q' kd vl oc od → post (-1) ((nI (mc_cc g)), (nI (mc_hc g)), f_placeCount, f_tooMany, f_layAnswer, f_wrongKind, f_wrongKey, f_grown, f_frameDepth, f_frameThere, f_lastReason, (nI (rq_h q')), (nI (rq_n q')), f_hasRun, f_begun, (nI (rq_l q')), f_endClass, (ar (mc_p g)), (ar (mc_e g)), (ar (mc_o g)), (mc_r g), (ar (mc_f g)), (ar (mc_t g)), (ar (mc_g g)), (ar (mc_k g)), a_placeKey, a_placeDepth, a_cameWith, a_ledWith, a_faults, a_found, a_hasFound, a_kept, a_hasMap, a_frame, (ar kd), vl, (ar oc), (ar od))) (H0 : mr_rz g q ob = (q, 3, rq_C q ob + 1) → post 2 ((nI (mc_cc g)), (nI (mc_hc g)), f_placeCount, f_tooMany, f_layAnswer, f_wrongKind, f_wrongKey, f_grown, f_frameDepth, f_frameThere, f_lastReason, (nI (rq_h q)), (nI (rq_n q)), f_hasRun, f_begun, (nI (rq_l q)), (nI (rq_C q ob)), (ar (mc_p g)), (ar (mc_e g)), (ar (mc_o g)), (mc_r g), (ar (mc_f g)), (ar (mc_t g)), (ar (mc_g g)), (ar (mc_k g)), a_placeKey, a_placeDepth, a_cameWith, a_ledWith, a_faults, a_found, a_hasFound, a_kept, a_hasMap, a_frame, (ar kd), vl, (ar oc), (ar od))) : wpX_raise post ((nI (mc_cc g)), (nI (mc_hc g)), f_placeCount, f_tooMany, f_layAnswer, f_wrongKind, f_wrongKey, f_grown, f_frameDepth, f_frameThere, f_lastReason, (nI (rq_h q)), (nI (rq_n q)), f_hasRun, f_begun, (nI (rq_l q)), f_endClass, (ar (mc_p g)), (ar (mc_e g)), (ar (mc_o g)), (mc_r g), (ar (mc_f g)), (ar (mc_t g)), (ar (mc_g g)), (ar (mc_k g)), a_placeKey, a_placeDepth, a_cameWith, a_ledWith, a_faults, a_found, a_hasFound, a_kept, a_hasMap, a_frame, (ar kd), vl, (ar oc), (ar od)) (nI (rq_l q)) (nI ob) := by
  have hcc := hG.1
  have hhc := hG.2.1
  have hc := ok.2.2.2 _ hob
  unfold wpX_raise
  dsimp only
  refine ⟨vp_in_nI (by omega) (by omega), nm_r (e' := nI (rq_C q ob)) (by rw [ar_at _ (by omega), (R.2 _ hob).1]) ⟨5, ?_⟩⟩
  have L : ∀ e x, x + e = 4 → x ≤ mc_hc g → mr_fd g (rq_l q) (rq_C q ob) (mc_hc g) 0 = mr_fd g (rq_l q) (rq_C q ob) (mc_hc g - x) x → wX_raise_10 post (nI (rq_l q)) (nI ob) (nI (rq_C q ob)) (nI (mc_cc g)) (nI (mc_hc g)) f_placeCount f_tooMany f_layAnswer f_wrongKind f_wrongKey f_grown f_frameDepth f_frameThere f_lastReason (nI (rq_h q)) (nI (rq_n q)) f_hasRun f_begun (nI (rq_l q)) f_endClass (ar (mc_p g)) (ar (mc_e g)) (ar (mc_o g)) (mc_r g) (ar (mc_f g)) (ar (mc_t g)) (ar (mc_g g)) (ar (mc_k g)) a_placeKey a_placeDepth a_cameWith a_ledWith a_faults a_found a_hasFound a_kept a_hasMap a_frame (ar kd) vl (ar oc) (ar od) (e + 1) (nI x) := by
    have none : ∀ x, mc_hc g ≤ x → mr_fd g (rq_l q) (rq_C q ob) (mc_hc g) 0 = mr_fd g (rq_l q) (rq_C q ob) (mc_hc g - x) x → post 2 ((nI (mc_cc g)), (nI (mc_hc g)), f_placeCount, f_tooMany, f_layAnswer, f_wrongKind, f_wrongKey, f_grown, f_frameDepth, f_frameThere, f_lastReason, (nI (rq_h q)), (nI (rq_n q)), f_hasRun, f_begun, (nI (rq_l q)), (nI (rq_C q ob)), (ar (mc_p g)), (ar (mc_e g)), (ar (mc_o g)), (mc_r g), (ar (mc_f g)), (ar (mc_t g)), (ar (mc_g g)), (ar (mc_k g)), a_placeKey, a_placeDepth, a_cameWith, a_ledWith, a_faults, a_found, a_hasFound, a_kept, a_hasMap, a_frame, (ar kd), vl, (ar oc), (ar od)) := by
      intro x hx ef
      refine H0 ?_
      rw [show mc_hc g - x = 0 by omega] at ef
      unfold mr_rz; rw [ef]; rfl
    intro e
    induction e with
    | zero =>
      intro x hx hxc ef
      exact pk_le 4 x (fun _ => none x (by omega) ef) (fun c => by omega)
    | succ e ih =>
      intro x hx hxc ef
      have hb := hG.2.2.2.2.1 x
      refine pk_le 4 x (fun c => by omega) (fun _ => pk_le (mc_hc g) x (fun c => none x c ef) (fun c => ?_))
      have ef2 : mr_fd g (rq_l q) (rq_C q ob) (mc_hc g) 0 = if (mc_f g x ≤ rq_l q ∧ rq_l q < mc_t g x) ∧ mt_ab g (mc_k g x) (rq_C q ob) then some x else mr_fd g (rq_l q) (rq_C q ob) (mc_hc g - (x + 1)) (x + 1) := by
        rw [ef, show mc_hc g - x = (mc_hc g - (x + 1)) + 1 by omega]; rfl
      have nx : ¬ ((mc_f g x ≤ rq_l q ∧ rq_l q < mc_t g x) ∧ mt_ab g (mc_k g x) (rq_C q ob)) → wX_raise_10 post (nI (rq_l q)) (nI ob) (nI (rq_C q ob)) (nI (mc_cc g)) (nI (mc_hc g)) f_placeCount f_tooMany f_layAnswer f_wrongKind f_wrongKey f_grown f_frameDepth f_frameThere f_lastReason (nI (rq_h q)) (nI (rq_n q)) f_hasRun f_begun (nI (rq_l q)) f_endClass (ar (mc_p g)) (ar (mc_e g)) (ar (mc_o g)) (mc_r g) (ar (mc_f g)) (ar (mc_t g)) (ar (mc_g g)) (ar (mc_k g)) a_placeKey a_placeDepth a_cameWith a_ledWith a_faults a_found a_hasFound a_kept a_hasMap a_frame (ar kd) vl (ar oc) (ar od) (e + 1) (nI (x + 1)) := by
        intro z
        rw [if_neg z] at ef2
        exact ih (x + 1) (by omega) (by omega) ef2
      refine xa_cov hG (by omega) (by omega) (fun cv => xb_1 ⟨vp_in_nI (by omega) (by omega), ?_⟩) (fun cv => xb_0 (nm_r (nI_1 x) (nx (fun z => cv z.1))))
      rw [ar_at (mc_k g) (by omega)]
      refine xa_und hG hc hb.2.2.2 (fun z => xb_1 ?_) (fun z => xb_0 (nm_r (nI_1 x) (nx (fun w => z w.2))))
      rw [if_pos ⟨cv, z⟩] at ef2
      refine nm_r (e' := ar (mf_up kd 4 3)) (ar_up kd 4 3) (nm_e ⟨vp_in_nI (by omega) (by omega), nm_r (ar_at _ (by omega)) ?_⟩)
      have er : mr_rz g q ob = ((mf_up (rq_S q) 4 (4 + ob), rq_I q, rq_C q, rq_R q, 1, rq_n q, mc_g g x), 0, 0) := by
        unfold mr_rz; rw [ef2]
      refine H1 _ er (mf_up kd 4 3) (upd vl 4 (nI ob)) ⟨fun j hj => ?_, R.2⟩
      have hj' : j < 5 := hj
      show mf_up kd 4 3 j = mr_kd (mf_up (rq_S q) 4 (4 + ob) j) ∧ (mf_up (rq_S q) 4 (4 + ob) j = 1 ∨ mf_up (rq_S q) 4 (4 + ob) j = 3 → upd vl 4 (nI ob) j = rq_I q j) ∧ (4 ≤ mf_up (rq_S q) 4 (4 + ob) j → upd vl 4 (nI ob) j = nI (mf_up (rq_S q) 4 (4 + ob) j - 4))
      by_cases e4 : j = 4
      · subst e4
        rw [up_s, up_s, pk_us]
        refine ⟨(mr_kd3.mpr (by omega)).symm, fun w => by omega, fun _ => ?_⟩
        rw [show 4 + ob - 4 = ob by omega]
      · rw [up_n e4, up_n e4, pk_un e4]
        exact R.1 j (by omega)
  exact L 4 0 rfl (by omega) rfl
theorem xr_next {post : Int32 → Prop} (hG : md_G g) (R : mr_X q kd vl oc od) (ok : mr_ok g q) (hl : rq_l q < mc_cc g) (gd : mr_gd g q) (h17 : ¬ mr_o g q = 17) (h18 : ¬ mr_o g q = 18) (H : post (nI (rq_l (mr_nx g q)))) : wpX_nextOf post ((nI (mc_cc g)), (nI (mc_hc g)), f_placeCount, f_tooMany, f_layAnswer, f_wrongKind, f_wrongKey, f_grown, f_frameDepth, f_frameThere, f_lastReason, (nI (rq_h q)), (nI (rq_n q)), f_hasRun, f_begun, (nI (rq_l q)), f_endClass, (ar (mc_p g)), (ar (mc_e g)), (ar (mc_o g)), (mc_r g), (ar (mc_f g)), (ar (mc_t g)), (ar (mc_g g)), (ar (mc_k g)), a_placeKey, a_placeDepth, a_cameWith, a_ledWith, a_faults, a_found, a_hasFound, a_kept, a_hasMap, a_frame, (ar kd), vl, (ar oc), (ar od)) (nI (rq_l q)) := by
  have hcc := hG.1
  have h6 := ok.1
  have h20 : mr_o g q < 20 := hG.2.2.1 _
  have tk := gd.1.1
  have ha : mc_a g (rq_l q) = mr_a g q := rfl
  have tkn : ∀ n, mr_o g q = n → md_tk n ≤ rq_h q := by
    intro n e; rw [← e]; exact tk
  unfold wpX_nextOf
  dsimp only
  refine ⟨vp_in_nI (by omega) (by omega), nm_r (e' := mc_r g (rq_l q)) (by rw [nI_clamp (by omega)]) (nm_r (xr_top q) ⟨vp_in_nI (by omega) (by omega), nm_r (e' := nI (mr_o g q)) (ar_at _ (by omega)) ?_⟩)⟩
  rw [nI_1]
  have dflt : mr_o g q < 12 ∨ 16 < mr_o g q → post (nI (rq_l q + 1)) := by
    intro z
    have cs : mr_o g q = 0 ∨ mr_o g q = 1 ∨ mr_o g q = 2 ∨ mr_o g q = 3 ∨ mr_o g q = 5 ∨ mr_o g q = 6 ∨ mr_o g q = 7 ∨ mr_o g q = 8 ∨ mr_o g q = 9 ∨ mr_o g q = 10 ∨ (mr_o g q = 4 ∨ mr_o g q = 11 ∨ 17 ≤ mr_o g q) := by omega
    rcases cs with o | o | o | o | o | o | o | o | o | o | o
    · rw [mr_nx0 o] at H; exact H
    · rw [mr_nx1 o] at H; exact H
    · rw [mr_nx2 o] at H; exact H
    · rw [mr_nx3 o] at H; exact H
    · rw [mr_nx5 o] at H; exact H
    · rw [mr_nx6 o] at H; exact H
    · rw [mr_nx7 o] at H; exact H
    · rw [mr_nx8 o] at H; exact H
    · rw [mr_nx9 o] at H; exact H
    · rw [mr_nx10 o] at H; exact H
    · rw [mr_nxd o] at H; exact H
  refine pk_lt (mr_o g q) 12 (fun c => dflt (Or.inl c)) (fun c12 => pk_lt 16 (mr_o g q) (fun c => dflt (Or.inr c)) (fun c16 => ?_))
  refine pk_eq (mr_o g q) 12 (fun c => ?_) (fun n12 => ?_)
  · rw [(mn_lim24 hG (i := rq_l q) (by show 12 ≤ mr_o g q ∧ _; exact ⟨by omega, by show mr_o g q ≤ 15; omega⟩)).2]
    rw [mr_nx12 c] at H; exact H
  refine pk_eq (mr_o g q) 13 (fun c => ?_) (fun n13 => ?_)
  · have hp : 1 ≤ rq_h q := tkn 13 c
    have t1 : mr_t q = 1 := gd.2.2.2.2.2.2.1 c
    have e2 : vl (nI (3 + rq_h q)).toNatClampNeg = rq_I q (3 + rq_h q) := by
      rw [nI_clamp (by omega)]; exact (R.1 (3 + rq_h q) (by omega)).2.1 (Or.inl t1)
    rw [(mn_lim24 hG (i := rq_l q) (by show 12 ≤ mr_o g q ∧ _; exact ⟨by omega, by show mr_o g q ≤ 15; omega⟩)).2, e2]
    rw [mr_nx13 c] at H
    have H' : post (nI (if rq_I q (3 + rq_h q) = 0 then rq_l q + 1 else mr_a g q)) := H
    refine ⟨vp_in_nI (by omega) (by omega), br_c (fun z => ?_) (fun z => ?_)⟩
    · rw [if_pos z] at H'; exact H'
    · rw [if_neg z] at H'; exact H'
  refine pk_eq (mr_o g q) 14 (fun c => ?_) (fun n14 => ?_)
  · have hp : 1 ≤ rq_h q := tkn 14 c
    have kl := mr_kdl (mr_t q)
    have e1 : ar kd (nI (3 + rq_h q)).toNatClampNeg = nI (mr_kd (mr_t q)) := by rw [ar_at _ (by omega), (R.1 (3 + rq_h q) (by omega)).1]; rfl
    rw [(mn_lim24 hG (i := rq_l q) (by show 12 ≤ mr_o g q ∧ _; exact ⟨by omega, by show mr_o g q ≤ 15; omega⟩)).2, e1]
    rw [mr_nx14 c] at H
    have H' : post (nI (if mr_t q = 2 then mr_a g q else rq_l q + 1)) := H
    refine ⟨vp_in_nI (by omega) (by omega), pk_eq (mr_kd (mr_t q)) 2 (fun z => ?_) (fun z => ?_)⟩
    · rw [if_pos (mr_kd2.mp z)] at H'; exact H'
    · rw [if_neg (fun w => z (mr_kd2.mpr w))] at H'; exact H'
  refine pk_eq (mr_o g q) 15 (fun c => ?_) (fun n15 => ?_)
  · rw [(mn_lim24 hG (i := rq_l q) (by show 12 ≤ mr_o g q ∧ _; exact ⟨by omega, by show mr_o g q ≤ 15; omega⟩)).2]
    rw [mr_nx15 c] at H; exact H
  refine pk_eq (mr_o g q) 16 (fun c => ?_) (fun n16 => by omega)
  have hla := mn_lim4 hG (i := rq_l q) (Or.inr (Or.inr c))
  have s3 := gd.2.2.2.2.2.2.2 c
  obtain ⟨l, hl1, hl2⟩ := (ok.2.2.1 (mr_a g q) (by omega)).2 s3
  have e2 : vl (mr_a g q) = nI l := by rw [(R.1 (mr_a g q) (by omega)).2.1 (Or.inr s3), hl2]
  rw [hla.2, ha, nI_clamp (by omega), e2, nI_1]
  rw [mr_nx16 c] at H
  have H' : post (nI ((rq_I q (mr_a g q)).toNatClampNeg + 1)) := H
  rw [hl2, nI_clamp (by omega)] at H'
  exact ⟨vp_in_nI (by omega) (by omega), H'⟩
theorem xr_set {post : SX → Prop} {i s : Nat} {w : Int32} (hi : i < 10) (H : post (f_codeCount, f_coverCount, f_placeCount, f_tooMany, f_layAnswer, f_wrongKind, f_wrongKey, f_grown, f_frameDepth, f_frameThere, f_lastReason, f_valueDepth, f_objectCount, f_hasRun, f_begun, f_nowAt, f_endClass, a_parent, a_entry, a_code, a_operand, a_coverFrom, a_coverTo, a_coverTarget, a_coverClass, a_placeKey, a_placeDepth, a_cameWith, a_ledWith, a_faults, a_found, a_hasFound, a_kept, a_hasMap, a_frame, (ar (mf_up kd i s)), (upd vl i w), a_objectClass, a_objectReady)) : wpX_setValue post (f_codeCount, f_coverCount, f_placeCount, f_tooMany, f_layAnswer, f_wrongKind, f_wrongKey, f_grown, f_frameDepth, f_frameThere, f_lastReason, f_valueDepth, f_objectCount, f_hasRun, f_begun, f_nowAt, f_endClass, a_parent, a_entry, a_code, a_operand, a_coverFrom, a_coverTo, a_coverTarget, a_coverClass, a_placeKey, a_placeDepth, a_cameWith, a_ledWith, a_faults, a_found, a_hasFound, a_kept, a_hasMap, a_frame, (ar kd), vl, a_objectClass, a_objectReady) (nI i) (nI s) w := by
  unfold wpX_setValue
  dsimp only
  refine ⟨vp_in_nI (by omega) (by omega), nm_r (ar_ui _ _ (by omega)) ⟨vp_in_nI (by omega) (by omega), nm_r (e' := upd vl i w) (by rw [nI_clamp (by omega)]) H⟩⟩
theorem xr_chg {post : SX → Prop} (hG : md_G g) (R : mr_X q kd vl oc od) (ok : mr_ok g q) (hn : rq_n q ≤ 203) (hl : rq_l q < mc_cc g) (gd : mr_gd g q) (nrs : mr_rs g q = none) (h17 : ¬ mr_o g q = 17) (h18 : ¬ mr_o g q = 18) (H : ∀ (kd oc od : Nat → Nat) (vl : Nat → Int32), mr_X (mr_nx g q) kd vl oc od → post ((nI (mc_cc g)), (nI (mc_hc g)), f_placeCount, f_tooMany, f_layAnswer, f_wrongKind, f_wrongKey, f_grown, f_frameDepth, f_frameThere, f_lastReason, (nI (rq_h (mr_nx g q))), (nI (rq_n (mr_nx g q))), f_hasRun, f_begun, f_nowAt, f_endClass, (ar (mc_p g)), (ar (mc_e g)), (ar (mc_o g)), (mc_r g), (ar (mc_f g)), (ar (mc_t g)), (ar (mc_g g)), (ar (mc_k g)), a_placeKey, a_placeDepth, a_cameWith, a_ledWith, a_faults, a_found, a_hasFound, a_kept, a_hasMap, a_frame, (ar kd), vl, (ar oc), (ar od))) : wpX_changeValues post ((nI (mc_cc g)), (nI (mc_hc g)), f_placeCount, f_tooMany, f_layAnswer, f_wrongKind, f_wrongKey, f_grown, f_frameDepth, f_frameThere, f_lastReason, (nI (rq_h q)), (nI (rq_n q)), f_hasRun, f_begun, f_nowAt, f_endClass, (ar (mc_p g)), (ar (mc_e g)), (ar (mc_o g)), (mc_r g), (ar (mc_f g)), (ar (mc_t g)), (ar (mc_g g)), (ar (mc_k g)), a_placeKey, a_placeDepth, a_cameWith, a_ledWith, a_faults, a_found, a_hasFound, a_kept, a_hasMap, a_frame, (ar kd), vl, (ar oc), (ar od)) (nI (rq_l q)) := by
  have hcc := hG.1
  have h6 := ok.1
  have h20 : mr_o g q < 20 := hG.2.2.1 _
  have tk := gd.1.1
  have tp := gd.1.2
  have t2 := md_tk2 (mr_o g q)
  have p2 := md_pu2 (mr_o g q)
  have ha : mc_a g (rq_l q) = mr_a g q := rfl
  have tkn : ∀ n t p, mr_o g q = n → md_tk n = t → md_pu n = p → t ≤ rq_h q ∧ rq_h q + p ≤ 6 + t ∧ rq_h q - md_tk (mr_o g q) + md_pu (mr_o g q) = rq_h q - t + p := by
    intro n t p e e1 e2; rw [← e1, ← e2, ← e]; exact ⟨tk, tp, rfl⟩
  unfold wpX_changeValues
  dsimp only
  refine ⟨vp_in_nI (by omega) (by omega), nm_r (e' := nI (mr_o g q)) (ar_at _ (by omega)) ⟨vp_in_nI (by omega) (by omega), nm_r (e' := mc_r g (rq_l q)) (by rw [nI_clamp (by omega)]) (nm_r (xr_top q) (xa_pu h20 (xa_tk h20 ?_)))⟩⟩
  have ed : nI (rq_h q) + (nI (md_pu (mr_o g q)) - nI (md_tk (mr_o g q))) = nI (rq_h q - md_tk (mr_o g q) + md_pu (mr_o g q)) := by
    have e1 : nI (rq_h q) = nI (rq_h q - md_tk (mr_o g q)) + nI (md_tk (mr_o g q)) := by
      rw [nI_add]; exact congrArg nI (by omega)
    rw [e1, ← nI_add (rq_h q - md_tk (mr_o g q))]
    generalize nI (rq_h q - md_tk (mr_o g q)) = x
    generalize nI (md_tk (mr_o g q)) = y
    generalize nI (md_pu (mr_o g q)) = z
    grind
  refine nm_r ed ?_
  have e4 : nI (3 + rq_h q) + 1 = nI (4 + rq_h q) := by rw [nI_1]; exact congrArg nI (by omega)
  have K : ∀ s, s < 4 + rq_h q → ar kd (nI s).toNatClampNeg = nI (mr_kd (rq_S q s)) := by
    intro s hs; rw [ar_at _ (by omega), (R.1 s hs).1]
  have V : ∀ s, s < 10 → vl (nI s).toNatClampNeg = vl s := by
    intro s hs; rw [nI_clamp (by omega)]
  refine br_f (nI_pos (by omega)) (pk_lt 15 (mr_o g q) (fun c => ?_) (fun c15 => ?_))
  · have cs : mr_o g q = 16 ∨ mr_o g q = 19 := by omega
    rcases cs with o | o
    · have k := tkn _ 0 0 o rfl rfl
      rw [show rq_h q - md_tk (mr_o g q) + md_pu (mr_o g q) = rq_h q by omega]
      have := H kd oc od vl
      rw [mr_nx16 o] at this
      exact this (mr_X_hl R (Nat.le_refl _))
    · exfalso
      unfold mr_rs at nrs
      rw [if_neg (by omega)] at nrs
      split at nrs
      · cases nrs
      · first | cases nrs | (rw [if_pos o] at nrs; cases nrs)
  refine pk_eq (mr_o g q) 0 (fun o => ?_) (fun n0 => ?_)
  · have k := tkn _ 0 1 o rfl rfl
    rw [show rq_h q - md_tk (mr_o g q) + md_pu (mr_o g q) = rq_h q + 1 by omega, e4]
    have := H
    rw [mr_nx0 o] at this
    exact xr_set (s := 1) (by omega) (this _ _ _ _ (mr_X_set R (Or.inr ⟨rfl, rfl⟩) (fun _ => rfl) (fun h => by omega)))
  refine pk_eq (mr_o g q) 1 (fun o => ?_) (fun n1 => ?_)
  · have k := tkn _ 0 1 o rfl rfl
    rw [show rq_h q - md_tk (mr_o g q) + md_pu (mr_o g q) = rq_h q + 1 by omega, e4]
    have := H
    rw [mr_nx1 o] at this
    exact xr_set (s := 2) (by omega) (this _ _ _ _ (mr_X_set R (Or.inr ⟨rfl, rfl⟩) (fun h => by omega) (fun h => by omega)))
  refine pk_eq (mr_o g q) 2 (fun o => ?_) (fun n2 => ?_)
  · have k := tkn _ 0 1 o rfl rfl
    have hla := mn_lim4 hG (i := rq_l q) (Or.inl o)
    rw [show rq_h q - md_tk (mr_o g q) + md_pu (mr_o g q) = rq_h q + 1 by omega, e4, hla.2, ha, K _ (by omega), V _ (by omega)]
    have := H
    rw [mr_nx2 o] at this
    have r := R.1 (mr_a g q) (by omega)
    exact ⟨vp_in_nI (by omega) (by omega), vp_in_nI (by omega) (by omega), xr_set (by omega) (this _ _ _ _ (mr_X_set R (Or.inr ⟨rfl, rfl⟩) r.2.1 r.2.2))⟩
  refine pk_eq (mr_o g q) 3 (fun o => ?_) (fun n3 => ?_)
  · have k := tkn _ 1 0 o rfl rfl
    have hla := mn_lim4 hG (i := rq_l q) (Or.inr (Or.inl o))
    rw [show rq_h q - md_tk (mr_o g q) + md_pu (mr_o g q) = rq_h q - 1 by omega, hla.2, ha, K _ (by omega), V _ (by omega)]
    have := H
    rw [mr_nx3 o] at this
    have r := R.1 (3 + rq_h q) (by omega)
    exact ⟨vp_in_nI (by omega) (by omega), vp_in_nI (by omega) (by omega), xr_set (by omega) (this _ _ _ _ (mr_X_set R (Or.inl (by omega)) r.2.1 r.2.2))⟩
  refine pk_eq (mr_o g q) 4 (fun o => ?_) (fun n4 => ?_)
  · have k := tkn _ 1 0 o rfl rfl
    rw [show rq_h q - md_tk (mr_o g q) + md_pu (mr_o g q) = rq_h q - 1 by omega]
    have := H kd oc od vl
    rw [mr_nxd (Or.inl o)] at this
    exact this (mr_X_hl R (by omega))
  refine pk_eq (mr_o g q) 5 (fun o => ?_) (fun n5 => ?_)
  · have k := tkn _ 1 2 o rfl rfl
    rw [show rq_h q - md_tk (mr_o g q) + md_pu (mr_o g q) = rq_h q + 1 by omega, e4, K _ (by omega), V _ (by omega)]
    have := H
    rw [mr_nx5 o] at this
    have r := R.1 (3 + rq_h q) (by omega)
    exact ⟨vp_in_nI (by omega) (by omega), vp_in_nI (by omega) (by omega), xr_set (by omega) (this _ _ _ _ (mr_X_set R (Or.inr ⟨rfl, rfl⟩) r.2.1 r.2.2))⟩
  refine pk_eq (mr_o g q) 6 (fun o => ?_) (fun n6 => ?_)
  · have k := tkn _ 2 2 o rfl rfl
    have e2 : nI (3 + rq_h q) - 1 = nI (2 + rq_h q) := by
      show nI (3 + rq_h q) - nI 1 = _
      rw [pk_sub (by omega)]; exact congrArg nI (by omega)
    rw [show rq_h q - md_tk (mr_o g q) + md_pu (mr_o g q) = rq_h q by omega, e2, K _ (by omega), K _ (by omega), V _ (by omega), V _ (by omega)]
    have := H
    rw [mr_nx6 o] at this
    have r := R.1 (3 + rq_h q) (by omega)
    have r2 := R.1 (2 + rq_h q) (by omega)
    refine ⟨vp_in_nI (by omega) (by omega), nm_e ⟨vp_in_nI (by omega) (by omega), nm_e ⟨vp_in_nI (by omega) (by omega), vp_in_nI (by omega) (by omega), ?_⟩⟩⟩
    refine xr_set (by omega) (xr_set (by omega) (this _ _ _ _ (mr_X_set (q := mr_set q (2 + rq_h q) (mr_t q) (rq_I q (3 + rq_h q)) (rq_h q) (rq_l q + 1)) (mr_X_set R (Or.inl (Nat.le_refl _)) r.2.1 r.2.2) (Or.inl (Nat.le_refl _)) r2.2.1 r2.2.2)))
  refine pk_eq (mr_o g q) 7 (fun o => ?_) (fun n7 => ?_)
  · have k := tkn _ 2 1 o rfl rfl
    have e2 : nI (3 + rq_h q) - 1 = nI (2 + rq_h q) := by
      show nI (3 + rq_h q) - nI 1 = _
      rw [pk_sub (by omega)]; exact congrArg nI (by omega)
    obtain ⟨g1, g2⟩ := gd.2.2.1 o
    have r := R.1 (3 + rq_h q) (by omega)
    have r2 := R.1 (2 + rq_h q) (by omega)
    rw [show rq_h q - md_tk (mr_o g q) + md_pu (mr_o g q) = rq_h q - 1 by omega, e2, V _ (by omega), V _ (by omega)]
    have := H (mf_up kd (2 + rq_h q) (mr_kd 1)) oc od (upd vl (2 + rq_h q) (vl (2 + rq_h q) + vl (3 + rq_h q)))
    rw [mr_nx7 o] at this
    have Rn := mr_X_set (l' := rq_l q + 1) R (i := 2 + rq_h q) (s := 1) (h' := rq_h q - 1) (v := rq_I q (2 + rq_h q) + rq_I q (3 + rq_h q)) (w := vl (2 + rq_h q) + vl (3 + rq_h q)) (Or.inl (by omega)) (fun _ => by rw [r.2.1 (Or.inl g1), r2.2.1 (Or.inl g2)]) (fun h => by omega)
    have ek : mf_up kd (2 + rq_h q) (mr_kd 1) = kd := by
      funext t
      by_cases w : t = 2 + rq_h q
      · subst w; rw [up_s, r2.1, g2]
      · exact up_n w
    rw [ek] at this Rn
    refine ⟨vp_in_nI (by omega) (by omega), vp_in_nI (by omega) (by omega), vp_in_nI (by omega) (by omega), nm_r (e' := upd vl (2 + rq_h q) (vl (2 + rq_h q) + vl (3 + rq_h q))) (by rw [nI_clamp (by omega)]) (this Rn)⟩
  refine pk_eq (mr_o g q) 8 (fun o => ?_) (fun n8 => ?_)
  · have k := tkn _ 0 1 o rfl rfl
    have hla := mn_lim8 hG (i := rq_l q) (Or.inl o)
    rw [show rq_h q - md_tk (mr_o g q) + md_pu (mr_o g q) = rq_h q + 1 by omega, hla.2, e4]
    have := H
    rw [mr_nx8 o] at this
    refine xr_mo (q := (rq_S q, rq_I q, rq_C q, rq_R q, rq_h q + 1, rq_n q, rq_l q)) (c := mc_a g (rq_l q)) (b := false) hn ?_
    have Rn : mr_X (mr_set (mr_obj q (mr_a g q) false) (4 + rq_h q) (4 + rq_n q) 0 (rq_h q + 1) (rq_l q + 1)) _ _ _ _ := mr_X_set (q := mr_obj q (mr_a g q) false) (w := nI (rq_n q)) (mr_X_obj R) (Or.inr ⟨rfl, rfl⟩) (fun h => by omega) (fun _ => congrArg nI (by omega))
    rw [show mr_kd (4 + rq_n q) = 3 from mr_kd3.mpr (by omega)] at Rn
    dsimp only
    exact xr_set (s := 3) (by omega) (this _ _ _ _ Rn)
  refine pk_eq (mr_o g q) 9 (fun o => ?_) (fun n9 => ?_)
  · have k := tkn _ 1 0 o rfl rfl
    obtain ⟨g1, g2⟩ := gd.2.2.2.1 o
    have r := R.1 (3 + rq_h q) (by omega)
    have hj := (ok.2.2.1 (3 + rq_h q) (by omega)).1 g1
    have e2 : vl (nI (3 + rq_h q)).toNatClampNeg = nI (mr_t q - 4) := by
      rw [nI_clamp (by omega)]; exact r.2.2 g1
    have hj' : mr_t q - 4 < rq_n q := hj
    rw [show rq_h q - md_tk (mr_o g q) + md_pu (mr_o g q) = rq_h q - 1 by omega, e2]
    have := H kd oc (mf_up od (mr_t q - 4) 1) vl
    rw [mr_nx9 o] at this
    refine ⟨vp_in_nI (by omega) (by omega), vp_in_nI (by omega) (by omega), nm_r (e' := ar (mf_up od (mr_t q - 4) 1)) (by rw [mi_n1]; exact ar_ui od 1 (by omega)) (this ⟨fun j hj => ?_, fun j hj => ?_⟩)⟩
    · have hj' : j < 4 + (rq_h q - 1) := hj
      exact R.1 j (by omega)
    · show oc j = rq_C q j ∧ mf_up od (mr_t q - 4) 1 j = (mr_uB (rq_R q) (mr_t q - 4) true j).toNat
      unfold mr_uB
      by_cases w : j = mr_t q - 4
      · subst w; rw [up_s, if_pos rfl]; exact ⟨(R.2 _ hj).1, rfl⟩
      · rw [up_n w, if_neg w]; exact R.2 j hj
  refine pk_eq (mr_o g q) 10 (fun o => ?_) (fun n10 => ?_)
  · have k := tkn _ 1 1 o rfl rfl
    rw [show rq_h q - md_tk (mr_o g q) + md_pu (mr_o g q) = rq_h q by omega]
    have := H kd oc od vl
    rw [mr_nx10 o] at this
    exact this (mr_X_hl R (Nat.le_refl _))
  refine pk_eq (mr_o g q) 11 (fun o => ?_) (fun n11 => ?_)
  · have k := tkn _ 1 0 o rfl rfl
    rw [show rq_h q - md_tk (mr_o g q) + md_pu (mr_o g q) = rq_h q - 1 by omega]
    have := H kd oc od vl
    rw [mr_nxd (Or.inr (Or.inl o))] at this
    exact this (mr_X_hl R (by omega))
  refine pk_eq (mr_o g q) 12 (fun o => ?_) (fun n12 => ?_)
  · have k := tkn _ 0 0 o rfl rfl
    rw [show rq_h q - md_tk (mr_o g q) + md_pu (mr_o g q) = rq_h q by omega]
    have := H kd oc od vl
    rw [mr_nx12 o] at this
    exact this (mr_X_hl R (Nat.le_refl _))
  refine pk_eq (mr_o g q) 13 (fun o => ?_) (fun n13 => ?_)
  · have k := tkn _ 1 0 o rfl rfl
    rw [show rq_h q - md_tk (mr_o g q) + md_pu (mr_o g q) = rq_h q - 1 by omega]
    have := H kd oc od vl
    rw [mr_nx13 o] at this
    exact this (mr_X_hl R (by omega))
  refine pk_eq (mr_o g q) 14 (fun o => ?_) (fun n14 => ?_)
  · have k := tkn _ 1 0 o rfl rfl
    rw [show rq_h q - md_tk (mr_o g q) + md_pu (mr_o g q) = rq_h q - 1 by omega]
    have := H kd oc od vl
    rw [mr_nx14 o] at this
    exact this (mr_X_hl R (by omega))
  refine pk_eq (mr_o g q) 15 (fun o => ?_) (fun n15 => by omega)
  have k := tkn _ 0 1 o rfl rfl
  rw [show rq_h q - md_tk (mr_o g q) + md_pu (mr_o g q) = rq_h q + 1 by omega, e4]
  have := H
  rw [mr_nx15 o] at this
  exact xr_set (s := 4) (by omega) (this _ _ _ _ (mr_X_set R (Or.inr ⟨rfl, rfl⟩) (fun _ => rfl) (fun h => by omega)))
end
end
section
/-! ===== the class: the whole run ===== -/
section
variable {f_codeCount f_coverCount f_placeCount f_tooMany f_layAnswer f_wrongKind f_wrongKey f_grown f_frameDepth f_frameThere f_lastReason f_valueDepth f_objectCount f_hasRun f_begun f_nowAt f_endClass : Int32} {a_parent a_entry a_code a_operand a_coverFrom a_coverTo a_coverTarget a_coverClass a_placeKey a_placeDepth a_cameWith a_ledWith a_faults a_found a_hasFound a_kept a_hasMap a_frame a_kind a_value a_objectClass a_objectReady : Nat → Int32}
variable {g : md_C}
def mr_le (x : Nat) : Int32 := if x = 0 then -1 else nI (x - 1)
theorem xr_begin {post : Int32 → SX → Prop} {q : mr_Q} {kd oc od : Nat → Nat} {vl : Nat → Int32} (hG : md_G g) (R : mr_X q kd vl oc od) (ok : mr_ok g q) (hn : rq_n q ≤ 203) (hl : rq_l q < mc_cc g) (H0 : (mr_st g q).2.1 = 0 → ∀ (kd oc od : Nat → Nat) (vl : Nat → Int32), mr_X (mr_st g q).1 kd vl oc od → post (-1) ((nI (mc_cc g)), (nI (mc_hc g)), f_placeCount, f_tooMany, f_layAnswer, f_wrongKind, f_wrongKey, f_grown, f_frameDepth, f_frameThere, f_lastReason, (nI (rq_h (mr_st g q).1)), (nI (rq_n (mr_st g q).1)), f_hasRun, f_begun, (nI (rq_l (mr_st g q).1)), (-1), (ar (mc_p g)), (ar (mc_e g)), (ar (mc_o g)), (mc_r g), (ar (mc_f g)), (ar (mc_t g)), (ar (mc_g g)), (ar (mc_k g)), a_placeKey, a_placeDepth, a_cameWith, a_ledWith, a_faults, a_found, a_hasFound, a_kept, a_hasMap, a_frame, (ar kd), vl, (ar oc), (ar od))) (H1 : ∀ w, (mr_st g q).2.1 = w + 1 → ∀ (kd oc od : Nat → Nat) (vl : Nat → Int32), mr_X (mr_st g q).1 kd vl oc od → post (nI w) ((nI (mc_cc g)), (nI (mc_hc g)), f_placeCount, f_tooMany, f_layAnswer, f_wrongKind, f_wrongKey, f_grown, f_frameDepth, f_frameThere, f_lastReason, (nI (rq_h (mr_st g q).1)), (nI (rq_n (mr_st g q).1)), f_hasRun, f_begun, (nI (rq_l (mr_st g q).1)), (mr_le (mr_st g q).2.2), (ar (mc_p g)), (ar (mc_e g)), (ar (mc_o g)), (mc_r g), (ar (mc_f g)), (ar (mc_t g)), (ar (mc_g g)), (ar (mc_k g)), a_placeKey, a_placeDepth, a_cameWith, a_ledWith, a_faults, a_found, a_hasFound, a_kept, a_hasMap, a_frame, (ar kd), vl, (ar oc), (ar od))) : wpX_begin post ((nI (mc_cc g)), (nI (mc_hc g)), f_placeCount, f_tooMany, f_layAnswer, f_wrongKind, f_wrongKey, f_grown, f_frameDepth, f_frameThere, f_lastReason, (nI (rq_h q)), (nI (rq_n q)), f_hasRun, f_begun, (nI (rq_l q)), (-1), (ar (mc_p g)), (ar (mc_e g)), (ar (mc_o g)), (mc_r g), (ar (mc_f g)), (ar (mc_t g)), (ar (mc_g g)), (ar (mc_k g)), a_placeKey, a_placeDepth, a_cameWith, a_ledWith, a_faults, a_found, a_hasFound, a_kept, a_hasMap, a_frame, (ar kd), vl, (ar oc), (ar od)) (nI (rq_l q)) := by
  have hcc := hG.1
  have h6 := ok.1
  have h20 : mr_o g q < 20 := hG.2.2.1 _
  unfold wpX_begin
  dsimp only
  refine xr_fn hG R ok (by omega) hl (fun gd => xb_1 ?_) (fun gd => xb_0 ?_)
  · refine xr_rat hG R ok hn hl gd (fun nrs => xb_m ?_) (fun ob q' hrs oc1 od1 R1 => ?_)
    · have st : mr_st g q = if mr_o g q = 17 then (q, 1, 0) else if mr_o g q = 18 then (q, 2, if 4 ≤ mr_t q then rq_C q (mr_t q - 4) + 1 else 0) else (mr_nx g q, 0, 0) := by
        unfold mr_st; rw [if_neg (fun z => z gd), nrs]
      refine ⟨vp_in_nI (by omega) (by omega), ?_⟩
      have eo : ar (mc_o g) (nI (rq_l q)).toNatClampNeg = nI (mr_o g q) := ar_at _ (by omega)
      dsimp only
      rw [eo]
      refine pk_eq (mr_o g q) 17 (fun c => ?_) (fun n17 => ⟨vp_in_nI (by omega) (by omega), pk_eq (mr_o g q) 18 (fun c => ?_) (fun n18 => ?_)⟩)
      · rw [if_pos c] at st
        rw [st] at H1
        exact H1 0 rfl kd oc od vl R
      · have hp : 1 ≤ rq_h q := by
          have := gd.1.1
          rw [c] at this; exact this
        have kl := mr_kdl (mr_t q)
        have r := R.1 (3 + rq_h q) (by omega)
        have e1 : ar kd (nI (3 + rq_h q)).toNatClampNeg = nI (mr_kd (mr_t q)) := by rw [ar_at _ (by omega), r.1]; rfl
        have e2 : vl (nI (3 + rq_h q)).toNatClampNeg = vl (3 + rq_h q) := by rw [nI_clamp (by omega)]
        rw [if_neg n17, if_pos c] at st
        rw [st] at H1
        refine nm_r (xr_top q) ?_
        rw [e1, e2]
        refine ⟨vp_in_nI (by omega) (by omega), pk_eq (mr_kd (mr_t q)) 3 (fun z => ⟨vp_in_nI (by omega) (by omega), ?_⟩) (fun z => ?_)⟩
        · have z' := mr_kd3.mp z
          have hj : mr_t q - 4 < rq_n q := (ok.2.2.1 (3 + rq_h q) (by omega)).1 z'
          have ev : vl (3 + rq_h q) = nI (mr_t q - 4) := r.2.2 z'
          have := H1 1 rfl kd oc od vl R
          dsimp only at this
          rw [if_pos z'] at this
          rw [ev]
          refine ⟨vp_in_nI (by omega) (by omega), nm_r (e' := nI (rq_C q (mr_t q - 4))) (by rw [ar_at _ (by omega), (R.2 _ hj).1]) ?_⟩
          exact this
        · have := H1 1 rfl kd oc od vl R
          dsimp only at this
          rw [if_neg (fun w => z (mr_kd3.mpr w))] at this
          exact this
      · rw [if_neg n17, if_neg n18] at st
        rw [st] at H0
        refine xr_next hG R ok hl gd n17 n18 ?_
        exact xr_chg hG R ok hn hl gd nrs n17 n18 (fun kd oc od vl R' => H0 rfl kd oc od vl R')
    · obtain ⟨ok1, hob, hn1, hl1⟩ := mr_rs_ok ok gd hrs
      have hob' : ob < rq_n q' := hob
      have hn1' : rq_n q' ≤ rq_n q + 1 := hn1
      have hl1' : rq_l q' = rq_l q := hl1
      have st : mr_st g q = mr_rz g q' ob := by
        unfold mr_st; rw [if_neg (fun z => z gd), hrs]
      rw [st] at H0 H1
      refine xb_n (by omega) ?_
      rw [← hl1']
      refine xr_raise hG R1 ok1 (by omega) (by omega) hob' (fun q2 e2 kd2 vl2 R2 => ?_) (fun e2 => ?_)
      · rw [e2] at H0
        exact H0 rfl kd2 oc1 od1 vl2 R2
      · rw [e2] at H1
        exact H1 2 rfl kd oc1 od1 vl R1
  · have st : mr_st g q = (q, 5, 0) := by
      unfold mr_st; rw [if_pos gd]
    rw [st] at H1
    exact H1 4 rfl kd oc od vl R
theorem xr_loop {post : Int32 → SX → Prop} {most : Nat} (hG : md_G g) (hM : md_M g) (hm : most ≤ 200) (res : mr_Q × Nat × Nat × Nat) (HP : ∀ w, res.2.1 = w + 1 → ∀ (kd oc od : Nat → Nat) (vl : Nat → Int32), mr_X res.1 kd vl oc od → mr_ok g res.1 → rq_n res.1 ≤ 204 → post (nI w) ((nI (mc_cc g)), (nI (mc_hc g)), f_placeCount, f_tooMany, f_layAnswer, f_wrongKind, f_wrongKey, f_grown, f_frameDepth, f_frameThere, f_lastReason, (nI (rq_h res.1)), (nI (rq_n res.1)), f_hasRun, (nI res.2.2.2), (nI (rq_l res.1)), (mr_le res.2.2.1), (ar (mc_p g)), (ar (mc_e g)), (ar (mc_o g)), (mc_r g), (ar (mc_f g)), (ar (mc_t g)), (ar (mc_g g)), (ar (mc_k g)), a_placeKey, a_placeDepth, a_cameWith, a_ledWith, a_faults, a_found, a_hasFound, a_kept, a_hasMap, a_frame, (ar kd), vl, (ar oc), (ar od))) : ∀ r b (q : mr_Q) (kd oc od : Nat → Nat) (vl : Nat → Int32), b + r = most → mr_X q kd vl oc od → mr_ok g q → rq_n q ≤ 4 + b → mr_run g most (r + 1) b q = res → wX_run_29 post (nI most) (r + 3) (-1) (nI b) (nI (mc_cc g)) (nI (mc_hc g)) f_placeCount f_tooMany f_layAnswer f_wrongKind f_wrongKey f_grown f_frameDepth f_frameThere f_lastReason (nI (rq_h q)) (nI (rq_n q)) f_hasRun (nI b) (nI (rq_l q)) (-1) (ar (mc_p g)) (ar (mc_e g)) (ar (mc_o g)) (mc_r g) (ar (mc_f g)) (ar (mc_t g)) (ar (mc_g g)) (ar (mc_k g)) a_placeKey a_placeDepth a_cameWith a_ledWith a_faults a_found a_hasFound a_kept a_hasMap a_frame (ar kd) vl (ar oc) (ar od) := by
  have out : ∀ n (x : Nat) (turn : Nat), turn ≤ 201 → ∀ (q : mr_Q) (kd oc od : Nat → Nat) (vl : Nat → Int32) (bb : Nat) (ec : Int32), post (nI x) ((nI (mc_cc g)), (nI (mc_hc g)), f_placeCount, f_tooMany, f_layAnswer, f_wrongKind, f_wrongKey, f_grown, f_frameDepth, f_frameThere, f_lastReason, (nI (rq_h q)), (nI (rq_n q)), f_hasRun, (nI bb), (nI (rq_l q)), ec, (ar (mc_p g)), (ar (mc_e g)), (ar (mc_o g)), (mc_r g), (ar (mc_f g)), (ar (mc_t g)), (ar (mc_g g)), (ar (mc_k g)), a_placeKey, a_placeDepth, a_cameWith, a_ledWith, a_faults, a_found, a_hasFound, a_kept, a_hasMap, a_frame, (ar kd), vl, (ar oc), (ar od)) → x ≤ 10 → wX_run_29 post (nI most) (n + 1) (nI x) (nI turn) (nI (mc_cc g)) (nI (mc_hc g)) f_placeCount f_tooMany f_layAnswer f_wrongKind f_wrongKey f_grown f_frameDepth f_frameThere f_lastReason (nI (rq_h q)) (nI (rq_n q)) f_hasRun (nI bb) (nI (rq_l q)) ec (ar (mc_p g)) (ar (mc_e g)) (ar (mc_o g)) (mc_r g) (ar (mc_f g)) (ar (mc_t g)) (ar (mc_g g)) (ar (mc_k g)) a_placeKey a_placeDepth a_cameWith a_ledWith a_faults a_found a_hasFound a_kept a_hasMap a_frame (ar kd) vl (ar oc) (ar od) := by
    intro n x turn ht q kd oc od vl bb ec h hx
    refine br_c (fun _ => h) (fun _ => br_f ?_ h)
    intro z
    have := nI_pos' (n := x) (by omega)
    rw [z] at this
    exact absurd this (by decide)
  intro r
  induction r with
  | zero =>
    intro b q kd oc od vl hb R ok hn er
    refine pk_lt 200 b (fun c => by omega) (fun _ => br_t rfl ?_)
    have hl := ok.2.1
    have hcc := hG.1
    simp only [mr_run] at er
    refine pk_lt (rq_l q) (mc_cc g) (fun c => ?_) (fun c => ?_)
    · refine pk_lt b most (fun d => by omega) (fun d => nm_r (nI_1 b) ?_)
      rw [if_neg (by omega), if_pos (by omega)] at er
      subst er
      exact out 1 3 (b + 1) (by omega) q kd oc od vl b (-1) (HP 3 rfl kd oc od vl R ok (by show rq_n q ≤ 204; omega)) (by omega)
    · rw [if_pos (by omega)] at er
      subst er
      exact nm_r (nI_1 b) (out 1 4 (b + 1) (by omega) q kd oc od vl b (-1) (HP 4 rfl kd oc od vl R ok (by show rq_n q ≤ 204; omega)) (by omega))
  | succ r ih =>
    intro b q kd oc od vl hb R ok hn er
    refine pk_lt 200 b (fun c => by omega) (fun _ => br_t rfl ?_)
    have hl := ok.2.1
    have hcc := hG.1
    rw [mr_run] at er
    refine pk_lt (rq_l q) (mc_cc g) (fun c => ?_) (fun c => ?_)
    · rw [if_neg (by omega), if_neg (by omega)] at er
      refine pk_lt b most (fun d => nm_r (nI_1 b) ?_) (fun d => by omega)
      obtain ⟨ok1, hn1⟩ := mr_st_ok hG hM ok c
      refine xr_begin hG R ok (by omega) c (fun e0 kd1 oc1 od1 vl1 R1 => nm_r (nI_1 b) ?_) (fun w e0 kd1 oc1 od1 vl1 R1 => nm_r (nI_1 b) ?_)
      · rw [if_pos e0] at er
        exact ih (b + 1) (mr_st g q).1 kd1 oc1 od1 vl1 (by omega) R1 ok1 (by omega) er
      · rw [if_neg (by omega)] at er
        subst er
        have w4 : w ≤ 4 := by
          have : (mr_st g q).2.1 ≤ 5 := by
            unfold mr_st mr_rz
            repeat' split
            all_goals (first | omega | (dsimp only; omega))
          omega
        exact out (r + 2) w (b + 1) (by omega) (mr_st g q).1 kd1 oc1 od1 vl1 (b + 1) _ (HP w e0 kd1 oc1 od1 vl1 R1 ok1 (by show rq_n (mr_st g q).1 ≤ 204; omega)) (by omega)
    · rw [if_pos (by omega)] at er
      subst er
      exact nm_r (nI_1 b) (out (r + 2) 4 (b + 1) (by omega) q kd oc od vl b (-1) (HP 4 rfl kd oc od vl R ok (by show rq_n q ≤ 204; omega)) (by omega))
/-- the values that a run begins with -/
def mr_b0 (g : md_C) : Nat → mr_Q
  | 0 => (fun _ => 0, fun _ => 0, fun _ => 0, fun _ => false, 0, 0, 0)
  | s + 1 => if 3 ≤ mc_e g s then (mf_up (rq_S (mr_b0 g s)) s (4 + rq_n (mr_b0 g s)), upd (rq_I (mr_b0 g s)) s 0, mf_up (rq_C (mr_b0 g s)) (rq_n (mr_b0 g s)) (mc_e g s - 3), mr_uB (rq_R (mr_b0 g s)) (rq_n (mr_b0 g s)) true, 0, rq_n (mr_b0 g s) + 1, 0) else (mf_up (rq_S (mr_b0 g s)) s (mc_e g s), upd (rq_I (mr_b0 g s)) s 0, rq_C (mr_b0 g s), rq_R (mr_b0 g s), 0, rq_n (mr_b0 g s), 0)
theorem mr_b0o {s : Nat} (h : 3 ≤ mc_e g s) : mr_b0 g (s + 1) = (mf_up (rq_S (mr_b0 g s)) s (4 + rq_n (mr_b0 g s)), upd (rq_I (mr_b0 g s)) s 0, mf_up (rq_C (mr_b0 g s)) (rq_n (mr_b0 g s)) (mc_e g s - 3), mr_uB (rq_R (mr_b0 g s)) (rq_n (mr_b0 g s)) true, 0, rq_n (mr_b0 g s) + 1, 0) := by
  simp only [mr_b0]; rw [if_pos h]
theorem mr_b0n {s : Nat} (h : ¬ 3 ≤ mc_e g s) : mr_b0 g (s + 1) = (mf_up (rq_S (mr_b0 g s)) s (mc_e g s), upd (rq_I (mr_b0 g s)) s 0, rq_C (mr_b0 g s), rq_R (mr_b0 g s), 0, rq_n (mr_b0 g s), 0) := by
  simp only [mr_b0]; rw [if_neg h]
theorem mr_b0h (g : md_C) : ∀ s, rq_h (mr_b0 g s) = 0 ∧ rq_l (mr_b0 g s) = 0 := by
  intro s
  cases s with
  | zero => exact ⟨rfl, rfl⟩
  | succ s =>
    by_cases h : 3 ≤ mc_e g s
    · rw [mr_b0o h]; exact ⟨rfl, rfl⟩
    · rw [mr_b0n h]; exact ⟨rfl, rfl⟩
theorem mr_b0k (hG : md_G g) : ∀ s, rq_n (mr_b0 g s) ≤ s ∧ (∀ t, t < s → (4 ≤ rq_S (mr_b0 g s) t → rq_S (mr_b0 g s) t - 4 < rq_n (mr_b0 g s)) ∧ ¬ rq_S (mr_b0 g s) t = 3) ∧ (∀ j, j < rq_n (mr_b0 g s) → rq_C (mr_b0 g s) j < 8) := by
  intro s
  induction s with
  | zero => exact ⟨Nat.le_refl _, fun t ht => by omega, fun j hj => by have : j < 0 := hj; omega⟩
  | succ s ih =>
    obtain ⟨i1, i2, i3⟩ := ih
    have he := hG.2.2.2.2.2.2 s
    by_cases h : 3 ≤ mc_e g s
    · rw [mr_b0o h]
      refine ⟨?_, fun t ht => ?_, fun j hj => ?_⟩
      · show rq_n (mr_b0 g s) + 1 ≤ s + 1; omega
      · show (4 ≤ mf_up (rq_S (mr_b0 g s)) s (4 + rq_n (mr_b0 g s)) t → mf_up (rq_S (mr_b0 g s)) s (4 + rq_n (mr_b0 g s)) t - 4 < rq_n (mr_b0 g s) + 1) ∧ ¬ mf_up (rq_S (mr_b0 g s)) s (4 + rq_n (mr_b0 g s)) t = 3
        by_cases e : t = s
        · subst e; rw [up_s]; exact ⟨fun _ => by omega, by omega⟩
        · rw [up_n e]
          have := i2 t (by omega)
          exact ⟨fun z => by have := this.1 z; omega, this.2⟩
      · have hj' : j < rq_n (mr_b0 g s) + 1 := hj
        show mf_up (rq_C (mr_b0 g s)) (rq_n (mr_b0 g s)) (mc_e g s - 3) j < 8
        by_cases e : j = rq_n (mr_b0 g s)
        · subst e; rw [up_s]; omega
        · rw [up_n e]; exact i3 j (by omega)
    · rw [mr_b0n h]
      refine ⟨?_, fun t ht => ?_, i3⟩
      · show rq_n (mr_b0 g s) ≤ s + 1; omega
      · show (4 ≤ mf_up (rq_S (mr_b0 g s)) s (mc_e g s) t → mf_up (rq_S (mr_b0 g s)) s (mc_e g s) t - 4 < rq_n (mr_b0 g s)) ∧ ¬ mf_up (rq_S (mr_b0 g s)) s (mc_e g s) t = 3
        by_cases e : t = s
        · subst e; rw [up_s]; exact ⟨fun _ => by omega, by omega⟩
        · rw [up_n e]; exact i2 t (by omega)
theorem mr_b0ok (hG : md_G g) : mr_ok g (mr_b0 g 4) := by
  obtain ⟨h1, h2⟩ := mr_b0h g 4
  obtain ⟨k1, k2, k3⟩ := mr_b0k hG 4
  refine ⟨by omega, by omega, fun s hs => ⟨(k2 s (by omega)).1, fun z => absurd z (k2 s (by omega)).2⟩, k3⟩
theorem xr_bv {post : SX → Prop} {kd oc od : Nat → Nat} {vl : Nat → Int32} (hG : md_G g) (H : ∀ (kd oc od : Nat → Nat) (vl : Nat → Int32), mr_X (mr_b0 g 4) kd vl oc od → post ((nI (mc_cc g)), (nI (mc_hc g)), f_placeCount, f_tooMany, f_layAnswer, f_wrongKind, f_wrongKey, f_grown, f_frameDepth, f_frameThere, f_lastReason, (nI (rq_h (mr_b0 g 4))), (nI (rq_n (mr_b0 g 4))), 1, 0, (nI (rq_l (mr_b0 g 4))), (-1), (ar (mc_p g)), (ar (mc_e g)), (ar (mc_o g)), (mc_r g), (ar (mc_f g)), (ar (mc_t g)), (ar (mc_g g)), (ar (mc_k g)), a_placeKey, a_placeDepth, a_cameWith, a_ledWith, a_faults, a_found, a_hasFound, a_kept, a_hasMap, a_frame, (ar kd), vl, (ar oc), (ar od))) : wpX_beginValues post ((nI (mc_cc g)), (nI (mc_hc g)), f_placeCount, f_tooMany, f_layAnswer, f_wrongKind, f_wrongKey, f_grown, f_frameDepth, f_frameThere, f_lastReason, f_valueDepth, f_objectCount, f_hasRun, f_begun, f_nowAt, f_endClass, (ar (mc_p g)), (ar (mc_e g)), (ar (mc_o g)), (mc_r g), (ar (mc_f g)), (ar (mc_t g)), (ar (mc_g g)), (ar (mc_k g)), a_placeKey, a_placeDepth, a_cameWith, a_ledWith, a_faults, a_found, a_hasFound, a_kept, a_hasMap, a_frame, (ar kd), vl, (ar oc), (ar od)) := by
  have L : ∀ e s, s + e = 4 → ∀ (kd oc od : Nat → Nat) (vl : Nat → Int32), (∀ t, t < s → kd t = mr_kd (rq_S (mr_b0 g s) t) ∧ (rq_S (mr_b0 g s) t = 1 ∨ rq_S (mr_b0 g s) t = 3 → vl t = rq_I (mr_b0 g s) t) ∧ (4 ≤ rq_S (mr_b0 g s) t → vl t = nI (rq_S (mr_b0 g s) t - 4))) → (∀ j, j < rq_n (mr_b0 g s) → oc j = rq_C (mr_b0 g s) j ∧ od j = (rq_R (mr_b0 g s) j).toNat) → wX_beginValues_32 post (e + 1) (nI s) (nI (mc_cc g)) (nI (mc_hc g)) f_placeCount f_tooMany f_layAnswer f_wrongKind f_wrongKey f_grown f_frameDepth f_frameThere f_lastReason 0 (nI (rq_n (mr_b0 g s))) 1 0 0 (-1) (ar (mc_p g)) (ar (mc_e g)) (ar (mc_o g)) (mc_r g) (ar (mc_f g)) (ar (mc_t g)) (ar (mc_g g)) (ar (mc_k g)) a_placeKey a_placeDepth a_cameWith a_ledWith a_faults a_found a_hasFound a_kept a_hasMap a_frame (ar kd) vl (ar oc) (ar od) := by
    intro e
    induction e with
    | zero =>
      intro s hs kd oc od vl h1 h2
      have es : s = 4 := by omega
      subst es
      obtain ⟨hh, hl⟩ := mr_b0h g 4
      refine pk_le 4 4 (fun _ => ?_) (fun c => by omega)
      have := H kd oc od vl ⟨fun t ht => h1 t (by omega), h2⟩
      rw [hh, hl] at this; exact this
    | succ e ih =>
      intro s hs kd oc od vl h1 h2
      have he := hG.2.2.2.2.2.2 s
      obtain ⟨kn, _, _⟩ := mr_b0k hG s
      refine pk_le 4 s (fun c => by omega) (fun _ => ⟨vp_in_nI (by omega) (by omega), nm_r (ar_at _ (by omega)) ⟨vp_in_nI (by omega) (by omega), nm_r (e' := upd vl s 0) (by rw [nI_clamp (by omega)]) ?_⟩⟩)
      have step : ∀ (k : Nat), k = mr_kd (mc_e g s) → ¬ 3 ≤ mc_e g s → wX_beginValues_32 post (e + 1) (nI (s + 1)) (nI (mc_cc g)) (nI (mc_hc g)) f_placeCount f_tooMany f_layAnswer f_wrongKind f_wrongKey f_grown f_frameDepth f_frameThere f_lastReason 0 (nI (rq_n (mr_b0 g s))) 1 0 0 (-1) (ar (mc_p g)) (ar (mc_e g)) (ar (mc_o g)) (mc_r g) (ar (mc_f g)) (ar (mc_t g)) (ar (mc_g g)) (ar (mc_k g)) a_placeKey a_placeDepth a_cameWith a_ledWith a_faults a_found a_hasFound a_kept a_hasMap a_frame (ar (mf_up kd s k)) (upd vl s 0) (ar oc) (ar od) := by
        intro k ek h3
        have := ih (s + 1) (by omega) (mf_up kd s k) oc od (upd vl s 0)
        rw [mr_b0n h3] at this
        refine this (fun t ht => ?_) h2
        show mf_up kd s k t = mr_kd (mf_up (rq_S (mr_b0 g s)) s (mc_e g s) t) ∧ (mf_up (rq_S (mr_b0 g s)) s (mc_e g s) t = 1 ∨ mf_up (rq_S (mr_b0 g s)) s (mc_e g s) t = 3 → upd vl s 0 t = upd (rq_I (mr_b0 g s)) s 0 t) ∧ (4 ≤ mf_up (rq_S (mr_b0 g s)) s (mc_e g s) t → upd vl s 0 t = nI (mf_up (rq_S (mr_b0 g s)) s (mc_e g s) t - 4))
        by_cases w : t = s
        · subst w
          rw [up_s, up_s, pk_us, pk_us]; exact ⟨ek, fun _ => rfl, fun z => by omega⟩
        · rw [up_n w, up_n w, pk_un w, pk_un w]; exact h1 t (by omega)
      refine pk_lt (mc_e g s) 3 (fun c => pk_eq (mc_e g s) 2 (fun d => ⟨vp_in_nI (by omega) (by omega), nm_r (ar_ui kd 2 (by omega)) (nm_r (nI_1 s) (step 2 (by rw [d]; rfl) (by omega)))⟩) (fun d => pk_eq (mc_e g s) 1 (fun d1 => ⟨vp_in_nI (by omega) (by omega), nm_r (ar_ui kd 1 (by omega)) (nm_r (nI_1 s) (step 1 (by rw [d1]; rfl) (by omega)))⟩) (fun d1 => ⟨vp_in_nI (by omega) (by omega), nm_r (ar_ui kd 0 (by omega)) (nm_r (nI_1 s) (step 0 (by rw [show mc_e g s = 0 by omega]; rfl) (by omega)))⟩))) (fun c => ⟨vp_in_nI (by omega) (by omega), nm_r (ar_ui kd 3 (by omega)) ?_⟩)
      have e3 : nI (mc_e g s) - 3 = nI (mc_e g s - 3) := pk_sub (b := 3) c
      rw [e3]
      have hh := (mr_b0h g s).1
      unfold wpX_makeObject
      dsimp only
      refine pk_lt (rq_n (mr_b0 g s)) 204 (fun _ => ⟨vp_in_nI (by omega) (by omega), nm_r (ar_ui _ _ (by omega)) ⟨vp_in_nI (by omega) (by omega), nm_r (e' := ar (mf_up od (rq_n (mr_b0 g s)) 1)) (by rw [mi_n1]; exact ar_ui od 1 (by omega)) (nm_r (nI_1 _) ⟨vp_in_nI (by omega) (by omega), nm_r (e' := upd (upd vl s 0) s (nI (rq_n (mr_b0 g s)))) (by rw [nI_clamp (by omega)]) (nm_r (nI_1 s) ?_)⟩)⟩⟩) (fun c => by omega)
      have := ih (s + 1) (by omega) (mf_up kd s 3) (mf_up oc (rq_n (mr_b0 g s)) (mc_e g s - 3)) (mf_up od (rq_n (mr_b0 g s)) 1) (upd (upd vl s 0) s (nI (rq_n (mr_b0 g s))))
      rw [mr_b0o c] at this
      refine this (fun t ht => ?_) (fun j hj => ?_)
      · show mf_up kd s 3 t = mr_kd (mf_up (rq_S (mr_b0 g s)) s (4 + rq_n (mr_b0 g s)) t) ∧ (mf_up (rq_S (mr_b0 g s)) s (4 + rq_n (mr_b0 g s)) t = 1 ∨ mf_up (rq_S (mr_b0 g s)) s (4 + rq_n (mr_b0 g s)) t = 3 → upd (upd vl s 0) s (nI (rq_n (mr_b0 g s))) t = upd (rq_I (mr_b0 g s)) s 0 t) ∧ (4 ≤ mf_up (rq_S (mr_b0 g s)) s (4 + rq_n (mr_b0 g s)) t → upd (upd vl s 0) s (nI (rq_n (mr_b0 g s))) t = nI (mf_up (rq_S (mr_b0 g s)) s (4 + rq_n (mr_b0 g s)) t - 4))
        by_cases w : t = s
        · subst w
          rw [up_s, up_s, pk_us]
          refine ⟨(mr_kd3.mpr (by omega)).symm, fun z => by omega, fun _ => congrArg nI (by omega)⟩
        · rw [up_n w, up_n w, pk_un w, pk_un w, pk_un w]; exact h1 t (by omega)
      · have hj' : j < rq_n (mr_b0 g s) + 1 := hj
        show mf_up oc (rq_n (mr_b0 g s)) (mc_e g s - 3) j = mf_up (rq_C (mr_b0 g s)) (rq_n (mr_b0 g s)) (mc_e g s - 3) j ∧ mf_up od (rq_n (mr_b0 g s)) 1 j = (mr_uB (rq_R (mr_b0 g s)) (rq_n (mr_b0 g s)) true j).toNat
        unfold mr_uB
        by_cases w : j = rq_n (mr_b0 g s)
        · subst w; rw [up_s, up_s, up_s, if_pos rfl]; exact ⟨rfl, rfl⟩
        · rw [up_n w, up_n w, up_n w, if_neg w]; exact h2 j (by omega)
  unfold wpX_beginValues
  dsimp only
  exact ⟨5, L 4 0 rfl kd oc od vl (fun t ht => by omega) (fun j hj => by have : j < 0 := hj; omega)⟩
end
end
section
/-! ===== the reference: one instruction of a run ===== -/
section
variable {f_length f_handlers f_many f_there f_typed f_wrongNumber f_wrongPlace f_size f_why f_height f_objects f_line f_begun f_last f_end : Int32} {a_parent a_begin a_op a_arg a_from a_to a_target a_caught a_places a_heights a_gone a_worst a_frames a_maps a_high a_known a_mapped a_now a_sorts a_ints a_classes a_ready : Nat → Int32}
variable {g : md_C} {q : mr_Q} {st cl rd : Nat → Nat} {it : Nat → Int32}
def mr_Yn (n : Nat) (q : mr_Q) (st : Nat → Nat) (it : Nat → Int32) (cl rd : Nat → Nat) : Prop := (∀ s, s < n → st s = rq_S q s ∧ (rq_S q s = 1 ∨ rq_S q s = 3 → it s = rq_I q s)) ∧ (∀ j, j < rq_n q → cl j = rq_C q j ∧ rd j = (rq_R q j).toNat)
def mr_Y (q : mr_Q) (st : Nat → Nat) (it : Nat → Int32) (cl rd : Nat → Nat) : Prop := mr_Yn (4 + rq_h q) q st it cl rd
theorem mr_Yl (R : mr_Y q st it cl rd) : mr_Yn 4 q st it cl rd := ⟨fun s hs => R.1 s (by omega), R.2⟩
theorem mr_Y_set {i s h' l' : Nat} {v w : Int32} (R : mr_Y q st it cl rd) (hs : h' ≤ rq_h q ∨ (i = 4 + rq_h q ∧ h' = rq_h q + 1)) (hv : s = 1 ∨ s = 3 → w = v) : mr_Y (mr_set q i s v h' l') (mf_up st i s) (upd it i w) cl rd := by
  refine ⟨fun j hj => ?_, R.2⟩
  have hj' : j < 4 + h' := hj
  show mf_up st i s j = mf_up (rq_S q) i s j ∧ (mf_up (rq_S q) i s j = 1 ∨ mf_up (rq_S q) i s j = 3 → upd it i w j = upd (rq_I q) i v j)
  by_cases e : j = i
  · subst e
    rw [up_s, up_s, pk_us, pk_us]; exact ⟨rfl, hv⟩
  · rw [up_n e, up_n e, pk_un e, pk_un e]
    exact R.1 j (by omega)
theorem mr_Y_hl {h' l' : Nat} (R : mr_Y q st it cl rd) (hs : h' ≤ rq_h q) : mr_Y (mr_hl q h' l') st it cl rd := by
  refine ⟨fun j hj => ?_, R.2⟩
  have hj' : j < 4 + h' := hj
  exact R.1 j (by omega)
theorem mr_Y_obj {n c : Nat} {b : Bool} (R : mr_Yn n q st it cl rd) : mr_Yn n (mr_obj q c b) st it (mf_up cl (rq_n q) c) (mf_up rd (rq_n q) b.toNat) := by
  refine ⟨R.1, fun j hj => ?_⟩
  have hj' : j < rq_n q + 1 := hj
  show mf_up cl (rq_n q) c j = mf_up (rq_C q) (rq_n q) c j ∧ mf_up rd (rq_n q) b.toNat j = (mr_uB (rq_R q) (rq_n q) b j).toNat
  unfold mr_uB
  by_cases e : j = rq_n q
  · subst e; rw [up_s, up_s, up_s, if_pos rfl]; exact ⟨rfl, rfl⟩
  · rw [up_n e, up_n e, up_n e, if_neg e]; exact R.2 j (by omega)
theorem yr_put {post : SY → Prop} {h s : Nat} {v : Int32} (hh : h ≤ 5) (H : post (f_length, f_handlers, f_many, f_there, f_typed, f_wrongNumber, f_wrongPlace, f_size, f_why, (nI (h + 1)), f_objects, f_line, f_begun, f_last, f_end, a_parent, a_begin, a_op, a_arg, a_from, a_to, a_target, a_caught, a_places, a_heights, a_gone, a_worst, a_frames, a_maps, a_high, a_known, a_mapped, a_now, (ar (mf_up st (4 + h) s)), (upd it (4 + h) v), a_classes, a_ready)) : wpY_put post (f_length, f_handlers, f_many, f_there, f_typed, f_wrongNumber, f_wrongPlace, f_size, f_why, (nI h), f_objects, f_line, f_begun, f_last, f_end, a_parent, a_begin, a_op, a_arg, a_from, a_to, a_target, a_caught, a_places, a_heights, a_gone, a_worst, a_frames, a_maps, a_high, a_known, a_mapped, a_now, (ar st), it, a_classes, a_ready) (nI s) v := by
  unfold wpY_put
  dsimp only
  have e : (4 : Int32) + nI h = nI (4 + h) := nI_add 4 h
  rw [e]
  exact ⟨vp_in_nI (by omega) (by omega), nm_r (ar_ui _ _ (by omega)) ⟨vp_in_nI (by omega) (by omega), nm_r (e' := upd it (4 + h) v) (by rw [nI_clamp (by omega)]) (nm_r (nI_1 h) H)⟩⟩
theorem yr_obj {post : Int32 → SY → Prop} {n c : Nat} {b : Bool} (hn : n ≤ 239) (H : post (nI (4 + n)) (f_length, f_handlers, f_many, f_there, f_typed, f_wrongNumber, f_wrongPlace, f_size, f_why, f_height, (nI (n + 1)), f_line, f_begun, f_last, f_end, a_parent, a_begin, a_op, a_arg, a_from, a_to, a_target, a_caught, a_places, a_heights, a_gone, a_worst, a_frames, a_maps, a_high, a_known, a_mapped, a_now, a_sorts, a_ints, (ar (mf_up cl n c)), (ar (mf_up rd n b.toNat)))) : wpY_object post (f_length, f_handlers, f_many, f_there, f_typed, f_wrongNumber, f_wrongPlace, f_size, f_why, f_height, (nI n), f_line, f_begun, f_last, f_end, a_parent, a_begin, a_op, a_arg, a_from, a_to, a_target, a_caught, a_places, a_heights, a_gone, a_worst, a_frames, a_maps, a_high, a_known, a_mapped, a_now, a_sorts, a_ints, (ar cl), (ar rd)) (nI c) (mf_b b) := by
  unfold wpY_object
  dsimp only
  have e3 : (3 : Int32) + nI (n + 1) = nI (4 + n) := by
    show nI 3 + nI (n + 1) = _
    rw [nI_add]; exact congrArg nI (by omega)
  refine ⟨vp_in_nI (by omega) (by omega), nm_r (ar_ui _ _ (by omega)) ⟨vp_in_nI (by omega) (by omega), nm_r (e' := ar (mf_up rd n b.toNat)) ?_ (nm_r (nI_1 n) ?_)⟩⟩
  · have : vp_nar .boolean (mf_b b) = nI b.toNat := by cases b <;> decide
    rw [this]; exact ar_ui _ _ (by omega)
  · rw [e3]; exact H
theorem yr_rdy {post : Int32 → Prop} {t : Nat} (hn : rq_n q ≤ 205) (R2 : ∀ j, j < rq_n q → cl j = rq_C q j ∧ rd j = (rq_R q j).toNat) (ht : 4 ≤ t → t - 4 < rq_n q) (h1 : 4 ≤ t ∧ rq_R q (t - 4) = true → post 1) (h0 : ¬ (4 ≤ t ∧ rq_R q (t - 4) = true) → post 0) (tl : t < 2 ^ 31) : wpY_isReady post (f_length, f_handlers, f_many, f_there, f_typed, f_wrongNumber, f_wrongPlace, f_size, f_why, f_height, f_objects, f_line, f_begun, f_last, f_end, a_parent, a_begin, a_op, a_arg, a_from, a_to, a_target, a_caught, a_places, a_heights, a_gone, a_worst, a_frames, a_maps, a_high, a_known, a_mapped, a_now, a_sorts, a_ints, a_classes, (ar rd)) (nI t) := by
  unfold wpY_isReady
  dsimp only
  refine pk_le t 3 (fun c => h0 (fun z => by omega)) (fun c => ?_)
  have e : nI t - 4 = nI (t - 4) := pk_sub (b := 4) (by omega)
  have hj := ht (by omega)
  rw [e, ar_at _ (by omega), (R2 _ hj).2]
  refine ⟨vp_in_nI (by omega) (by omega), ?_⟩
  cases er : rq_R q (t - 4) with
  | false => exact xb_0 (h0 (fun z => by rw [er] at z; cases z.2))
  | true => exact xb_1 (h1 ⟨by omega, er⟩)
theorem yr_of {post : Int32 → Prop} {t a : Nat} (hG : md_G g) (hn : rq_n q ≤ 205) (R2 : ∀ j, j < rq_n q → cl j = rq_C q j ∧ rd j = (rq_R q j).toNat) (hC : ∀ j, j < rq_n q → rq_C q j < 8) (ht : 4 ≤ t → t - 4 < rq_n q) (ha : a < 8) (tl : t < 2 ^ 31) (h1 : mr_of g q t a → post 1) (h0 : ¬ mr_of g q t a → post 0) : wpY_isOf post ((nI (mc_cc g)), (nI (mc_hc g)), f_many, f_there, f_typed, f_wrongNumber, f_wrongPlace, f_size, f_why, f_height, f_objects, f_line, f_begun, f_last, f_end, (ar (mc_p g)), (ar (mc_e g)), (ar (mc_o g)), (mc_r g), (ar (mc_f g)), (ar (mc_t g)), (ar (mc_g g)), (ar (mc_k g)), a_places, a_heights, a_gone, a_worst, a_frames, a_maps, a_high, a_known, a_mapped, a_now, a_sorts, a_ints, (ar cl), (ar rd)) (nI t) (nI a) := by
  unfold wpY_isOf
  dsimp only
  refine pk_eq t 2 (fun c => h1 (Or.inl c)) (fun c => yr_rdy (q := q) hn R2 ht (fun z => xb_1 ?_) (fun z => xb_0 (h0 ?_)) tl)
  · have e : nI t - 4 = nI (t - 4) := pk_sub (b := 4) z.1
    have hj := ht z.1
    rw [e, ar_at _ (by omega), (R2 _ hj).1]
    refine ⟨vp_in_nI (by omega) (by omega), ya_abv hG (hC _ hj) ha (fun y => xb_1 (h1 (Or.inr ⟨z.1, z.2, y⟩))) (fun y => xb_0 (h0 ?_))⟩
    rintro (w | ⟨_, _, w⟩)
    · exact c w
    · exact y w
  · rintro (w | ⟨w1, w2, _⟩)
    · exact c w
    · exact z ⟨w1, w2⟩
theorem yr_good {post : Int32 → Prop} {t u : Nat} (hG : md_G g) (R : mr_Y q st it cl rd) (ok : mr_ok g q) (hn : rq_n q ≤ 205) (hl : rq_l q < mc_cc g) (tk : md_tk (mr_o g q) ≤ rq_h q ∧ rq_h q + md_pu (mr_o g q) ≤ 6 + md_tk (mr_o g q)) (ht : 0 < md_tk (mr_o g q) → t = mr_t q) (hu : 1 < md_tk (mr_o g q) → u = rq_S q (2 + rq_h q)) (ul : u < 2 ^ 31) (h1 : mr_gd g q → post 1) (h0 : ¬ mr_gd g q → post 0) : wpY_isGood post ((nI (mc_cc g)), (nI (mc_hc g)), f_many, f_there, f_typed, f_wrongNumber, f_wrongPlace, f_size, f_why, (nI (rq_h q)), (nI (rq_n q)), (nI (rq_l q)), f_begun, f_last, f_end, (ar (mc_p g)), (ar (mc_e g)), (ar (mc_o g)), (mc_r g), (ar (mc_f g)), (ar (mc_t g)), (ar (mc_g g)), (ar (mc_k g)), a_places, a_heights, a_gone, a_worst, a_frames, a_maps, a_high, a_known, a_mapped, a_now, (ar st), it, (ar cl), (ar rd)) (nI (mr_o g q)) (mc_r g (rq_l q)) (nI t) (nI u) := by
  have hcc := hG.1
  have h6 := ok.1
  have h20 : mr_o g q < 20 := hG.2.2.1 _
  have ha : mc_a g (rq_l q) = mr_a g q := rfl
  have tl : 0 < rq_h q → mr_t q < 2 ^ 31 := by
    intro hp
    have := (ok.2.2.1 (3 + rq_h q) (by omega)).1
    have e : rq_S q (3 + rq_h q) = mr_t q := rfl
    rw [e] at this
    by_cases c : 4 ≤ mr_t q
    · have := this c; omega
    · omega
  have t4 : 0 < rq_h q → 4 ≤ mr_t q → mr_t q - 4 < rq_n q := fun hp => (ok.2.2.1 (3 + rq_h q) (by omega)).1
  have tkn : ∀ n k, mr_o g q = n → md_tk n = k → k ≤ rq_h q ∧ md_tk (mr_o g q) = k := by
    intro n k e1 e2; rw [e1, e2] at tk ⊢; exact ⟨tk.1, rfl⟩
  unfold wpY_isGood
  dsimp only
  have T : (mr_o g q < 2 ∨ mr_o g q = 3 ∨ mr_o g q = 4 ∨ mr_o g q = 5 ∨ mr_o g q = 6 ∨ mr_o g q = 8 ∨ mr_o g q = 12 ∨ mr_o g q = 15 ∨ mr_o g q = 17) → post 1 := by
    intro z
    refine h1 ⟨tk, fun y => by omega, fun y => by omega, fun y => by omega, fun y => by omega, fun y => by omega, fun y => by omega, fun y => by omega⟩
  have nb1 : narrow .boolean (.int (1 : Int32)) = .int 1 := rfl
  have nb0 : narrow .boolean (.int (0 : Int32)) = .int 0 := rfl
  have S152 : (mr_o g q = 10 ∨ mr_o g q = 14 ∨ mr_o g q = 19) → 0 < rq_h q → t = mr_t q → wY_isGood_152 post (nI t) (nI (mc_cc g)) (nI (mc_hc g)) f_many f_there f_typed f_wrongNumber f_wrongPlace f_size f_why (nI (rq_h q)) (nI (rq_n q)) (nI (rq_l q)) f_begun f_last f_end (ar (mc_p g)) (ar (mc_e g)) (ar (mc_o g)) (mc_r g) (ar (mc_f g)) (ar (mc_t g)) (ar (mc_g g)) (ar (mc_k g)) a_places a_heights a_gone a_worst a_frames a_maps a_high a_known a_mapped a_now (ar st) it (ar cl) (ar rd) := by
    intro z hp et
    have tl := tl hp
    unfold wY_isGood_152
    rw [et]
    have mk : mr_ref q (mr_t q) → mr_gd g q := fun y => ⟨tk, fun y => by omega, fun y => by omega, fun y => by omega, fun _ => y, fun y => by omega, fun y => by omega, fun y => by omega⟩
    refine pk_eq (mr_t q) 2 (fun c => h1 (mk (Or.inl c))) (fun c => yr_rdy (q := q) hn R.2 (t4 hp) (fun y => xb_1 (h1 (mk (Or.inr y)))) (fun y => xb_0 (h0 (fun w => ?_))) tl)
    rcases w.2.2.2.2.1 z with v | v
    · exact c v
    · exact y v
  have S171 : (mr_o g q = 11 ∨ mr_o g q = 18) → 0 < rq_h q → t = mr_t q → wY_isGood_171 post (mc_r g (rq_l q)) (nI t) (nI (mc_cc g)) (nI (mc_hc g)) f_many f_there f_typed f_wrongNumber f_wrongPlace f_size f_why (nI (rq_h q)) (nI (rq_n q)) (nI (rq_l q)) f_begun f_last f_end (ar (mc_p g)) (ar (mc_e g)) (ar (mc_o g)) (mc_r g) (ar (mc_f g)) (ar (mc_t g)) (ar (mc_g g)) (ar (mc_k g)) a_places a_heights a_gone a_worst a_frames a_maps a_high a_known a_mapped a_now (ar st) it (ar cl) (ar rd) := by
    intro z hp et
    have hla := mn_lim8 hG (i := rq_l q) (show mr_o g q = 8 ∨ mr_o g q = 10 ∨ mr_o g q = 11 ∨ mr_o g q = 18 by omega)
    unfold wY_isGood_171
    rw [et, hla.2]
    refine yr_of hG hn R.2 ok.2.2.2 (t4 hp) hla.1 (tl hp) (fun y => ⟨nb1, h1 ?_⟩) (fun y => ⟨nb0, h0 (fun w => y (w.2.2.2.2.2.1 z))⟩)
    exact ⟨tk, fun y => by omega, fun y => by omega, fun y => by omega, fun y => by omega, fun _ => y, fun y => by omega, fun y => by omega⟩
  refine pk_lt (mr_o g q) 2 (fun c => T (by omega)) (fun c2 => pk_lt 19 (mr_o g q) (fun c => by omega) (fun c19 => ?_))
  refine pk_eq (mr_o g q) 2 (fun c => ?_) (fun n2 => ?_)
  · have hla := mn_lim4 hG (i := rq_l q) (Or.inl c)
    have hs := ok.2.2.1 (mr_a g q) (by omega)
    have sl : rq_S q (mr_a g q) < 2 ^ 31 := by
      by_cases w : 4 ≤ rq_S q (mr_a g q)
      · have := hs.1 w; omega
      · omega
    rw [hla.2, ha, ar_at _ (by omega), (R.1 (mr_a g q) (by omega)).1]
    refine ⟨vp_in_nI (by omega) (by omega), pk_eq (rq_S q (mr_a g q)) 0 (fun z => h0 (fun w => (w.2.1 c).1 z)) (fun z => ⟨vp_in_nI (by omega) (by omega), pk_eq (rq_S q (mr_a g q)) 3 (fun y => h0 (fun w => (w.2.1 c).2 y)) (fun y => h1 ?_)⟩)⟩
    exact ⟨tk, fun _ => ⟨z, y⟩, fun y => by omega, fun y => by omega, fun y => by omega, fun y => by omega, fun y => by omega, fun y => by omega⟩
  refine pk_eq (mr_o g q) 3 (fun c => T (by omega)) (fun n3 => pk_eq (mr_o g q) 4 (fun c => T (by omega)) (fun n4 => pk_eq (mr_o g q) 5 (fun c => T (by omega)) (fun n5 => pk_eq (mr_o g q) 6 (fun c => T (by omega)) (fun n6 => ?_))))
  refine pk_eq (mr_o g q) 7 (fun c => ?_) (fun n7 => ?_)
  · obtain ⟨hp, e2⟩ := tkn 7 2 c rfl
    have et := ht (by omega)
    have eu := hu (by omega)
    have tl := tl (by omega)
    refine pk_eq t 1 (fun z => pk_eq u 1 (fun y => h1 ?_) (fun y => h0 (fun w => y (eu.trans (w.2.2.1 c).2)))) (fun z => h0 (fun w => z (et.trans (w.2.2.1 c).1)))
    exact ⟨tk, fun y => by omega, fun _ => ⟨et.symm.trans z, eu.symm.trans y⟩, fun y => by omega, fun y => by omega, fun y => by omega, fun y => by omega, fun y => by omega⟩
  refine pk_eq (mr_o g q) 8 (fun c => T (by omega)) (fun n8 => ?_)
  refine pk_eq (mr_o g q) 9 (fun c => ?_) (fun n9 => ?_)
  · obtain ⟨hp, e2⟩ := tkn 9 1 c rfl
    have et := ht (by omega)
    have tl := tl (by omega)
    rw [et]
    refine pk_le (mr_t q) 3 (fun z => h0 (fun w => by have := (w.2.2.2.1 c).1; omega)) (fun z => ?_)
    have e : nI (mr_t q) - 4 = nI (mr_t q - 4) := pk_sub (b := 4) (by omega)
    have hj := t4 (by omega) (by omega)
    rw [e, ar_at _ (by omega), (R.2 _ hj).2]
    refine ⟨vp_in_nI (by omega) (by omega), ?_⟩
    cases er : rq_R q (mr_t q - 4) with
    | false => exact xb_0 (h1 ⟨tk, fun y => by omega, fun y => by omega, fun _ => ⟨by omega, er⟩, fun y => by omega, fun y => by omega, fun y => by omega, fun y => by omega⟩)
    | true =>
      refine xb_1 (h0 (fun w => ?_))
      have := (w.2.2.2.1 c).2
      rw [er] at this; cases this
  refine pk_eq (mr_o g q) 10 (fun c => S152 (by omega) (tkn 10 1 c rfl).1 (ht (by have := tkn 10 1 c rfl; omega))) (fun n10 => pk_eq (mr_o g q) 11 (fun c => S171 (by omega) (tkn 11 1 c rfl).1 (ht (by have := tkn 11 1 c rfl; omega))) (fun n11 => pk_eq (mr_o g q) 12 (fun c => T (by omega)) (fun n12 => ?_)))
  refine pk_eq (mr_o g q) 13 (fun c => ?_) (fun n13 => ?_)
  · obtain ⟨hp, e2⟩ := tkn 13 1 c rfl
    have et := ht (by omega)
    have tl := tl (by omega)
    refine pk_eq t 1 (fun z => h1 ?_) (fun z => h0 (fun w => z (et.trans (w.2.2.2.2.2.2.1 c))))
    exact ⟨tk, fun y => by omega, fun y => by omega, fun y => by omega, fun y => by omega, fun y => by omega, fun _ => et.symm.trans z, fun y => by omega⟩
  refine pk_eq (mr_o g q) 14 (fun c => S152 (by omega) (tkn 14 1 c rfl).1 (ht (by have := tkn 14 1 c rfl; omega))) (fun n14 => pk_eq (mr_o g q) 15 (fun c => T (by omega)) (fun n15 => ?_))
  refine pk_eq (mr_o g q) 16 (fun c => ?_) (fun n16 => ?_)
  · have hla := mn_lim4 hG (i := rq_l q) (Or.inr (Or.inr c))
    have hs := ok.2.2.1 (mr_a g q) (by omega)
    have sl : rq_S q (mr_a g q) < 2 ^ 31 := by
      by_cases w : 4 ≤ rq_S q (mr_a g q)
      · have := hs.1 w; omega
      · omega
    rw [hla.2, ha, ar_at _ (by omega), (R.1 (mr_a g q) (by omega)).1]
    refine ⟨vp_in_nI (by omega) (by omega), pk_eq (rq_S q (mr_a g q)) 3 (fun z => h1 ?_) (fun z => h0 (fun w => z (w.2.2.2.2.2.2.2 c)))⟩
    exact ⟨tk, fun y => by omega, fun y => by omega, fun y => by omega, fun y => by omega, fun y => by omega, fun y => by omega, fun _ => z⟩
  refine pk_eq (mr_o g q) 17 (fun c => T (by omega)) (fun n17 => pk_eq (mr_o g q) 18 (fun c => S171 (by omega) (tkn 18 1 c rfl).1 (ht (by have := tkn 18 1 c rfl; omega))) (fun n18 => pk_eq (mr_o g q) 19 (fun c => S152 (by omega) (tkn 19 1 c rfl).1 (ht (by have := tkn 19 1 c rfl; omega))) (fun n19 => by omega)))
end
end
section
/-! ===== the reference: the whole instruction, the whole run ===== -/
section
variable {f_length f_handlers f_many f_there f_typed f_wrongNumber f_wrongPlace f_size f_why f_height f_objects f_line f_begun f_last f_end : Int32} {a_parent a_begin a_op a_arg a_from a_to a_target a_caught a_places a_heights a_gone a_worst a_frames a_maps a_high a_known a_mapped a_now a_sorts a_ints a_classes a_ready : Nat → Int32}
variable {g : md_C} {q : mr_Q} {st cl rd : Nat → Nat} {it : Nat → Int32}
theorem yr_r24 {post : SY → Prop} {ob : Nat} {hh : Int32} (hG : md_G g) (R : mr_Yn 4 q st it cl rd) (hC : ∀ j, j < rq_n q → rq_C q j < 8) (hn : rq_n q ≤ 205) (hl : rq_l q < mc_cc g) (hob : ob < rq_n q) (H1 : ∀ q', mr_rz g q ob = (q', 0, 0) → ∀ (st : Nat → Nat) (it : Nat → Int32), mr_Y q' st it cl rd → post ((nI (mc_cc g)), (nI (mc_hc g)), f_many, f_there, f_typed, f_wrongNumber, f_wrongPlace, f_size, f_why, (nI (rq_h q')), (nI (rq_n q')), (nI (rq_l q')), f_begun, (-1), (-1), (ar (mc_p g)), (ar (mc_e g)), (ar (mc_o g)), (mc_r g), (ar (mc_f g)), (ar (mc_t g)), (ar (mc_g g)), (ar (mc_k g)), a_places, a_heights, a_gone, a_worst, a_frames, a_maps, a_high, a_known, a_mapped, a_now, (ar st), it, (ar cl), (ar rd))) (H0 : mr_rz g q ob = (q, 3, rq_C q ob + 1) → post ((nI (mc_cc g)), (nI (mc_hc g)), f_many, f_there, f_typed, f_wrongNumber, f_wrongPlace, f_size, f_why, hh, (nI (rq_n q)), (nI (rq_l q)), f_begun, (nI (rq_C q ob)), 2, (ar (mc_p g)), (ar (mc_e g)), (ar (mc_o g)), (mc_r g), (ar (mc_f g)), (ar (mc_t g)), (ar (mc_g g)), (ar (mc_k g)), a_places, a_heights, a_gone, a_worst, a_frames, a_maps, a_high, a_known, a_mapped, a_now, (ar st), it, (ar cl), (ar rd))) : ∃ n, wY_raise_24 post (nI (rq_l q)) (nI (4 + ob)) (nI (mc_cc g)) (nI (mc_hc g)) f_many f_there f_typed f_wrongNumber f_wrongPlace f_size f_why hh (nI (rq_n q)) (nI (rq_l q)) f_begun (-1) (-1) (ar (mc_p g)) (ar (mc_e g)) (ar (mc_o g)) (mc_r g) (ar (mc_f g)) (ar (mc_t g)) (ar (mc_g g)) (ar (mc_k g)) a_places a_heights a_gone a_worst a_frames a_maps a_high a_known a_mapped a_now (ar st) it (ar cl) (ar rd) n 0 := by
  have hcc := hG.1
  have hhc := hG.2.1
  have e4 : nI (4 + ob) - 4 = nI ob := by
    show nI (4 + ob) - nI 4 = _
    rw [pk_sub (by omega)]; exact congrArg nI (by omega)
  have L : ∀ e x, x + e = mc_hc g → mr_fd g (rq_l q) (rq_C q ob) (mc_hc g) 0 = mr_fd g (rq_l q) (rq_C q ob) (mc_hc g - x) x → wY_raise_24 post (nI (rq_l q)) (nI (4 + ob)) (nI (mc_cc g)) (nI (mc_hc g)) f_many f_there f_typed f_wrongNumber f_wrongPlace f_size f_why hh (nI (rq_n q)) (nI (rq_l q)) f_begun (-1) (-1) (ar (mc_p g)) (ar (mc_e g)) (ar (mc_o g)) (mc_r g) (ar (mc_f g)) (ar (mc_t g)) (ar (mc_g g)) (ar (mc_k g)) a_places a_heights a_gone a_worst a_frames a_maps a_high a_known a_mapped a_now (ar st) it (ar cl) (ar rd) (e + 1) (nI x) := by
    intro e
    induction e with
    | zero =>
      intro x hx ef
      refine pk_le (mc_hc g) x (fun _ => ?_) (fun c => by omega)
      rw [e4, ar_at _ (by omega), (R.2 _ hob).1]
      refine ⟨vp_in_nI (by omega) (by omega), nm_e (H0 ?_)⟩
      rw [show mc_hc g - x = 0 by omega] at ef
      unfold mr_rz; rw [ef]; rfl
    | succ e ih =>
      intro x hx ef
      have hb := hG.2.2.2.2.1 x
      have ef2 : mr_fd g (rq_l q) (rq_C q ob) (mc_hc g) 0 = if (mc_f g x ≤ rq_l q ∧ rq_l q < mc_t g x) ∧ mt_ab g (mc_k g x) (rq_C q ob) then some x else mr_fd g (rq_l q) (rq_C q ob) (mc_hc g - (x + 1)) (x + 1) := by
        rw [ef, show mc_hc g - x = (mc_hc g - (x + 1)) + 1 by omega]; rfl
      have nx : ¬ ((mc_f g x ≤ rq_l q ∧ rq_l q < mc_t g x) ∧ mt_ab g (mc_k g x) (rq_C q ob)) → wY_raise_24 post (nI (rq_l q)) (nI (4 + ob)) (nI (mc_cc g)) (nI (mc_hc g)) f_many f_there f_typed f_wrongNumber f_wrongPlace f_size f_why hh (nI (rq_n q)) (nI (rq_l q)) f_begun (-1) (-1) (ar (mc_p g)) (ar (mc_e g)) (ar (mc_o g)) (mc_r g) (ar (mc_f g)) (ar (mc_t g)) (ar (mc_g g)) (ar (mc_k g)) a_places a_heights a_gone a_worst a_frames a_maps a_high a_known a_mapped a_now (ar st) it (ar cl) (ar rd) (e + 1) (nI (x + 1)) := by
        intro z
        rw [if_neg z] at ef2
        exact ih (x + 1) (by omega) ef2
      refine pk_le (mc_hc g) x (fun c => by omega) (fun c => ⟨vp_in_nI (by omega) (by omega), ?_⟩)
      rw [ar_at (mc_f g) (by omega), ar_at (mc_t g) (by omega)]
      refine pk_lt (rq_l q) (mc_f g x) (fun d => nm_r (nI_1 x) (nx (fun z => by omega))) (fun d => ⟨vp_in_nI (by omega) (by omega), pk_le (mc_t g x) (rq_l q) (fun d2 => nm_r (nI_1 x) (nx (fun z => by omega))) (fun d2 => ⟨vp_in_nI (by omega) (by omega), ?_⟩)⟩)
      rw [e4, ar_at cl (by omega), ar_at (mc_k g) (by omega), (R.2 _ hob).1]
      refine ⟨vp_in_nI (by omega) (by omega), ya_abv hG (hC _ hob) hb.2.2.2 (fun z => xb_1 ?_) (fun z => xb_0 (nm_r (nI_1 x) (nx (fun w => z w.2))))⟩
      rw [if_pos ⟨⟨d, d2⟩, z⟩] at ef2
      have er : mr_rz g q ob = ((mf_up (rq_S q) 4 (4 + ob), rq_I q, rq_C q, rq_R q, 1, rq_n q, mc_g g x), 0, 0) := by
        unfold mr_rz; rw [ef2]
      refine yr_put (h := 0) (by omega) ⟨vp_in_nI (by omega) (by omega), nm_r (ar_at _ (by omega)) (H1 _ er _ _ ⟨fun j hj => ?_, R.2⟩)⟩
      have hj' : j < 5 := hj
      show mf_up st 4 (4 + ob) j = mf_up (rq_S q) 4 (4 + ob) j ∧ (mf_up (rq_S q) 4 (4 + ob) j = 1 ∨ mf_up (rq_S q) 4 (4 + ob) j = 3 → upd it 4 0 j = rq_I q j)
      by_cases w : j = 4
      · subst w; rw [up_s, up_s]; exact ⟨rfl, fun y => by omega⟩
      · rw [up_n w, up_n w, pk_un w]; exact R.1 j (by omega)
  exact ⟨mc_hc g + 1, L (mc_hc g) 0 (by omega) rfl⟩
theorem yr_step {post : SY → Prop} (hG : md_G g) (hM : md_M g) (R : mr_Y q st it cl rd) (ok : mr_ok g q) (hn : rq_n q ≤ 203) (hl : rq_l q < mc_cc g) (H0 : (mr_st g q).2.1 = 0 → ∀ (st cl rd : Nat → Nat) (it : Nat → Int32), mr_Y (mr_st g q).1 st it cl rd → post ((nI (mc_cc g)), (nI (mc_hc g)), f_many, f_there, f_typed, f_wrongNumber, f_wrongPlace, f_size, f_why, (nI (rq_h (mr_st g q).1)), (nI (rq_n (mr_st g q).1)), (nI (rq_l (mr_st g q).1)), f_begun, (-1), (-1), (ar (mc_p g)), (ar (mc_e g)), (ar (mc_o g)), (mc_r g), (ar (mc_f g)), (ar (mc_t g)), (ar (mc_g g)), (ar (mc_k g)), a_places, a_heights, a_gone, a_worst, a_frames, a_maps, a_high, a_known, a_mapped, a_now, (ar st), it, (ar cl), (ar rd))) (H1 : ∀ w, (mr_st g q).2.1 = w + 1 → ∀ (st cl rd : Nat → Nat) (it : Nat → Int32) (hh : Int32), mr_Yn 4 (mr_st g q).1 st it cl rd → post ((nI (mc_cc g)), (nI (mc_hc g)), f_many, f_there, f_typed, f_wrongNumber, f_wrongPlace, f_size, f_why, hh, (nI (rq_n (mr_st g q).1)), (nI (rq_l (mr_st g q).1)), f_begun, (mr_le (mr_st g q).2.2), (nI w), (ar (mc_p g)), (ar (mc_e g)), (ar (mc_o g)), (mc_r g), (ar (mc_f g)), (ar (mc_t g)), (ar (mc_g g)), (ar (mc_k g)), a_places, a_heights, a_gone, a_worst, a_frames, a_maps, a_high, a_known, a_mapped, a_now, (ar st), it, (ar cl), (ar rd))) : wpY_step post ((nI (mc_cc g)), (nI (mc_hc g)), f_many, f_there, f_typed, f_wrongNumber, f_wrongPlace, f_size, f_why, (nI (rq_h q)), (nI (rq_n q)), (nI (rq_l q)), f_begun, (-1), (-1), (ar (mc_p g)), (ar (mc_e g)), (ar (mc_o g)), (mc_r g), (ar (mc_f g)), (ar (mc_t g)), (ar (mc_g g)), (ar (mc_k g)), a_places, a_heights, a_gone, a_worst, a_frames, a_maps, a_high, a_known, a_mapped, a_now, (ar st), it, (ar cl), (ar rd)) (nI (mr_o g q)) (mc_r g (rq_l q)) := by
  have hcc := hG.1
  have h6 := ok.1
  have h20 : mr_o g q < 20 := hG.2.2.1 _
  have t2 := md_tk2 (mr_o g q)
  have p2 := md_pu2 (mr_o g q)
  have ha : mc_a g (rq_l q) = mr_a g q := rfl
  have Rl := mr_Yl R
  have stuck : ¬ mr_gd g q → post ((nI (mc_cc g)), (nI (mc_hc g)), f_many, f_there, f_typed, f_wrongNumber, f_wrongPlace, f_size, f_why, (nI (rq_h q)), (nI (rq_n q)), (nI (rq_l q)), f_begun, (-1), 4, (ar (mc_p g)), (ar (mc_e g)), (ar (mc_o g)), (mc_r g), (ar (mc_f g)), (ar (mc_t g)), (ar (mc_g g)), (ar (mc_k g)), a_places, a_heights, a_gone, a_worst, a_frames, a_maps, a_high, a_known, a_mapped, a_now, (ar st), it, (ar cl), (ar rd)) := by
    intro ng
    have e : mr_st g q = (q, 5, 0) := by unfold mr_st; rw [if_pos ng]
    rw [e] at H1
    exact H1 4 rfl st cl rd it _ Rl
  have tl : 0 < rq_h q → mr_t q < 2 ^ 31 := by
    intro hp
    have := (ok.2.2.1 (3 + rq_h q) (by omega)).1
    have e : rq_S q (3 + rq_h q) = mr_t q := rfl
    rw [e] at this
    by_cases c : 4 ≤ mr_t q
    · have := this c; omega
    · omega
  have t4 : 0 < rq_h q → 4 ≤ mr_t q → mr_t q - 4 < rq_n q := fun hp => (ok.2.2.1 (3 + rq_h q) (by omega)).1
  have S120 : ∀ (t u : Nat) (v w : Int32), (md_tk (mr_o g q) ≤ rq_h q ∧ rq_h q + md_pu (mr_o g q) ≤ 6 + md_tk (mr_o g q)) → (0 < md_tk (mr_o g q) → t = mr_t q ∧ v = it (3 + rq_h q)) → (¬ 0 < md_tk (mr_o g q) → t = 0) → (1 < md_tk (mr_o g q) → u = rq_S q (2 + rq_h q) ∧ w = it (2 + rq_h q)) → u < 2 ^ 31 → wY_step_120 post (nI (mr_o g q)) (mc_r g (rq_l q)) (nI (rq_h q - md_tk (mr_o g q))) (nI t) v (nI u) w (nI (mc_cc g)) (nI (mc_hc g)) f_many f_there f_typed f_wrongNumber f_wrongPlace f_size f_why (nI (rq_h q)) (nI (rq_n q)) (nI (rq_l q)) f_begun (-1) (-1) (ar (mc_p g)) (ar (mc_e g)) (ar (mc_o g)) (mc_r g) (ar (mc_f g)) (ar (mc_t g)) (ar (mc_g g)) (ar (mc_k g)) a_places a_heights a_gone a_worst a_frames a_maps a_high a_known a_mapped a_now (ar st) it (ar cl) (ar rd) := by
    intro t u v w tk ht ht0 hu ul
    unfold wY_step_120
    refine yr_good hG R ok (by omega) hl tk (fun z => (ht z).1) (fun z => (hu z).1) ul (fun gd => xb_1 ?_) (fun ng => xb_0 (stuck ng))
    refine nm_r (nI_1 _) ?_
    have tkn : ∀ n k p, mr_o g q = n → md_tk n = k → md_pu n = p → k ≤ rq_h q ∧ rq_h q + p ≤ 6 + k ∧ md_tk (mr_o g q) = k := by
      intro n k p e1 e2 e3; rw [e1, e2] at tk ⊢; rw [e3] at tk; exact ⟨tk.1, tk.2, rfl⟩
    have rsn : ¬ mr_o g q = 10 → ¬ mr_o g q = 11 → ¬ mr_o g q = 19 → mr_rs g q = none := by
      intro a b c
      unfold mr_rs
      rw [if_neg (fun z => a z.1), if_neg (fun z => by rcases z.1 with y | y <;> omega), if_neg c]
    have stn : mr_rs g q = none → ¬ mr_o g q = 17 → ¬ mr_o g q = 18 → mr_st g q = (mr_nx g q, 0, 0) := by
      intro a b c
      unfold mr_st; rw [if_neg (fun z => z gd), a]; dsimp only; rw [if_neg b, if_neg c]
    have sts : ∀ ob q', mr_rs g q = some (ob, q') → mr_st g q = mr_rz g q' ob := by
      intro ob q' a
      unfold mr_st; rw [if_neg (fun z => z gd), a]
    -- going on
    have go : ¬ mr_o g q = 17 → ¬ mr_o g q = 18 → mr_rs g q = none → ∀ q', mr_nx g q = q' → ∀ (st cl rd : Nat → Nat) (it : Nat → Int32), mr_Y q' st it cl rd → post ((nI (mc_cc g)), (nI (mc_hc g)), f_many, f_there, f_typed, f_wrongNumber, f_wrongPlace, f_size, f_why, (nI (rq_h q')), (nI (rq_n q')), (nI (rq_l q')), f_begun, (-1), (-1), (ar (mc_p g)), (ar (mc_e g)), (ar (mc_o g)), (mc_r g), (ar (mc_f g)), (ar (mc_t g)), (ar (mc_g g)), (ar (mc_k g)), a_places, a_heights, a_gone, a_worst, a_frames, a_maps, a_high, a_known, a_mapped, a_now, (ar st), it, (ar cl), (ar rd)) := by
      intro a b c q' eq st cl rd it R'
      have e := stn c a b
      rw [eq] at e
      rw [e] at H0
      exact H0 rfl st cl rd it R'
    -- an object of class c made and raised
    have rnew : ∀ c, c < 8 → mr_rs g q = some (rq_n q, mr_obj q c true) → ∀ (hh ln : Int32), wpY_raise (fun u => match u with | (f_length, f_handlers, f_many, f_there, f_typed, f_wrongNumber, f_wrongPlace, f_size, f_why, f_height, f_objects, f_line, f_begun, f_last, f_end, a_parent, a_begin, a_op, a_arg, a_from, a_to, a_target, a_caught, a_places, a_heights, a_gone, a_worst, a_frames, a_maps, a_high, a_known, a_mapped, a_now, a_sorts, a_ints, a_classes, a_ready) => post (f_length, f_handlers, f_many, f_there, f_typed, f_wrongNumber, f_wrongPlace, f_size, f_why, f_height, f_objects, f_line, f_begun, f_last, f_end, a_parent, a_begin, a_op, a_arg, a_from, a_to, a_target, a_caught, a_places, a_heights, a_gone, a_worst, a_frames, a_maps, a_high, a_known, a_mapped, a_now, a_sorts, a_ints, a_classes, a_ready)) ((nI (mc_cc g)), (nI (mc_hc g)), f_many, f_there, f_typed, f_wrongNumber, f_wrongPlace, f_size, f_why, hh, (nI (rq_n q)), ln, f_begun, (-1), (-1), (ar (mc_p g)), (ar (mc_e g)), (ar (mc_o g)), (mc_r g), (ar (mc_f g)), (ar (mc_t g)), (ar (mc_g g)), (ar (mc_k g)), a_places, a_heights, a_gone, a_worst, a_frames, a_maps, a_high, a_known, a_mapped, a_now, (ar st), it, (ar cl), (ar rd)) (nI (rq_l q)) (-1) (nI c) := by
      intro c hc hrs hh ln
      unfold wpY_raise
      dsimp only
      refine xb_m' ?_
      have e := sts _ _ hrs
      rw [e] at H0 H1
      refine yr_obj (b := true) (by omega) ?_
      have hC : ∀ j, j < rq_n (mr_obj q c true) → rq_C (mr_obj q c true) j < 8 := (mr_obj_ok ok hc).2.2.2
      refine yr_r24 (q := mr_obj q c true) (hh := hh) hG (mr_Y_obj Rl) hC (by show rq_n q + 1 ≤ 205; omega) hl (by show rq_n q < rq_n q + 1; omega) (fun q2 e2 st2 it2 R2 => ?_) (fun e2 => ?_)
      · rw [e2] at H0
        exact H0 rfl st2 _ _ it2 R2
      · rw [e2] at H1
        exact H1 2 rfl st _ _ it hh (mr_Y_obj Rl)
    have rold : mr_o g q = 19 → ¬ mr_t q = 2 → 0 < rq_h q → ∀ (hh ln : Int32), wpY_raise (fun u => match u with | (f_length, f_handlers, f_many, f_there, f_typed, f_wrongNumber, f_wrongPlace, f_size, f_why, f_height, f_objects, f_line, f_begun, f_last, f_end, a_parent, a_begin, a_op, a_arg, a_from, a_to, a_target, a_caught, a_places, a_heights, a_gone, a_worst, a_frames, a_maps, a_high, a_known, a_mapped, a_now, a_sorts, a_ints, a_classes, a_ready) => post (f_length, f_handlers, f_many, f_there, f_typed, f_wrongNumber, f_wrongPlace, f_size, f_why, f_height, f_objects, f_line, f_begun, f_last, f_end, a_parent, a_begin, a_op, a_arg, a_from, a_to, a_target, a_caught, a_places, a_heights, a_gone, a_worst, a_frames, a_maps, a_high, a_known, a_mapped, a_now, a_sorts, a_ints, a_classes, a_ready)) ((nI (mc_cc g)), (nI (mc_hc g)), f_many, f_there, f_typed, f_wrongNumber, f_wrongPlace, f_size, f_why, hh, (nI (rq_n q)), ln, f_begun, (-1), (-1), (ar (mc_p g)), (ar (mc_e g)), (ar (mc_o g)), (mc_r g), (ar (mc_f g)), (ar (mc_t g)), (ar (mc_g g)), (ar (mc_k g)), a_places, a_heights, a_gone, a_worst, a_frames, a_maps, a_high, a_known, a_mapped, a_now, (ar st), it, (ar cl), (ar rd)) (nI (rq_l q)) (nI (mr_t q)) 2 := by
      intro c t2' hp hh ln
      have tt : 4 ≤ mr_t q := by
        rcases gd.2.2.2.2.1 (Or.inr (Or.inr c)) with z | ⟨z, _⟩
        · exact absurd z t2'
        · exact z
      have hj := t4 hp tt
      have hrs : mr_rs g q = some (mr_t q - 4, q) := by
        unfold mr_rs
        rw [if_neg (fun z => by omega), if_neg (fun z => t2' z.2), if_pos c]
      have e := sts _ _ hrs
      rw [e] at H0 H1
      unfold wpY_raise
      dsimp only
      refine xb_n' (by omega) ?_
      have e5 : mr_t q = 4 + (mr_t q - 4) := by omega
      rw [e5]
      refine yr_r24 (q := q) (hh := hh) hG Rl ok.2.2.2 (by omega) hl hj (fun q2 e2 st2 it2 R2 => ?_) (fun e2 => ?_)
      · rw [e2] at H0
        exact H0 rfl st2 _ _ it2 R2
      · rw [e2] at H1
        exact H1 2 rfl st _ _ it hh Rl
    refine br_f (nI_pos (by omega)) (pk_lt 19 (mr_o g q) (fun c => by omega) (fun c19 => ?_))
    refine pk_eq (mr_o g q) 0 (fun o => ?_) (fun n0 => ?_)
    · obtain ⟨k1, k2, k3⟩ := tkn 0 0 1 o rfl rfl
      rw [k3]
      exact yr_put (s := 1) (by omega) (go (by omega) (by omega) (rsn (by omega) (by omega) (by omega)) _ (mr_nx0 o) _ _ _ _ (mr_Y_set R (Or.inr ⟨rfl, rfl⟩) (fun _ => rfl)))
    refine pk_eq (mr_o g q) 1 (fun o => ?_) (fun n1 => ?_)
    · obtain ⟨k1, k2, k3⟩ := tkn 1 0 1 o rfl rfl
      rw [k3]
      exact yr_put (s := 2) (by omega) (go (by omega) (by omega) (rsn (by omega) (by omega) (by omega)) _ (mr_nx1 o) _ _ _ _ (mr_Y_set R (Or.inr ⟨rfl, rfl⟩) (fun h => by omega)))
    refine pk_eq (mr_o g q) 2 (fun o => ?_) (fun n2 => ?_)
    · obtain ⟨k1, k2, k3⟩ := tkn 2 0 1 o rfl rfl
      have hla := mn_lim4 hG (i := rq_l q) (Or.inl o)
      have r := R.1 (mr_a g q) (by omega)
      rw [k3, hla.2, ha, ar_at _ (by omega), r.1, nI_clamp (by omega)]
      exact ⟨vp_in_nI (by omega) (by omega), vp_in_nI (by omega) (by omega), yr_put (by omega) (go (by omega) (by omega) (rsn (by omega) (by omega) (by omega)) _ (mr_nx2 o) _ _ _ _ (mr_Y_set R (Or.inr ⟨rfl, rfl⟩) r.2))⟩
    refine pk_eq (mr_o g q) 3 (fun o => ?_) (fun n3 => ?_)
    · obtain ⟨k1, k2, k3⟩ := tkn 3 1 0 o rfl rfl
      have hla := mn_lim4 hG (i := rq_l q) (Or.inr (Or.inl o))
      have r := R.1 (3 + rq_h q) (by omega)
      obtain ⟨et, ev⟩ := ht (by omega)
      rw [k3, hla.2, ha, et, ev]
      refine ⟨vp_in_nI (by omega) (by omega), nm_r (ar_ui _ _ (by omega)) ⟨vp_in_nI (by omega) (by omega), nm_r (e' := upd it (mr_a g q) (it (3 + rq_h q))) (by rw [nI_clamp (by omega)]) ?_⟩⟩
      exact go (by omega) (by omega) (rsn (by omega) (by omega) (by omega)) _ (mr_nx3 o) _ _ _ _ (mr_Y_set R (Or.inl (by omega)) r.2)
    refine pk_eq (mr_o g q) 4 (fun o => ?_) (fun n4 => ?_)
    · obtain ⟨k1, k2, k3⟩ := tkn 4 1 0 o rfl rfl
      rw [k3]
      exact go (by omega) (by omega) (rsn (by omega) (by omega) (by omega)) _ (mr_nxd (Or.inl o)) _ _ _ _ (mr_Y_hl R (by omega))
    refine pk_eq (mr_o g q) 5 (fun o => ?_) (fun n5 => ?_)
    · obtain ⟨k1, k2, k3⟩ := tkn 5 1 2 o rfl rfl
      have r := R.1 (3 + rq_h q) (by omega)
      obtain ⟨et, ev⟩ := ht (by omega)
      rw [k3, et, ev]
      refine yr_put (by omega) (yr_put (by omega) ?_)
      have := go (by omega) (by omega) (rsn (by omega) (by omega) (by omega)) _ (mr_nx5 o) (mf_up (mf_up st (4 + (rq_h q - 1)) (mr_t q)) (4 + (rq_h q - 1 + 1)) (mr_t q)) cl rd (upd (upd it (4 + (rq_h q - 1)) (it (3 + rq_h q))) (4 + (rq_h q - 1 + 1)) (it (3 + rq_h q))) ?_
      · have e : nI (rq_h q - 1 + 1 + 1) = nI (rq_h q + 1) := congrArg nI (by omega)
        rw [e]; exact this
      · refine ⟨fun j hj => ?_, R.2⟩
        have hj' : j < 4 + (rq_h q + 1) := hj
        show mf_up (mf_up st (4 + (rq_h q - 1)) (mr_t q)) (4 + (rq_h q - 1 + 1)) (mr_t q) j = mf_up (rq_S q) (4 + rq_h q) (mr_t q) j ∧ (mf_up (rq_S q) (4 + rq_h q) (mr_t q) j = 1 ∨ mf_up (rq_S q) (4 + rq_h q) (mr_t q) j = 3 → upd (upd it (4 + (rq_h q - 1)) (it (3 + rq_h q))) (4 + (rq_h q - 1 + 1)) (it (3 + rq_h q)) j = upd (rq_I q) (4 + rq_h q) (rq_I q (3 + rq_h q)) j)
        rw [show 4 + (rq_h q - 1 + 1) = 4 + rq_h q by omega, show 4 + (rq_h q - 1) = 3 + rq_h q by omega]
        by_cases w : j = 4 + rq_h q
        · subst w; rw [up_s, up_s, pk_us, pk_us]; exact ⟨rfl, r.2⟩
        · rw [up_n w, up_n w, pk_un w, pk_un w]
          by_cases w2 : j = 3 + rq_h q
          · subst w2; rw [up_s, pk_us]; exact ⟨rfl, r.2⟩
          · rw [up_n w2, pk_un w2]; exact R.1 j (by omega)
    refine pk_eq (mr_o g q) 6 (fun o => ?_) (fun n6 => ?_)
    · obtain ⟨k1, k2, k3⟩ := tkn 6 2 2 o rfl rfl
      have r := R.1 (3 + rq_h q) (by omega)
      have r2 := R.1 (2 + rq_h q) (by omega)
      obtain ⟨et, ev⟩ := ht (by omega)
      obtain ⟨eu, ew⟩ := hu (by omega)
      rw [k3, et, ev, eu, ew]
      refine yr_put (by omega) (yr_put (by omega) ?_)
      have e1 : 4 + (rq_h q - 2 + 1) = 3 + rq_h q := by omega
      have e2 : 4 + (rq_h q - 2) = 2 + rq_h q := by omega
      have e3 : rq_h q - 2 + 1 + 1 = rq_h q := by omega
      rw [e1, e2, e3]
      exact go (by omega) (by omega) (rsn (by omega) (by omega) (by omega)) _ (mr_nx6 o) _ _ _ _ (mr_Y_set (q := mr_set q (2 + rq_h q) (mr_t q) (rq_I q (3 + rq_h q)) (rq_h q) (rq_l q + 1)) (mr_Y_set R (Or.inl (Nat.le_refl _)) r.2) (Or.inl (Nat.le_refl _)) r2.2)
    refine pk_eq (mr_o g q) 7 (fun o => ?_) (fun n7 => ?_)
    · obtain ⟨k1, k2, k3⟩ := tkn 7 2 1 o rfl rfl
      have r := R.1 (3 + rq_h q) (by omega)
      have r2 := R.1 (2 + rq_h q) (by omega)
      obtain ⟨et, ev⟩ := ht (by omega)
      obtain ⟨eu, ew⟩ := hu (by omega)
      obtain ⟨g1, g2⟩ := gd.2.2.1 o
      rw [k3, ev, ew]
      refine yr_put (s := 1) (by omega) ?_
      have e2 : 4 + (rq_h q - 2) = 2 + rq_h q := by omega
      have e3 : rq_h q - 2 + 1 = rq_h q - 1 := by omega
      rw [e2, e3]
      exact go (by omega) (by omega) (rsn (by omega) (by omega) (by omega)) _ (mr_nx7 o) _ _ _ _ (mr_Y_set R (Or.inl (by omega)) (fun _ => by rw [r.2 (Or.inl g1), r2.2 (Or.inl g2)]; exact Int32.add_comm _ _))
    refine pk_eq (mr_o g q) 8 (fun o => ?_) (fun n8 => ?_)
    · obtain ⟨k1, k2, k3⟩ := tkn 8 0 1 o rfl rfl
      have hla := mn_lim8 hG (i := rq_l q) (Or.inl o)
      rw [k3, hla.2, ha]
      refine yr_obj (b := false) (by omega) ?_
      refine yr_put (h := rq_h q) (by omega) ?_
      exact go (by omega) (by omega) (rsn (by omega) (by omega) (by omega)) _ (mr_nx8 o) _ _ _ _ (mr_Y_set (q := mr_obj q (mr_a g q) false) (w := 0) (mr_Y_obj R) (Or.inr ⟨rfl, rfl⟩) (fun h => by omega))
    refine pk_eq (mr_o g q) 9 (fun o => ?_) (fun n9 => ?_)
    · obtain ⟨k1, k2, k3⟩ := tkn 9 1 0 o rfl rfl
      obtain ⟨g1, g2⟩ := gd.2.2.2.1 o
      obtain ⟨et, ev⟩ := ht (by omega)
      have hj := t4 (by omega) g1
      have e : nI (mr_t q) - 4 = nI (mr_t q - 4) := pk_sub (b := 4) g1
      rw [k3, et, e]
      refine ⟨vp_in_nI (by omega) (by omega), nm_r (e' := ar (mf_up rd (mr_t q - 4) 1)) (by rw [mi_n1]; exact ar_ui rd 1 (by omega)) ?_⟩
      refine go (by omega) (by omega) (rsn (by omega) (by omega) (by omega)) _ (mr_nx9 o) _ _ _ _ ⟨fun j hj => ?_, fun j hj => ?_⟩
      · have hj' : j < 4 + (rq_h q - 1) := hj
        exact R.1 j (by omega)
      · show cl j = rq_C q j ∧ mf_up rd (mr_t q - 4) 1 j = (mr_uB (rq_R q) (mr_t q - 4) true j).toNat
        unfold mr_uB
        by_cases w : j = mr_t q - 4
        · subst w; rw [up_s, if_pos rfl]; exact ⟨(R.2 _ hj).1, rfl⟩
        · rw [up_n w, if_neg w]; exact R.2 j hj
    refine pk_eq (mr_o g q) 10 (fun o => ?_) (fun n10 => ?_)
    · obtain ⟨k1, k2, k3⟩ := tkn 10 1 1 o rfl rfl
      have hla := mn_lim8 hG (i := rq_l q) (Or.inr (Or.inl o))
      obtain ⟨et, ev⟩ := ht (by omega)
      have r := R.1 (3 + rq_h q) (by omega)
      rw [k3, et, hla.2]
      refine yr_of hG (by omega) R.2 ok.2.2.2 (t4 (by omega)) hla.1 (tl (by omega)) (fun z => xb_1 ?_) (fun z => xb_0 (rnew 1 (by omega) ?_ _ _))
      · refine yr_put (by omega) ?_
        have e2 : 4 + (rq_h q - 1) = 3 + rq_h q := by omega
        have e3 : rq_h q - 1 + 1 = rq_h q := by omega
        rw [e2, e3]
        have nrs : mr_rs g q = none := by
          unfold mr_rs
          rw [if_neg (fun y => y.2 z), if_neg (fun y => by rcases y.1 with x | x <;> omega), if_neg (by omega)]
        refine go (by omega) (by omega) nrs _ (mr_nx10 o) _ _ _ _ ⟨fun j hj => ?_, R.2⟩
        have hj' : j < 4 + rq_h q := hj
        show mf_up st (3 + rq_h q) (mr_t q) j = rq_S q j ∧ (rq_S q j = 1 ∨ rq_S q j = 3 → upd it (3 + rq_h q) 0 j = rq_I q j)
        by_cases w : j = 3 + rq_h q
        · subst w
          rw [up_s]
          refine ⟨rfl, fun y => ?_⟩
          have et' : rq_S q (3 + rq_h q) = mr_t q := rfl
          rcases z with x | ⟨x, _⟩ <;> omega
        · rw [up_n w, pk_un w]; exact R.1 j hj'
      · unfold mr_rs; rw [if_pos ⟨o, z⟩]
    refine pk_eq (mr_o g q) 11 (fun o => ?_) (fun n11 => ?_)
    · obtain ⟨k1, k2, k3⟩ := tkn 11 1 0 o rfl rfl
      obtain ⟨et, ev⟩ := ht (by omega)
      have := tl (by omega)
      rw [k3, et]
      refine pk_eq (mr_t q) 2 (fun z => rnew 2 (by omega) ?_ _ _) (fun z => ?_)
      · unfold mr_rs; rw [if_neg (fun y => n10 y.1), if_pos ⟨Or.inl o, z⟩]
      · have nrs : mr_rs g q = none := by
          unfold mr_rs
          rw [if_neg (fun y => n10 y.1), if_neg (fun y => z y.2), if_neg (by omega)]
        exact go (by omega) (by omega) nrs _ (mr_nxd (Or.inr (Or.inl o))) _ _ _ _ (mr_Y_hl R (by omega))
    refine pk_eq (mr_o g q) 12 (fun o => ?_) (fun n12 => ?_)
    · obtain ⟨k1, k2, k3⟩ := tkn 12 0 0 o rfl rfl
      rw [k3, (mn_lim24 hG (i := rq_l q) (show 12 ≤ mr_o g q ∧ mr_o g q ≤ 15 by omega)).2]
      exact go (by omega) (by omega) (rsn (by omega) (by omega) (by omega)) _ (mr_nx12 o) _ _ _ _ (mr_Y_hl R (Nat.le_refl _))
    refine pk_eq (mr_o g q) 13 (fun o => ?_) (fun n13 => ?_)
    · obtain ⟨k1, k2, k3⟩ := tkn 13 1 0 o rfl rfl
      obtain ⟨et, ev⟩ := ht (by omega)
      have r := R.1 (3 + rq_h q) (by omega)
      have g1 := gd.2.2.2.2.2.2.1 o
      rw [k3, ev, r.2 (Or.inl g1), (mn_lim24 hG (i := rq_l q) (show 12 ≤ mr_o g q ∧ mr_o g q ≤ 15 by omega)).2]
      have := go (by omega) (by omega) (rsn (by omega) (by omega) (by omega)) _ (mr_nx13 o) st cl rd it (mr_Y_hl R (by omega))
      refine br_c (fun z => ?_) (fun z => ?_)
      · rw [if_pos z] at this; exact this
      · rw [if_neg z] at this; exact this
    refine pk_eq (mr_o g q) 14 (fun o => ?_) (fun n14 => ?_)
    · obtain ⟨k1, k2, k3⟩ := tkn 14 1 0 o rfl rfl
      obtain ⟨et, ev⟩ := ht (by omega)
      have := tl (by omega)
      rw [k3, et, (mn_lim24 hG (i := rq_l q) (show 12 ≤ mr_o g q ∧ mr_o g q ≤ 15 by omega)).2]
      have := go (by omega) (by omega) (rsn (by omega) (by omega) (by omega)) _ (mr_nx14 o) st cl rd it (mr_Y_hl R (by omega))
      refine pk_eq (mr_t q) 2 (fun z => ?_) (fun z => ?_)
      · rw [if_pos z] at this; exact this
      · rw [if_neg z] at this; exact this
    refine pk_eq (mr_o g q) 15 (fun o => ?_) (fun n15 => ?_)
    · obtain ⟨k1, k2, k3⟩ := tkn 15 0 1 o rfl rfl
      rw [k3, (mn_lim24 hG (i := rq_l q) (show 12 ≤ mr_o g q ∧ mr_o g q ≤ 15 by omega)).2]
      exact yr_put (s := 3) (by omega) (go (by omega) (by omega) (rsn (by omega) (by omega) (by omega)) _ (mr_nx15 o) _ _ _ _ (mr_Y_set R (Or.inr ⟨rfl, rfl⟩) (fun _ => rfl)))
    refine pk_eq (mr_o g q) 16 (fun o => ?_) (fun n16 => ?_)
    · obtain ⟨k1, k2, k3⟩ := tkn 16 0 0 o rfl rfl
      have hla := mn_lim4 hG (i := rq_l q) (Or.inr (Or.inr o))
      have s3 := gd.2.2.2.2.2.2.2 o
      obtain ⟨l, hl1, hl2⟩ := (ok.2.2.1 (mr_a g q) (by omega)).2 s3
      have r := R.1 (mr_a g q) (by omega)
      rw [k3, hla.2, ha, nI_clamp (by omega), r.2 (Or.inr s3), hl2, nI_1]
      have := go (by omega) (by omega) (rsn (by omega) (by omega) (by omega)) _ (mr_nx16 o) st cl rd it (mr_Y_hl R (Nat.le_refl _))
      rw [hl2, nI_clamp (by omega)] at this
      exact ⟨vp_in_nI (by omega) (by omega), nm_e this⟩
    have fin : mr_o g q = 17 ∨ mr_o g q = 18 → wY_step_499 post (nI (mr_o g q)) (nI t) (nI (rq_l q)) (nI (mc_cc g)) (nI (mc_hc g)) f_many f_there f_typed f_wrongNumber f_wrongPlace f_size f_why (nI (rq_h q - md_tk (mr_o g q))) (nI (rq_n q)) (nI (rq_l q + 1)) f_begun (-1) (-1) (ar (mc_p g)) (ar (mc_e g)) (ar (mc_o g)) (mc_r g) (ar (mc_f g)) (ar (mc_t g)) (ar (mc_g g)) (ar (mc_k g)) a_places a_heights a_gone a_worst a_frames a_maps a_high a_known a_mapped a_now (ar st) it (ar cl) (ar rd) := by
      intro o
      unfold wY_step_499
      have nrs := rsn (by omega) (by omega) (by omega)
      refine pk_eq (mr_o g q) 17 (fun c => ?_) (fun c => ?_)
      · obtain ⟨k1, k2, k3⟩ := tkn 17 0 0 c rfl rfl
        have e : mr_st g q = (q, 1, 0) := by
          unfold mr_st; rw [if_neg (fun z => z gd), nrs]; dsimp only; rw [if_pos c]
        rw [e] at H1
        rw [ht0 (by omega)]
        exact br_t (by decide) (H1 0 rfl st cl rd it _ Rl)
      · have c18 : mr_o g q = 18 := by omega
        obtain ⟨k1, k2, k3⟩ := tkn 18 1 0 c18 rfl rfl
        obtain ⟨et, ev⟩ := ht (by omega)
        have tl := tl (by omega)
        have e : mr_st g q = (q, 2, if 4 ≤ mr_t q then rq_C q (mr_t q - 4) + 1 else 0) := by
          unfold mr_st; rw [if_neg (fun z => z gd), nrs]; dsimp only; rw [if_neg c, if_pos c18]
        rw [e] at H1
        have := H1 1 rfl st cl rd it (nI (rq_h q - md_tk (mr_o g q))) Rl
        dsimp only at this
        unfold wY_step_517
        rw [et]
        refine pk_le (mr_t q) 3 (fun z => ?_) (fun z => ?_)
        · rw [if_neg (by omega)] at this; exact this
        · have e5 : nI (mr_t q) - 4 = nI (mr_t q - 4) := pk_sub (b := 4) (by omega)
          have hj := t4 (by omega) (by omega)
          rw [if_pos (by omega)] at this
          rw [e5, ar_at _ (by omega), (R.2 _ hj).1]
          exact ⟨vp_in_nI (by omega) (by omega), nm_e this⟩
    refine pk_eq (mr_o g q) 17 (fun o => fin (Or.inl o)) (fun n17 => pk_eq (mr_o g q) 18 (fun o => fin (Or.inr o)) (fun n18 => pk_eq (mr_o g q) 19 (fun o => ?_) (fun n19 => by omega)))
    obtain ⟨k1, k2, k3⟩ := tkn 19 1 0 o rfl rfl
    obtain ⟨et, ev⟩ := ht (by omega)
    have tl := tl (by omega)
    rw [k3, et]
    unfold wY_step_494
    refine pk_eq (mr_t q) 2 (fun z => rnew 2 (by omega) ?_ _ _) (fun z => rold o z (by omega) _ _)
    unfold mr_rs; rw [if_neg (fun y => n10 y.1), if_pos ⟨Or.inr o, z⟩]
  unfold wpY_step
  dsimp only
  have I1 := mi_lt0 (rq_h q) (by omega) _ (show md_tk (mr_o g q) < 3 by omega)
  have I2 := mi_le6 (rq_h q) (by omega) _ (show md_tk (mr_o g q) < 3 by omega) _ (show md_pu (mr_o g q) < 3 by omega)
  refine ya_tk h20 (nm_e (br_c (fun c => stuck (fun z => ?_)) (fun c => ya_pu h20 (br_c (fun d => ?_) (fun d => stuck (fun z => ?_))))))
  · rw [I1] at c
    have := z.1.1
    omega
  rotate_left
  · rw [I2] at d
    have := z.1.2
    omega
  rw [I1] at c
  rw [I2] at d
  have tk : md_tk (mr_o g q) ≤ rq_h q ∧ rq_h q + md_pu (mr_o g q) ≤ 6 + md_tk (mr_o g q) := ⟨by omega, d⟩
  have eh : nI (rq_h q) - nI (md_tk (mr_o g q)) = nI (rq_h q - md_tk (mr_o g q)) := pk_sub (by omega)
  have e3 : (3 : Int32) + nI (rq_h q) = nI (3 + rq_h q) := nI_add 3 _
  have e2 : (2 : Int32) + nI (rq_h q) = nI (2 + rq_h q) := nI_add 2 _
  rw [eh]
  have S98 : ∀ (t u : Nat) (v : Int32), (0 < md_tk (mr_o g q) → t = mr_t q ∧ v = it (3 + rq_h q)) → (¬ 0 < md_tk (mr_o g q) → t = 0) → (1 < md_tk (mr_o g q) → u = rq_S q (2 + rq_h q)) → u < 2 ^ 31 → wY_step_98 post (nI (mr_o g q)) (mc_r g (rq_l q)) (nI (md_tk (mr_o g q))) (nI (rq_h q - md_tk (mr_o g q))) (nI t) v (nI u) (nI (mc_cc g)) (nI (mc_hc g)) f_many f_there f_typed f_wrongNumber f_wrongPlace f_size f_why (nI (rq_h q)) (nI (rq_n q)) (nI (rq_l q)) f_begun (-1) (-1) (ar (mc_p g)) (ar (mc_e g)) (ar (mc_o g)) (mc_r g) (ar (mc_f g)) (ar (mc_t g)) (ar (mc_g g)) (ar (mc_k g)) a_places a_heights a_gone a_worst a_frames a_maps a_high a_known a_mapped a_now (ar st) it (ar cl) (ar rd) := by
    intro t u v h1 h1' h2 hul
    unfold wY_step_98
    rw [e2]
    refine pk_le (md_tk (mr_o g q)) 1 (fun z => S120 t u v 0 tk h1 h1' (fun y => by omega) hul) (fun z => ⟨vp_in_nI (by omega) (by omega), ?_⟩)
    rw [nI_clamp (by omega)]
    exact S120 t u v _ tk h1 h1' (fun y => ⟨h2 y, rfl⟩) hul
  have S76 : ∀ (t : Nat) (v : Int32), (0 < md_tk (mr_o g q) → t = mr_t q ∧ v = it (3 + rq_h q)) → (¬ 0 < md_tk (mr_o g q) → t = 0) → wY_step_76 post (nI (mr_o g q)) (mc_r g (rq_l q)) (nI (md_tk (mr_o g q))) (nI (rq_h q - md_tk (mr_o g q))) (nI t) v (nI (mc_cc g)) (nI (mc_hc g)) f_many f_there f_typed f_wrongNumber f_wrongPlace f_size f_why (nI (rq_h q)) (nI (rq_n q)) (nI (rq_l q)) f_begun (-1) (-1) (ar (mc_p g)) (ar (mc_e g)) (ar (mc_o g)) (mc_r g) (ar (mc_f g)) (ar (mc_t g)) (ar (mc_g g)) (ar (mc_k g)) a_places a_heights a_gone a_worst a_frames a_maps a_high a_known a_mapped a_now (ar st) it (ar cl) (ar rd) := by
    intro t v h1 h1'
    unfold wY_step_76
    rw [e2]
    refine pk_le (md_tk (mr_o g q)) 1 (fun z => S98 t 0 v h1 h1' (fun y => by omega) (by omega)) (fun z => ⟨vp_in_nI (by omega) (by omega), ?_⟩)
    have r := R.1 (2 + rq_h q) (by omega)
    have hs := ok.2.2.1 (2 + rq_h q) (by omega)
    rw [ar_at _ (by omega), r.1]
    refine S98 t _ v h1 h1' (fun _ => rfl) ?_
    by_cases w : 4 ≤ rq_S q (2 + rq_h q)
    · have := hs.1 w; omega
    · omega
  have S55 : ∀ t : Nat, (0 < md_tk (mr_o g q) → t = mr_t q) → (¬ 0 < md_tk (mr_o g q) → t = 0) → wY_step_55 post (nI (mr_o g q)) (mc_r g (rq_l q)) (nI (md_tk (mr_o g q))) (nI (rq_h q - md_tk (mr_o g q))) (nI t) (nI (mc_cc g)) (nI (mc_hc g)) f_many f_there f_typed f_wrongNumber f_wrongPlace f_size f_why (nI (rq_h q)) (nI (rq_n q)) (nI (rq_l q)) f_begun (-1) (-1) (ar (mc_p g)) (ar (mc_e g)) (ar (mc_o g)) (mc_r g) (ar (mc_f g)) (ar (mc_t g)) (ar (mc_g g)) (ar (mc_k g)) a_places a_heights a_gone a_worst a_frames a_maps a_high a_known a_mapped a_now (ar st) it (ar cl) (ar rd) := by
    intro t h1 h1'
    unfold wY_step_55
    rw [e3]
    refine pk_le (md_tk (mr_o g q)) 0 (fun z => S76 t 0 (fun y => by omega) h1') (fun z => ⟨vp_in_nI (by omega) (by omega), ?_⟩)
    rw [nI_clamp (by omega)]
    exact S76 t _ (fun y => ⟨h1 y, rfl⟩) h1'
  refine pk_le (md_tk (mr_o g q)) 0 (fun z => S55 0 (fun y => by omega) (fun _ => rfl)) (fun z => ?_)
  rw [e3]
  refine ⟨vp_in_nI (by omega) (by omega), ?_⟩
  rw [ar_at _ (by omega), (R.1 (3 + rq_h q) (by omega)).1]
  exact S55 _ (fun _ => rfl) (fun y => absurd (by omega) y)
end
end
section
/-! ===== the reference: the whole run ===== -/
section
variable {f_length f_handlers f_many f_there f_typed f_wrongNumber f_wrongPlace f_size f_why f_height f_objects f_line f_begun f_last f_end : Int32} {a_parent a_begin a_op a_arg a_from a_to a_target a_caught a_places a_heights a_gone a_worst a_frames a_maps a_high a_known a_mapped a_now a_sorts a_ints a_classes a_ready : Nat → Int32}
variable {g : md_C}
theorem yr_loop {post : Int32 → SY → Prop} {most : Nat} (hG : md_G g) (hM : md_M g) (hm : most ≤ 200) (res : mr_Q × Nat × Nat × Nat) (HP : ∀ w, res.2.1 = w + 1 → ∀ (st cl rd : Nat → Nat) (it : Nat → Int32) (hh : Int32), mr_Yn 4 res.1 st it cl rd → post (nI w) ((nI (mc_cc g)), (nI (mc_hc g)), f_many, f_there, f_typed, f_wrongNumber, f_wrongPlace, f_size, f_why, hh, (nI (rq_n res.1)), (nI (rq_l res.1)), (nI res.2.2.2), (mr_le res.2.2.1), (nI w), (ar (mc_p g)), (ar (mc_e g)), (ar (mc_o g)), (mc_r g), (ar (mc_f g)), (ar (mc_t g)), (ar (mc_g g)), (ar (mc_k g)), a_places, a_heights, a_gone, a_worst, a_frames, a_maps, a_high, a_known, a_mapped, a_now, (ar st), it, (ar cl), (ar rd))) : ∀ r b (q : mr_Q) (st cl rd : Nat → Nat) (it : Nat → Int32), b + r = most → mr_Y q st it cl rd → mr_ok g q → rq_n q ≤ 4 + b → mr_run g most (r + 1) b q = res → wY_run_109 post (nI most) (r + 3) (nI (mc_cc g)) (nI (mc_hc g)) f_many f_there f_typed f_wrongNumber f_wrongPlace f_size f_why (nI (rq_h q)) (nI (rq_n q)) (nI (rq_l q)) (nI b) (-1) (-1) (ar (mc_p g)) (ar (mc_e g)) (ar (mc_o g)) (mc_r g) (ar (mc_f g)) (ar (mc_t g)) (ar (mc_g g)) (ar (mc_k g)) a_places a_heights a_gone a_worst a_frames a_maps a_high a_known a_mapped a_now (ar st) it (ar cl) (ar rd) := by
  have out : ∀ n (x : Nat), x ≤ 10 → ∀ (q : mr_Q) (st cl rd : Nat → Nat) (it : Nat → Int32) (bb : Nat) (la hh : Int32), post (nI x) ((nI (mc_cc g)), (nI (mc_hc g)), f_many, f_there, f_typed, f_wrongNumber, f_wrongPlace, f_size, f_why, hh, (nI (rq_n q)), (nI (rq_l q)), (nI bb), la, (nI x), (ar (mc_p g)), (ar (mc_e g)), (ar (mc_o g)), (mc_r g), (ar (mc_f g)), (ar (mc_t g)), (ar (mc_g g)), (ar (mc_k g)), a_places, a_heights, a_gone, a_worst, a_frames, a_maps, a_high, a_known, a_mapped, a_now, (ar st), it, (ar cl), (ar rd)) → wY_run_109 post (nI most) (n + 1) (nI (mc_cc g)) (nI (mc_hc g)) f_many f_there f_typed f_wrongNumber f_wrongPlace f_size f_why hh (nI (rq_n q)) (nI (rq_l q)) (nI bb) la (nI x) (ar (mc_p g)) (ar (mc_e g)) (ar (mc_o g)) (mc_r g) (ar (mc_f g)) (ar (mc_t g)) (ar (mc_g g)) (ar (mc_k g)) a_places a_heights a_gone a_worst a_frames a_maps a_high a_known a_mapped a_now (ar st) it (ar cl) (ar rd) := by
    intro n x hx q st cl rd it bb la hh h
    exact xb_n' (by omega) h
  intro r
  induction r with
  | zero =>
    intro b q st cl rd it hb R ok hn er
    refine xb_m' ?_
    have hl := ok.2.1
    have hcc := hG.1
    simp only [mr_run] at er
    refine pk_eq (rq_l q) (mc_cc g) (fun c => ?_) (fun c => pk_eq b most (fun d => ?_) (fun d => by omega))
    · rw [if_pos c] at er
      subst er
      exact out 1 4 (by omega) q st cl rd it b _ _ (HP 4 rfl st cl rd it _ (mr_Yl R))
    · rw [if_neg c, if_pos d] at er
      subst er
      exact out 1 3 (by omega) q st cl rd it b _ _ (HP 3 rfl st cl rd it _ (mr_Yl R))
  | succ r ih =>
    intro b q st cl rd it hb R ok hn er
    refine xb_m' ?_
    have hl := ok.2.1
    have hcc := hG.1
    rw [mr_run] at er
    refine pk_eq (rq_l q) (mc_cc g) (fun c => ?_) (fun c => pk_eq b most (fun d => by omega) (fun d => nm_r (nI_1 b) ⟨vp_in_nI (by omega) (by omega), vp_in_nI (by omega) (by omega), ?_⟩))
    · rw [if_pos c] at er
      subst er
      exact out (r + 2) 4 (by omega) q st cl rd it b _ _ (HP 4 rfl st cl rd it _ (mr_Yl R))
    · rw [if_neg c, if_neg d] at er
      have eo : ar (mc_o g) (nI (rq_l q)).toNatClampNeg = nI (mr_o g q) := ar_at _ (by omega)
      have ea : mc_r g (nI (rq_l q)).toNatClampNeg = mc_r g (rq_l q) := by rw [nI_clamp (by omega)]
      rw [eo, ea]
      obtain ⟨ok1, hn1⟩ := mr_st_ok hG hM ok (by omega)
      refine yr_step hG hM R ok (by omega) (by omega) (fun e0 st1 cl1 rd1 it1 R1 => ?_) (fun w e0 st1 cl1 rd1 it1 hh R1 => ?_)
      · rw [if_pos e0] at er
        exact ih (b + 1) (mr_st g q).1 st1 cl1 rd1 it1 (by omega) R1 ok1 (by omega) er
      · rw [if_neg (by omega)] at er
        subst er
        have w4 : w ≤ 4 := by
          have : (mr_st g q).2.1 ≤ 5 := by
            unfold mr_st mr_rz
            repeat' split
            all_goals (first | omega | (dsimp only; omega))
          omega
        exact out (r + 2) w (by omega) (mr_st g q).1 st1 cl1 rd1 it1 (b + 1) _ _ (HP w e0 st1 cl1 rd1 it1 hh R1)
theorem yr_bv {post : Int32 → SY → Prop} {st cl rd : Nat → Nat} {it : Nat → Int32} {most : Int32} (hG : md_G g) (H : ∀ (st cl rd : Nat → Nat) (it : Nat → Int32), mr_Y (mr_b0 g 4) st it cl rd → ∃ n, wY_run_109 post most n (nI (mc_cc g)) (nI (mc_hc g)) f_many f_there f_typed f_wrongNumber f_wrongPlace f_size f_why (nI (rq_h (mr_b0 g 4))) (nI (rq_n (mr_b0 g 4))) (nI (rq_l (mr_b0 g 4))) 0 (-1) (-1) (ar (mc_p g)) (ar (mc_e g)) (ar (mc_o g)) (mc_r g) (ar (mc_f g)) (ar (mc_t g)) (ar (mc_g g)) (ar (mc_k g)) a_places a_heights a_gone a_worst a_frames a_maps a_high a_known a_mapped a_now (ar st) it (ar cl) (ar rd)) : ∃ n, wY_run_43 post most n 0 (nI (mc_cc g)) (nI (mc_hc g)) f_many f_there f_typed f_wrongNumber f_wrongPlace f_size f_why 0 0 f_line 0 (-1) f_end (ar (mc_p g)) (ar (mc_e g)) (ar (mc_o g)) (mc_r g) (ar (mc_f g)) (ar (mc_t g)) (ar (mc_g g)) (ar (mc_k g)) a_places a_heights a_gone a_worst a_frames a_maps a_high a_known a_mapped a_now (ar st) it (ar cl) (ar rd) := by
  have L : ∀ e s, s + e = 4 → ∀ (st cl rd : Nat → Nat) (it : Nat → Int32), (∀ t, t < s → st t = rq_S (mr_b0 g s) t ∧ (rq_S (mr_b0 g s) t = 1 ∨ rq_S (mr_b0 g s) t = 3 → it t = rq_I (mr_b0 g s) t)) → (∀ j, j < rq_n (mr_b0 g s) → cl j = rq_C (mr_b0 g s) j ∧ rd j = (rq_R (mr_b0 g s) j).toNat) → wY_run_43 post most (e + 1) (nI s) (nI (mc_cc g)) (nI (mc_hc g)) f_many f_there f_typed f_wrongNumber f_wrongPlace f_size f_why 0 (nI (rq_n (mr_b0 g s))) f_line 0 (-1) f_end (ar (mc_p g)) (ar (mc_e g)) (ar (mc_o g)) (mc_r g) (ar (mc_f g)) (ar (mc_t g)) (ar (mc_g g)) (ar (mc_k g)) a_places a_heights a_gone a_worst a_frames a_maps a_high a_known a_mapped a_now (ar st) it (ar cl) (ar rd) := by
    intro e
    induction e with
    | zero =>
      intro s hs st cl rd it h1 h2
      have es : s = 4 := by omega
      subst es
      obtain ⟨hh, hl⟩ := mr_b0h g 4
      refine pk_le 4 4 (fun _ => ?_) (fun c => by omega)
      have := H st cl rd it ⟨fun t ht => h1 t (by omega), h2⟩
      rw [hh, hl] at this; exact this
    | succ e ih =>
      intro s hs st cl rd it h1 h2
      have he := hG.2.2.2.2.2.2 s
      obtain ⟨kn, _, _⟩ := mr_b0k hG s
      refine pk_le 4 s (fun c => by omega) (fun _ => ⟨vp_in_nI (by omega) (by omega), nm_r (e' := upd it s 0) (by rw [nI_clamp (by omega)]) ⟨vp_in_nI (by omega) (by omega), ?_⟩⟩)
      have eb : ar (mc_e g) (nI s).toNatClampNeg = nI (mc_e g s) := ar_at _ (by omega)
      rw [eb]
      refine pk_le 3 (mc_e g s) (fun c => ⟨vp_in_nI (by omega) (by omega), ?_⟩) (fun c => ⟨vp_in_nI (by omega) (by omega), vp_in_nI (by omega) (by omega), nm_r (ar_ui _ _ (by omega)) (nm_r (nI_1 s) ?_)⟩)
      · have e3 : nI (mc_e g s) - 3 = nI (mc_e g s - 3) := pk_sub (b := 3) c
        rw [e3]
        refine yr_obj (b := true) (by omega) ⟨vp_in_nI (by omega) (by omega), nm_r (ar_ui _ _ (by omega)) (nm_r (nI_1 s) ?_)⟩
        have := ih (s + 1) (by omega) (mf_up st s (4 + rq_n (mr_b0 g s))) (mf_up cl (rq_n (mr_b0 g s)) (mc_e g s - 3)) (mf_up rd (rq_n (mr_b0 g s)) 1) (upd it s 0)
        rw [mr_b0o c] at this
        refine this (fun t ht => ?_) (fun j hj => ?_)
        · show mf_up st s (4 + rq_n (mr_b0 g s)) t = mf_up (rq_S (mr_b0 g s)) s (4 + rq_n (mr_b0 g s)) t ∧ (mf_up (rq_S (mr_b0 g s)) s (4 + rq_n (mr_b0 g s)) t = 1 ∨ mf_up (rq_S (mr_b0 g s)) s (4 + rq_n (mr_b0 g s)) t = 3 → upd it s 0 t = upd (rq_I (mr_b0 g s)) s 0 t)
          by_cases w : t = s
          · subst w; rw [up_s, up_s, pk_us, pk_us]; exact ⟨rfl, fun _ => rfl⟩
          · rw [up_n w, up_n w, pk_un w, pk_un w]; exact h1 t (by omega)
        · have hj' : j < rq_n (mr_b0 g s) + 1 := hj
          show mf_up cl (rq_n (mr_b0 g s)) (mc_e g s - 3) j = mf_up (rq_C (mr_b0 g s)) (rq_n (mr_b0 g s)) (mc_e g s - 3) j ∧ mf_up rd (rq_n (mr_b0 g s)) 1 j = (mr_uB (rq_R (mr_b0 g s)) (rq_n (mr_b0 g s)) true j).toNat
          unfold mr_uB
          by_cases w : j = rq_n (mr_b0 g s)
          · subst w; rw [up_s, up_s, up_s, if_pos rfl]; exact ⟨rfl, rfl⟩
          · rw [up_n w, up_n w, up_n w, if_neg w]; exact h2 j (by omega)
      · have := ih (s + 1) (by omega) (mf_up st s (mc_e g s)) cl rd (upd it s 0)
        rw [mr_b0n (by omega)] at this
        refine this (fun t ht => ?_) h2
        show mf_up st s (mc_e g s) t = mf_up (rq_S (mr_b0 g s)) s (mc_e g s) t ∧ (mf_up (rq_S (mr_b0 g s)) s (mc_e g s) t = 1 ∨ mf_up (rq_S (mr_b0 g s)) s (mc_e g s) t = 3 → upd it s 0 t = upd (rq_I (mr_b0 g s)) s 0 t)
        by_cases w : t = s
        · subst w; rw [up_s, up_s, pk_us, pk_us]; exact ⟨rfl, fun _ => rfl⟩
        · rw [up_n w, up_n w, pk_un w, pk_un w]; exact h1 t (by omega)
  exact ⟨5, L 4 0 rfl st cl rd it (fun t ht => by omega) (fun j hj => by have : j < 0 := hj; omega)⟩
/-- a run ends -/
theorem mr_run_end {most : Nat} : ∀ r b (q : mr_Q), b + r = most → ∃ w, (mr_run g most (r + 1) b q).2.1 = w + 1 ∧ w ≤ 4 := by
  have w5 : ∀ q, (mr_st g q).2.1 ≤ 5 := by
    intro q
    unfold mr_st mr_rz
    repeat' split
    all_goals (first | omega | (dsimp only; omega))
  intro r
  induction r with
  | zero =>
    intro b q hb
    simp only [mr_run]
    split
    · exact ⟨4, rfl, by omega⟩
    · split
      · exact ⟨3, rfl, by omega⟩
      · omega
  | succ r ih =>
    intro b q hb
    rw [mr_run]
    split
    · exact ⟨4, rfl, by omega⟩
    · split
      · exact ⟨3, rfl, by omega⟩
      · split
        · exact ih (b + 1) _ (by omega)
        · have := w5 q
          exact ⟨(mr_st g q).2.1 - 1, by dsimp only; omega, by omega⟩
end
end
section
/-! ===== the relation ===== -/
section
def ir_W (la wk wy yn yp : Int32) : Prop := (¬ la = 1 ∧ yn = -1) ∨ (la = 1 ∧ ((wk = 7 ∧ wy = -1 ∧ yn = 7) ∨ ∃ p n : Nat, 0 < n ∧ n ≤ 6 ∧ p < 1327104 ∧ wk = nI n ∧ wy = nI (md_kx p) ∧ yn = nI n ∧ yp = nI p))
def ir_L (g : md_C) (pc la : Int32) (pk pd fo kp hm : Nat → Int32) (th ty mn : Int32) (pl fr mp hi md : Nat → Int32) : Prop := (pc = 0 ∧ th = 0) ∨ (th = 1 ∧ md_M g ∧ ∃ (m : Nat) (P D kr ql qh qm qd qk qp : Nat → Nat) (M : Nat → Bool) (K : Nat → Nat → Nat), ml_Y g m P D ∧ pc = nI m ∧ mn = nI m ∧ pk = ar kr ∧ pd = ar D ∧ pl = ar ql ∧ hi = ar qh ∧ hm = ar qm ∧ md = ar qd ∧ kp = ar qk ∧ mp = ar qp ∧ (∀ k, k < m → kr k = md_kx (P k)) ∧ (∀ k, k < m → ql k = P k) ∧ (∀ k, k < m → qh k = D k) ∧ (∀ k, k < m → qm k = (M k).toNat) ∧ (∀ k, k < m → qd k = (M k).toNat) ∧ (∀ k, k < m → (M k = true ↔ ∃ j, j < m ∧ mg_hit g P j k)) ∧ mk_A m D K qk ∧ mk_A m D K qp ∧ (∀ q s, K q s ≤ 90) ∧ ((la = 0 ∧ ty = 1 ∧ ∃ (qf qe : Nat → Nat) (T : Nat → Nat → Nat), fo = ar qf ∧ fr = ar qe ∧ mk_A m D T qf ∧ mk_A m D T qe) ∨ (¬ la = 0 ∧ ty = 0)))
def ir_R (hr bg na ec : Int32) (kd vl oc od : Nat → Int32) (yb yl ya ye : Int32) (st it cl rd : Nat → Int32) : Prop := (hr = 0 ∧ ye = -1 ∧ yb = 0) ∨ (hr = 1 ∧ ∃ (q : mr_Q) (w : Nat) (qk qo qd qs qc qr : Nat → Nat), w ≤ 4 ∧ ye = nI w ∧ bg = yb ∧ na = yl ∧ ec = ya ∧ kd = ar qk ∧ oc = ar qo ∧ od = ar qd ∧ st = ar qs ∧ cl = ar qc ∧ rd = ar qr ∧ mr_X q qk vl qo qd ∧ mr_Yn 4 q qs it qc qr ∧ (∀ s, s < 4 → 4 ≤ rq_S q s → rq_S q s - 4 < rq_n q) ∧ rq_n q ≤ 204)
def i_Rel (_ : Nat) (u : SX) (v : SY) : Prop := match u, v with
  | (f_codeCount, f_coverCount, f_placeCount, f_tooMany, f_layAnswer, f_wrongKind, f_wrongKey, f_grown, f_frameDepth, f_frameThere, f_lastReason, f_valueDepth, f_objectCount, f_hasRun, f_begun, f_nowAt, f_endClass, a_parent, a_entry, a_code, a_operand, a_coverFrom, a_coverTo, a_coverTarget, a_coverClass, a_placeKey, a_placeDepth, a_cameWith, a_ledWith, a_faults, a_found, a_hasFound, a_kept, a_hasMap, a_frame, a_kind, a_value, a_objectClass, a_objectReady), (yf_length, yf_handlers, yf_many, yf_there, yf_typed, yf_wrongNumber, yf_wrongPlace, yf_size, yf_why, yf_height, yf_objects, yf_line, yf_begun, yf_last, yf_end, ya_parent, ya_begin, ya_op, ya_arg, ya_from, ya_to, ya_target, ya_caught, ya_places, ya_heights, ya_gone, ya_worst, ya_frames, ya_maps, ya_high, ya_known, ya_mapped, ya_now, ya_sorts, ya_ints, ya_classes, ya_ready) => ∃ g : md_C, md_G g ∧ (f_codeCount = nI (mc_cc g) ∧ f_coverCount = nI (mc_hc g) ∧ a_parent = ar (mc_p g) ∧ a_entry = ar (mc_e g) ∧ a_code = ar (mc_o g) ∧ a_operand = mc_r g ∧ a_coverFrom = ar (mc_f g) ∧ a_coverTo = ar (mc_t g) ∧ a_coverTarget = ar (mc_g g) ∧ a_coverClass = ar (mc_k g)) ∧ (yf_length = nI (mc_cc g) ∧ yf_handlers = nI (mc_hc g) ∧ ya_parent = ar (mc_p g) ∧ ya_begin = ar (mc_e g) ∧ ya_op = ar (mc_o g) ∧ ya_arg = mc_r g ∧ ya_from = ar (mc_f g) ∧ ya_to = ar (mc_t g) ∧ ya_target = ar (mc_g g) ∧ ya_caught = ar (mc_k g)) ∧ (∃ b, f_grown = mf_b b) ∧ ir_W f_layAnswer f_wrongKind f_wrongKey yf_wrongNumber yf_wrongPlace ∧ f_lastReason = yf_why ∧ ir_L g f_placeCount f_layAnswer a_placeKey a_placeDepth a_found a_kept a_hasMap yf_there yf_typed yf_many ya_places ya_frames ya_maps ya_high ya_mapped ∧ ir_R f_hasRun f_begun f_nowAt f_endClass a_kind a_value a_objectClass a_objectReady yf_begun yf_line yf_last yf_end ya_sorts ya_ints ya_classes ya_ready
theorem i_up {k : Nat} {u : SX} {v : SY} (h : i_Rel k u v) : i_Rel (k + 5) u v := h
theorem i_vc0 : wpX_init (fun u => wpY_init (fun v => i_Rel 0 u v)) := by
  refine ⟨(0, 0, fun _ => 0, fun _ => 0, fun _ => 0, fun _ => 0, fun _ => 0, fun _ => 0, fun _ => 0, fun _ => 0), ?_, ⟨rfl, rfl, rfl, rfl, rfl, rfl, rfl, rfl, rfl, rfl⟩, ⟨rfl, rfl, rfl, rfl, rfl, rfl, rfl, rfl, rfl, rfl⟩, ⟨false, rfl⟩, Or.inl ⟨by decide, rfl⟩, rfl, Or.inl ⟨rfl, rfl⟩, Or.inl ⟨rfl, rfl, rfl⟩⟩
  refine ⟨by show 0 ≤ 24; omega, by show 0 ≤ 4; omega, fun i => by show 0 < 20; omega, fun i h => ?_, fun x => ⟨by show 0 < 24; omega, by show 0 ≤ 24; omega, by show 0 < 24; omega, by show 0 < 8; omega⟩, fun c => by show 0 ≤ c - 1; omega, fun s => by show 0 ≤ 10; omega⟩
  have h' : 0 < md_lim 0 := h
  exact absurd h' (by decide)
theorem zr_rng {x : Int32} {lo hi : Nat} (h1 : ¬ x < nI lo) (h2 : x < nI hi) (hl : lo < 2 ^ 31) (hh : hi < 2 ^ 31) : ∃ j, lo ≤ j ∧ j < hi ∧ x = nI j := by
  have n0 : ¬ x < 0 := fun z => h1 (Int32.lt_of_lt_of_le z (nI_pos' hl))
  obtain ⟨j, hj, rfl⟩ := nI_of n0
  rw [nI_ltI hj hl] at h1
  rw [nI_ltI hj hh] at h2
  exact ⟨j, by omega, h2, rfl⟩
theorem zr_rng0 {x : Int32} {hi : Nat} (h1 : ¬ x < 0) (h2 : x < nI hi) (hh : hi < 2 ^ 31) : ∃ j, j < hi ∧ x = nI j := by
  obtain ⟨j, _, h, e⟩ := zr_rng (lo := 0) h1 h2 (by omega) hh
  exact ⟨j, h, e⟩
theorem zr_le {x : Int32} {n : Nat} (h : x ≤ nI n) (hn : n < 2 ^ 30) : x < nI (n + 1) := by
  refine Int32.lt_of_le_of_lt h ?_
  exact nI_lt (by omega) (by omega)
theorem ya_in {post : Int32 → Prop} {x : Int32} {n : Nat} (hn : n < 2 ^ 31) (h1 : ∀ j, j < n → x = nI j → post 1) (h0 : (¬ ∃ j, j < n ∧ x = nI j) → post 0) : wpY_in post x (nI n) := by
  unfold wpY_in
  refine br_c (fun a => h0 ?_) (fun a => br_c (fun b => h0 ?_) (fun b => ?_))
  · rintro ⟨j, hj, rfl⟩; exact nI_pos (by omega) a
  · rintro ⟨j, hj, rfl⟩
    rw [nI_leI hn (by omega)] at b; omega
  · obtain ⟨j, hj, e⟩ := zr_rng0 a (Int32.not_le.mp b) hn
    exact h1 j hj e
end
end
section
/-! ===== kin, enter, add, handler, clear ===== -/
section
theorem i_vc_kin {k : Nat} {u : SX} {v : SY} (I : i_Rel k u v) (hk : k + 5 ≤ 2560) (v1 : Int32) (v2 : Int32) : wpX_kin (fun r u' => wpY_kin (fun r' v' => r' = r ∧ i_Rel (k + 5) u' v') v v1 v2) u v1 v2 := by
  obtain ⟨f_codeCount, f_coverCount, f_placeCount, f_tooMany, f_layAnswer, f_wrongKind, f_wrongKey, f_grown, f_frameDepth, f_frameThere, f_lastReason, f_valueDepth, f_objectCount, f_hasRun, f_begun, f_nowAt, f_endClass, a_parent, a_entry, a_code, a_operand, a_coverFrom, a_coverTo, a_coverTarget, a_coverClass, a_placeKey, a_placeDepth, a_cameWith, a_ledWith, a_faults, a_found, a_hasFound, a_kept, a_hasMap, a_frame, a_kind, a_value, a_objectClass, a_objectReady⟩ := u
  obtain ⟨yf_length, yf_handlers, yf_many, yf_there, yf_typed, yf_wrongNumber, yf_wrongPlace, yf_size, yf_why, yf_height, yf_objects, yf_line, yf_begun, yf_last, yf_end, ya_parent, ya_begin, ya_op, ya_arg, ya_from, ya_to, ya_target, ya_caught, ya_places, ya_heights, ya_gone, ya_worst, ya_frames, ya_maps, ya_high, ya_known, ya_mapped, ya_now, ya_sorts, ya_ints, ya_classes, ya_ready⟩ := v
  obtain ⟨g, hG, ⟨rfl, rfl, rfl, rfl, rfl, rfl, rfl, rfl, rfl, rfl⟩, ⟨rfl, rfl, rfl, rfl, rfl, rfl, rfl, rfl, rfl, rfl⟩, hgr, hW, hwhy, hL, hR⟩ := I
  unfold wpX_kin wpX_endLayout
  dsimp only
  by_cases E : ∃ c p, 1 ≤ c ∧ c < 8 ∧ p < c ∧ v1 = nI c ∧ v2 = nI p
  · obtain ⟨c, p, h1, h8, hp, rfl, rfl⟩ := E
    refine pk_lt c 1 (fun z => by omega) (fun _ => pk_le 8 c (fun z => by omega) (fun _ => xb_n (by omega) (pk_lt p c (fun _ => ⟨vp_in_nI (by omega) (by omega), nm_r (ar_ui _ _ (by omega)) ?_⟩) (fun z => by omega))))
    unfold wpY_kin
    dsimp only
    refine pk_lt c 1 (fun z => by omega) (fun _ => pk_lt 7 c (fun z => by omega) (fun _ => ya_in (by omega) (fun _ _ _ => xb_1 ⟨vp_in_nI (by omega) (by omega), nm_r (ar_ui _ _ (by omega)) ?_⟩) (fun z => absurd ⟨p, hp, rfl⟩ z)))
    refine ⟨rfl, (mc_cc g, mc_hc g, mc_o g, mc_r g, mc_f g, mc_t g, mc_g g, mc_k g, mf_up (mc_p g) c p, mc_e g), ⟨hG.1, hG.2.1, hG.2.2.1, hG.2.2.2.1, hG.2.2.2.2.1, fun x => ?_, hG.2.2.2.2.2.2⟩, ⟨rfl, rfl, rfl, rfl, rfl, rfl, rfl, rfl, rfl, rfl⟩, ⟨rfl, rfl, rfl, rfl, rfl, rfl, rfl, rfl, rfl, rfl⟩, hgr, hW, hwhy, Or.inl ⟨rfl, rfl⟩, hR⟩
    show mf_up (mc_p g) c p x ≤ x - 1
    by_cases e : x = c
    · subst e; rw [up_s]; omega
    · rw [up_n e]; exact hG.2.2.2.2.2.1 x
  · have same : ∀ r : Int32, r = 0 → wpY_kin (fun r' v' => r' = r ∧ i_Rel (k + 5) ((nI (mc_cc g)), (nI (mc_hc g)), f_placeCount, f_tooMany, f_layAnswer, f_wrongKind, f_wrongKey, f_grown, f_frameDepth, f_frameThere, f_lastReason, f_valueDepth, f_objectCount, f_hasRun, f_begun, f_nowAt, f_endClass, (ar (mc_p g)), (ar (mc_e g)), (ar (mc_o g)), (mc_r g), (ar (mc_f g)), (ar (mc_t g)), (ar (mc_g g)), (ar (mc_k g)), a_placeKey, a_placeDepth, a_cameWith, a_ledWith, a_faults, a_found, a_hasFound, a_kept, a_hasMap, a_frame, a_kind, a_value, a_objectClass, a_objectReady) v') (nI (mc_cc g), nI (mc_hc g), yf_many, yf_there, yf_typed, yf_wrongNumber, yf_wrongPlace, yf_size, yf_why, yf_height, yf_objects, yf_line, yf_begun, yf_last, yf_end, ar (mc_p g), ar (mc_e g), ar (mc_o g), mc_r g, ar (mc_f g), ar (mc_t g), ar (mc_g g), ar (mc_k g), ya_places, ya_heights, ya_gone, ya_worst, ya_frames, ya_maps, ya_high, ya_known, ya_mapped, ya_now, ya_sorts, ya_ints, ya_classes, ya_ready) v1 v2 := by
      intro r er
      subst er
      have done : (0 : Int32) = 0 ∧ i_Rel (k + 5) ((nI (mc_cc g)), (nI (mc_hc g)), f_placeCount, f_tooMany, f_layAnswer, f_wrongKind, f_wrongKey, f_grown, f_frameDepth, f_frameThere, f_lastReason, f_valueDepth, f_objectCount, f_hasRun, f_begun, f_nowAt, f_endClass, (ar (mc_p g)), (ar (mc_e g)), (ar (mc_o g)), (mc_r g), (ar (mc_f g)), (ar (mc_t g)), (ar (mc_g g)), (ar (mc_k g)), a_placeKey, a_placeDepth, a_cameWith, a_ledWith, a_faults, a_found, a_hasFound, a_kept, a_hasMap, a_frame, a_kind, a_value, a_objectClass, a_objectReady) (nI (mc_cc g), nI (mc_hc g), yf_many, yf_there, yf_typed, yf_wrongNumber, yf_wrongPlace, yf_size, yf_why, yf_height, yf_objects, yf_line, yf_begun, yf_last, yf_end, ar (mc_p g), ar (mc_e g), ar (mc_o g), mc_r g, ar (mc_f g), ar (mc_t g), ar (mc_g g), ar (mc_k g), ya_places, ya_heights, ya_gone, ya_worst, ya_frames, ya_maps, ya_high, ya_known, ya_mapped, ya_now, ya_sorts, ya_ints, ya_classes, ya_ready) := ⟨rfl, g, hG, ⟨rfl, rfl, rfl, rfl, rfl, rfl, rfl, rfl, rfl, rfl⟩, ⟨rfl, rfl, rfl, rfl, rfl, rfl, rfl, rfl, rfl, rfl⟩, hgr, hW, hwhy, hL, hR⟩
      unfold wpY_kin
      dsimp only
      refine br_c (fun _ => done) (fun a => br_c (fun _ => done) (fun b => ?_))
      obtain ⟨c, c1, c8, rfl⟩ := zr_rng (lo := 1) (hi := 8) a (zr_le (n := 7) (Int32.not_lt.mp b) (by omega)) (by omega) (by omega)
      refine ya_in (by omega) (fun p hp e => absurd ⟨c, p, c1, c8, hp, rfl, e⟩ E) (fun _ => xb_0 done)
    refine br_c (fun _ => same 0 rfl) (fun a => br_c (fun _ => same 0 rfl) (fun b => br_c (fun _ => same 0 rfl) (fun c => br_c (fun d => ?_) (fun _ => same 0 rfl))))
    obtain ⟨j, j1, j8, rfl⟩ := zr_rng (lo := 1) (hi := 8) a (Int32.not_le.mp b) (by omega) (by omega)
    obtain ⟨p, hp, rfl⟩ := zr_rng0 c d (by omega)
    exact absurd ⟨j, p, j1, j8, hp, rfl, rfl⟩ E
end
end
section
/-! ===== enter, add, handler, clear ===== -/
section
theorem i_vc_enter {k : Nat} {u : SX} {v : SY} (I : i_Rel k u v) (hk : k + 5 ≤ 2560) (v1 : Int32) (v2 : Int32) : wpX_enter (fun r u' => wpY_enter (fun r' v' => r' = r ∧ i_Rel (k + 5) u' v') v v1 v2) u v1 v2 := by
  obtain ⟨f_codeCount, f_coverCount, f_placeCount, f_tooMany, f_layAnswer, f_wrongKind, f_wrongKey, f_grown, f_frameDepth, f_frameThere, f_lastReason, f_valueDepth, f_objectCount, f_hasRun, f_begun, f_nowAt, f_endClass, a_parent, a_entry, a_code, a_operand, a_coverFrom, a_coverTo, a_coverTarget, a_coverClass, a_placeKey, a_placeDepth, a_cameWith, a_ledWith, a_faults, a_found, a_hasFound, a_kept, a_hasMap, a_frame, a_kind, a_value, a_objectClass, a_objectReady⟩ := u
  obtain ⟨yf_length, yf_handlers, yf_many, yf_there, yf_typed, yf_wrongNumber, yf_wrongPlace, yf_size, yf_why, yf_height, yf_objects, yf_line, yf_begun, yf_last, yf_end, ya_parent, ya_begin, ya_op, ya_arg, ya_from, ya_to, ya_target, ya_caught, ya_places, ya_heights, ya_gone, ya_worst, ya_frames, ya_maps, ya_high, ya_known, ya_mapped, ya_now, ya_sorts, ya_ints, ya_classes, ya_ready⟩ := v
  obtain ⟨g, hG, ⟨rfl, rfl, rfl, rfl, rfl, rfl, rfl, rfl, rfl, rfl⟩, ⟨rfl, rfl, rfl, rfl, rfl, rfl, rfl, rfl, rfl, rfl⟩, hgr, hW, hwhy, hL, hR⟩ := I
  unfold wpX_enter wpX_endLayout
  dsimp only
  by_cases E : ∃ c p, c < 4 ∧ p < 11 ∧ v1 = nI c ∧ v2 = nI p
  · obtain ⟨c, p, h4, hp, rfl, rfl⟩ := E
    refine xb_n (by omega) (pk_le 4 c (fun z => by omega) (fun _ => xb_n (by omega) (pk_le p 10 (fun _ => ⟨vp_in_nI (by omega) (by omega), nm_r (ar_ui _ _ (by omega)) ?_⟩) (fun z => by omega))))
    unfold wpY_enter
    dsimp only
    refine ya_in (n := 4) (by omega) (fun _ _ _ => xb_1 (ya_in (n := 11) (by omega) (fun _ _ _ => xb_1 ⟨vp_in_nI (by omega) (by omega), nm_r (ar_ui _ _ (by omega)) ?_⟩) (fun z => absurd ⟨p, hp, rfl⟩ z))) (fun z => absurd ⟨c, h4, rfl⟩ z)
    refine ⟨rfl, (mc_cc g, mc_hc g, mc_o g, mc_r g, mc_f g, mc_t g, mc_g g, mc_k g, mc_p g, mf_up (mc_e g) c p), ⟨hG.1, hG.2.1, hG.2.2.1, hG.2.2.2.1, hG.2.2.2.2.1, hG.2.2.2.2.2.1, fun x => ?_⟩, ⟨rfl, rfl, rfl, rfl, rfl, rfl, rfl, rfl, rfl, rfl⟩, ⟨rfl, rfl, rfl, rfl, rfl, rfl, rfl, rfl, rfl, rfl⟩, hgr, hW, hwhy, Or.inl ⟨rfl, rfl⟩, hR⟩
    show mf_up (mc_e g) c p x ≤ 10
    by_cases e : x = c
    · subst e; rw [up_s]; omega
    · rw [up_n e]; exact hG.2.2.2.2.2.2 x
  · have same : wpY_enter (fun r' v' => r' = 0 ∧ i_Rel (k + 5) ((nI (mc_cc g)), (nI (mc_hc g)), f_placeCount, f_tooMany, f_layAnswer, f_wrongKind, f_wrongKey, f_grown, f_frameDepth, f_frameThere, f_lastReason, f_valueDepth, f_objectCount, f_hasRun, f_begun, f_nowAt, f_endClass, (ar (mc_p g)), (ar (mc_e g)), (ar (mc_o g)), (mc_r g), (ar (mc_f g)), (ar (mc_t g)), (ar (mc_g g)), (ar (mc_k g)), a_placeKey, a_placeDepth, a_cameWith, a_ledWith, a_faults, a_found, a_hasFound, a_kept, a_hasMap, a_frame, a_kind, a_value, a_objectClass, a_objectReady) v') ((nI (mc_cc g)), (nI (mc_hc g)), yf_many, yf_there, yf_typed, yf_wrongNumber, yf_wrongPlace, yf_size, yf_why, yf_height, yf_objects, yf_line, yf_begun, yf_last, yf_end, (ar (mc_p g)), (ar (mc_e g)), (ar (mc_o g)), (mc_r g), (ar (mc_f g)), (ar (mc_t g)), (ar (mc_g g)), (ar (mc_k g)), ya_places, ya_heights, ya_gone, ya_worst, ya_frames, ya_maps, ya_high, ya_known, ya_mapped, ya_now, ya_sorts, ya_ints, ya_classes, ya_ready) v1 v2 := by
      have done : (0 : Int32) = 0 ∧ i_Rel (k + 5) ((nI (mc_cc g)), (nI (mc_hc g)), f_placeCount, f_tooMany, f_layAnswer, f_wrongKind, f_wrongKey, f_grown, f_frameDepth, f_frameThere, f_lastReason, f_valueDepth, f_objectCount, f_hasRun, f_begun, f_nowAt, f_endClass, (ar (mc_p g)), (ar (mc_e g)), (ar (mc_o g)), (mc_r g), (ar (mc_f g)), (ar (mc_t g)), (ar (mc_g g)), (ar (mc_k g)), a_placeKey, a_placeDepth, a_cameWith, a_ledWith, a_faults, a_found, a_hasFound, a_kept, a_hasMap, a_frame, a_kind, a_value, a_objectClass, a_objectReady) ((nI (mc_cc g)), (nI (mc_hc g)), yf_many, yf_there, yf_typed, yf_wrongNumber, yf_wrongPlace, yf_size, yf_why, yf_height, yf_objects, yf_line, yf_begun, yf_last, yf_end, (ar (mc_p g)), (ar (mc_e g)), (ar (mc_o g)), (mc_r g), (ar (mc_f g)), (ar (mc_t g)), (ar (mc_g g)), (ar (mc_k g)), ya_places, ya_heights, ya_gone, ya_worst, ya_frames, ya_maps, ya_high, ya_known, ya_mapped, ya_now, ya_sorts, ya_ints, ya_classes, ya_ready) := ⟨rfl, ⟨g, hG, ⟨rfl, rfl, rfl, rfl, rfl, rfl, rfl, rfl, rfl, rfl⟩, ⟨rfl, rfl, rfl, rfl, rfl, rfl, rfl, rfl, rfl, rfl⟩, hgr, hW, hwhy, hL, hR⟩⟩
      unfold wpY_enter
      dsimp only
      refine ya_in (n := 4) (by omega) (fun c hc e1 => xb_1 (ya_in (n := 11) (by omega) (fun p hp e => absurd ⟨c, p, hc, hp, e1, e⟩ E) (fun _ => xb_0 done))) (fun _ => xb_0 done)
    refine br_c (fun _ => same) (fun a => br_c (fun _ => same) (fun b => br_c (fun _ => same) (fun c => br_c (fun d => ?_) (fun _ => same))))
    obtain ⟨j, j4, rfl⟩ := zr_rng0 (hi := 4) a (Int32.not_le.mp b) (by omega)
    obtain ⟨p, hp, rfl⟩ := zr_rng0 (hi := 11) c (zr_le (n := 10) d (by omega)) (by omega)
    exact absurd ⟨j, p, j4, hp, rfl, rfl⟩ E
theorem i_vc_clear {k : Nat} {u : SX} {v : SY} (I : i_Rel k u v) (hk : k + 5 ≤ 2560) : wpX_clear (fun r u' => wpY_clear (fun r' v' => r' = r ∧ i_Rel (k + 5) u' v') v) u := by
  obtain ⟨f_codeCount, f_coverCount, f_placeCount, f_tooMany, f_layAnswer, f_wrongKind, f_wrongKey, f_grown, f_frameDepth, f_frameThere, f_lastReason, f_valueDepth, f_objectCount, f_hasRun, f_begun, f_nowAt, f_endClass, a_parent, a_entry, a_code, a_operand, a_coverFrom, a_coverTo, a_coverTarget, a_coverClass, a_placeKey, a_placeDepth, a_cameWith, a_ledWith, a_faults, a_found, a_hasFound, a_kept, a_hasMap, a_frame, a_kind, a_value, a_objectClass, a_objectReady⟩ := u
  obtain ⟨yf_length, yf_handlers, yf_many, yf_there, yf_typed, yf_wrongNumber, yf_wrongPlace, yf_size, yf_why, yf_height, yf_objects, yf_line, yf_begun, yf_last, yf_end, ya_parent, ya_begin, ya_op, ya_arg, ya_from, ya_to, ya_target, ya_caught, ya_places, ya_heights, ya_gone, ya_worst, ya_frames, ya_maps, ya_high, ya_known, ya_mapped, ya_now, ya_sorts, ya_ints, ya_classes, ya_ready⟩ := v
  obtain ⟨g, hG, ⟨rfl, rfl, rfl, rfl, rfl, rfl, rfl, rfl, rfl, rfl⟩, ⟨rfl, rfl, rfl, rfl, rfl, rfl, rfl, rfl, rfl, rfl⟩, hgr, hW, hwhy, hL, hR⟩ := I
  unfold wpX_clear wpX_endLayout wpY_clear
  dsimp only
  exact ⟨rfl, (0, 0, mc_o g, mc_r g, mc_f g, mc_t g, mc_g g, mc_k g, mc_p g, mc_e g), ⟨by show 0 ≤ 24; omega, by show 0 ≤ 4; omega, hG.2.2.1, hG.2.2.2.1, hG.2.2.2.2.1, hG.2.2.2.2.2.1, hG.2.2.2.2.2.2⟩, ⟨rfl, rfl, rfl, rfl, rfl, rfl, rfl, rfl, rfl, rfl⟩, ⟨rfl, rfl, rfl, rfl, rfl, rfl, rfl, rfl, rfl, rfl⟩, hgr, hW, hwhy, Or.inl ⟨rfl, rfl⟩, hR⟩
theorem zo_r {post : Int32 → Prop} {x : Int32} {n : Nat} (hn : n < 2 ^ 31) (h1 : (∃ a, a < n ∧ x = nI a) → post 1) (h0 : ¬ (∃ a, a < n ∧ x = nI a) → post 0) : ((x < 0 → post 0) ∧ (¬ x < 0 → ((nI n ≤ x → post 0) ∧ (¬ nI n ≤ x → post 1)))) := by
  refine br_c (fun a => h0 ?_) (fun a => br_c (fun b => h0 ?_) (fun b => ?_))
  · rintro ⟨j, hj, rfl⟩; exact nI_pos (by omega) a
  · rintro ⟨j, hj, rfl⟩
    rw [nI_leI hn (by omega)] at b; omega
  · obtain ⟨j, hj, e⟩ := zr_rng0 a (Int32.not_le.mp b) hn
    exact h1 ⟨j, hj, e⟩
/-- a good operand -/
def zo_ok (o : Nat) (x : Int32) : Prop := 0 < md_lim o → ∃ a, a < md_lim o ∧ x = nI a
theorem xa_isOp {post : Int32 → Prop} {o : Nat} {x : Int32} (ho : o < 20) (h1 : zo_ok o x → post 1) (h0 : ¬ zo_ok o x → post 0) : wpX_isOperand post (nI o) x := by
  have A : (o = 2 ∨ o = 3 ∨ o = 16) → wX_isOperand_84 post x := by
    intro e
    have l : md_lim o = 4 := by unfold md_lim; rw [if_pos e]
    exact zo_r (n := 4) (by omega) (fun z => h1 (fun _ => by rw [l]; exact z)) (fun z => h0 (fun y => z (by have := y (by omega); rw [l] at this; exact this)))
  have B : (o = 8 ∨ o = 10 ∨ o = 11 ∨ o = 18) → wX_isOperand_99 post x := by
    intro e
    have l : md_lim o = 8 := by unfold md_lim; rw [if_neg (by omega), if_pos e]
    exact zo_r (n := 8) (by omega) (fun z => h1 (fun _ => by rw [l]; exact z)) (fun z => h0 (fun y => z (by have := y (by omega); rw [l] at this; exact this)))
  have C : (12 ≤ o ∧ o ≤ 15) → wX_isOperand_115 post x := by
    intro e
    have l : md_lim o = 24 := by unfold md_lim; rw [if_neg (by omega), if_neg (by omega), if_pos e]
    exact zo_r (n := 24) (by omega) (fun z => h1 (fun _ => by rw [l]; exact z)) (fun z => h0 (fun y => z (by have := y (by omega); rw [l] at this; exact this)))
  have T : (o < 2 ∨ o = 4 ∨ o = 5 ∨ o = 6 ∨ o = 7 ∨ o = 9 ∨ o = 17 ∨ 18 < o) → post 1 := by
    intro e
    have l : md_lim o = 0 := by unfold md_lim; rw [if_neg (by omega), if_neg (by omega), if_neg (by omega)]
    exact h1 (fun z => by omega)
  unfold wpX_isOperand
  exact pk_lt o 2 (fun e => T (by omega)) (fun e1 => pk_lt 18 o (fun e => T (by omega)) (fun n1 => pk_eq o 2 (fun e => A (by omega)) (fun n2 => pk_eq o 3 (fun e => A (by omega)) (fun n3 => pk_eq o 4 (fun e => T (by omega)) (fun n4 => pk_eq o 5 (fun e => T (by omega)) (fun n5 => pk_eq o 6 (fun e => T (by omega)) (fun n6 => pk_eq o 7 (fun e => T (by omega)) (fun n7 => pk_eq o 8 (fun e => B (by omega)) (fun n8 => pk_eq o 9 (fun e => T (by omega)) (fun n9 => pk_eq o 10 (fun e => B (by omega)) (fun n10 => pk_eq o 11 (fun e => B (by omega)) (fun n11 => pk_eq o 12 (fun e => C (by omega)) (fun n12 => pk_eq o 13 (fun e => C (by omega)) (fun n13 => pk_eq o 14 (fun e => C (by omega)) (fun n14 => pk_eq o 15 (fun e => C (by omega)) (fun n15 => pk_eq o 16 (fun e => A (by omega)) (fun n16 => pk_eq o 17 (fun e => T (by omega)) (fun n17 => pk_eq o 18 (fun e => B (by omega)) (fun n18 => by omega)))))))))))))))))))
end
section
variable {f_length f_handlers f_many f_there f_typed f_wrongNumber f_wrongPlace f_size f_why f_height f_objects f_line f_begun f_last f_end : Int32} {a_parent a_begin a_op a_arg a_from a_to a_target a_caught a_places a_heights a_gone a_worst a_frames a_maps a_high a_known a_mapped a_now a_sorts a_ints a_classes a_ready : Nat → Int32}
theorem ya_add {post : Int32 → SY → Prop} {o : Nat} {x : Int32} (ho : o < 20) (h1 : zo_ok o x → wY_add_108 post (nI o) x f_length f_handlers f_many f_there f_typed f_wrongNumber f_wrongPlace f_size f_why f_height f_objects f_line f_begun f_last f_end a_parent a_begin a_op a_arg a_from a_to a_target a_caught a_places a_heights a_gone a_worst a_frames a_maps a_high a_known a_mapped a_now a_sorts a_ints a_classes a_ready) (h0 : ¬ zo_ok o x → post (-1) (f_length, f_handlers, f_many, f_there, f_typed, f_wrongNumber, f_wrongPlace, f_size, f_why, f_height, f_objects, f_line, f_begun, f_last, f_end, a_parent, a_begin, a_op, a_arg, a_from, a_to, a_target, a_caught, a_places, a_heights, a_gone, a_worst, a_frames, a_maps, a_high, a_known, a_mapped, a_now, a_sorts, a_ints, a_classes, a_ready)) : wpY_add post (f_length, f_handlers, f_many, f_there, f_typed, f_wrongNumber, f_wrongPlace, f_size, f_why, f_height, f_objects, f_line, f_begun, f_last, f_end, a_parent, a_begin, a_op, a_arg, a_from, a_to, a_target, a_caught, a_places, a_heights, a_gone, a_worst, a_frames, a_maps, a_high, a_known, a_mapped, a_now, a_sorts, a_ints, a_classes, a_ready) (nI o) x := by
  have S90 : (12 ≤ o ∧ o ≤ 15 ∨ zo_ok o x) → wY_add_90 post (nI o) x f_length f_handlers f_many f_there f_typed f_wrongNumber f_wrongPlace f_size f_why f_height f_objects f_line f_begun f_last f_end a_parent a_begin a_op a_arg a_from a_to a_target a_caught a_places a_heights a_gone a_worst a_frames a_maps a_high a_known a_mapped a_now a_sorts a_ints a_classes a_ready := by
    intro e
    unfold wY_add_90
    refine ya_jp ho (fun c => xb_1 ?_) (fun c => xb_0 (h1 (by rcases e with e | e; exact absurd e c; exact e)))
    have l : md_lim o = 24 := by unfold md_lim; rw [if_neg (by omega), if_neg (by omega), if_pos c]
    refine ya_in (n := 24) (by omega) (fun a ha ea => xb_1 (h1 (fun _ => ⟨a, by omega, ea⟩))) (fun z => xb_0 (h0 (fun y => z ?_)))
    have := y (by omega); rw [l] at this; exact this
  have S76 : ∀ b : Bool, (b = true ↔ (o = 8 ∨ o = 10 ∨ o = 11 ∨ o = 18)) → (8 ≤ o ∧ o ≤ 15 ∨ o = 18 ∨ zo_ok o x) → wY_add_76 post (nI o) x (mf_b b) f_length f_handlers f_many f_there f_typed f_wrongNumber f_wrongPlace f_size f_why f_height f_objects f_line f_begun f_last f_end a_parent a_begin a_op a_arg a_from a_to a_target a_caught a_places a_heights a_gone a_worst a_frames a_maps a_high a_known a_mapped a_now a_sorts a_ints a_classes a_ready := by
    intro b hb e
    unfold wY_add_76
    cases b with
    | false =>
      have nb : ¬ (o = 8 ∨ o = 10 ∨ o = 11 ∨ o = 18) := fun z => by have := hb.mpr z; cases this
      refine xb_0 (S90 ?_)
      by_cases j : 12 ≤ o ∧ o ≤ 15
      · exact Or.inl j
      · right
        rcases e with e | e | e
        · intro z
          have : md_lim o = 0 := by unfold md_lim; rw [if_neg (by omega), if_neg nb, if_neg j]
          omega
        · exact absurd (by omega) nb
        · exact e
    | true =>
      have yb := hb.mp rfl
      have l : md_lim o = 8 := by unfold md_lim; rw [if_neg (by omega), if_pos yb]
      refine xb_1 (ya_in (n := 8) (by omega) (fun a ha ea => xb_1 (S90 (Or.inr (fun _ => ⟨a, by omega, ea⟩)))) (fun z => xb_0 (h0 (fun y => z ?_))))
      have := y (by omega); rw [l] at this; exact this
  have S62 : ∀ b c : Bool, (b = true ↔ (o = 2 ∨ o = 3 ∨ o = 16)) → (c = true ↔ (o = 8 ∨ o = 10 ∨ o = 11 ∨ o = 18)) → wY_add_62 post (nI o) x (mf_b b) (mf_b c) f_length f_handlers f_many f_there f_typed f_wrongNumber f_wrongPlace f_size f_why f_height f_objects f_line f_begun f_last f_end a_parent a_begin a_op a_arg a_from a_to a_target a_caught a_places a_heights a_gone a_worst a_frames a_maps a_high a_known a_mapped a_now a_sorts a_ints a_classes a_ready := by
    intro b c hb hc
    unfold wY_add_62
    cases b with
    | false =>
      have nb : ¬ (o = 2 ∨ o = 3 ∨ o = 16) := fun z => by have := hb.mpr z; cases this
      refine xb_0 (S76 c hc ?_)
      by_cases j : (8 ≤ o ∧ o ≤ 15) ∨ o = 18
      · rcases j with j | j
        · exact Or.inl j
        · exact Or.inr (Or.inl j)
      · right; right
        intro z
        have : md_lim o = 0 := by unfold md_lim; rw [if_neg nb, if_neg (by omega), if_neg (by omega)]
        omega
    | true =>
      have yb := hb.mp rfl
      have l : md_lim o = 4 := by unfold md_lim; rw [if_pos yb]
      refine xb_1 (ya_in (n := 4) (by omega) (fun a ha ea => xb_1 (S76 c hc (Or.inr (Or.inr (fun _ => ⟨a, by omega, ea⟩))))) (fun z => xb_0 (h0 (fun y => z ?_))))
      have := y (by omega); rw [l] at this; exact this
  have S32 : ∀ b : Bool, (b = true ↔ (o = 2 ∨ o = 3 ∨ o = 16)) → wY_add_32 post (nI o) x (mf_b b) f_length f_handlers f_many f_there f_typed f_wrongNumber f_wrongPlace f_size f_why f_height f_objects f_line f_begun f_last f_end a_parent a_begin a_op a_arg a_from a_to a_target a_caught a_places a_heights a_gone a_worst a_frames a_maps a_high a_known a_mapped a_now a_sorts a_ints a_classes a_ready := by
    intro b hb
    unfold wY_add_32 wY_add_57
    refine pk_eq o 8 (fun c => S62 b true hb (by simp [c])) (fun c8 => pk_eq o 10 (fun c => S62 b true hb (by simp [c])) (fun c10 => pk_eq o 11 (fun c => S62 b true hb (by simp [c])) (fun c11 => pk_eq o 18 (fun c => S62 b true hb (by simp [c])) (fun c18 => S62 b false hb ?_))))
    exact ⟨fun z => (by cases z), fun z => by omega⟩
  unfold wpY_add wY_add_27
  dsimp only
  refine ya_in (n := 20) (by omega) (fun _ _ _ => xb_1 ?_) (fun z => absurd ⟨o, ho, rfl⟩ z)
  refine pk_eq o 2 (fun c => S32 true (by simp [c])) (fun c2 => pk_eq o 3 (fun c => S32 true (by simp [c])) (fun c3 => pk_eq o 16 (fun c => S32 true (by simp [c])) (fun c16 => S32 false ?_)))
  exact ⟨fun z => (by cases z), fun z => by omega⟩
end
section
theorem i_vc_add {k : Nat} {u : SX} {v : SY} (I : i_Rel k u v) (hk : k + 5 ≤ 2560) (v1 : Int32) (v2 : Int32) : wpX_add (fun r u' => wpY_add (fun r' v' => r' = r ∧ i_Rel (k + 5) u' v') v v1 v2) u v1 v2 := by
  obtain ⟨f_codeCount, f_coverCount, f_placeCount, f_tooMany, f_layAnswer, f_wrongKind, f_wrongKey, f_grown, f_frameDepth, f_frameThere, f_lastReason, f_valueDepth, f_objectCount, f_hasRun, f_begun, f_nowAt, f_endClass, a_parent, a_entry, a_code, a_operand, a_coverFrom, a_coverTo, a_coverTarget, a_coverClass, a_placeKey, a_placeDepth, a_cameWith, a_ledWith, a_faults, a_found, a_hasFound, a_kept, a_hasMap, a_frame, a_kind, a_value, a_objectClass, a_objectReady⟩ := u
  obtain ⟨yf_length, yf_handlers, yf_many, yf_there, yf_typed, yf_wrongNumber, yf_wrongPlace, yf_size, yf_why, yf_height, yf_objects, yf_line, yf_begun, yf_last, yf_end, ya_parent, ya_begin, ya_op, ya_arg, ya_from, ya_to, ya_target, ya_caught, ya_places, ya_heights, ya_gone, ya_worst, ya_frames, ya_maps, ya_high, ya_known, ya_mapped, ya_now, ya_sorts, ya_ints, ya_classes, ya_ready⟩ := v
  obtain ⟨g, hG, ⟨rfl, rfl, rfl, rfl, rfl, rfl, rfl, rfl, rfl, rfl⟩, ⟨rfl, rfl, rfl, rfl, rfl, rfl, rfl, rfl, rfl, rfl⟩, hgr, hW, hwhy, hL, hR⟩ := I
  have hcc := hG.1
  unfold wpX_add wpX_endLayout
  dsimp only
  have done : ∀ r : Int32, r = r ∧ i_Rel (k + 5) ((nI (mc_cc g)), (nI (mc_hc g)), f_placeCount, f_tooMany, f_layAnswer, f_wrongKind, f_wrongKey, f_grown, f_frameDepth, f_frameThere, f_lastReason, f_valueDepth, f_objectCount, f_hasRun, f_begun, f_nowAt, f_endClass, (ar (mc_p g)), (ar (mc_e g)), (ar (mc_o g)), (mc_r g), (ar (mc_f g)), (ar (mc_t g)), (ar (mc_g g)), (ar (mc_k g)), a_placeKey, a_placeDepth, a_cameWith, a_ledWith, a_faults, a_found, a_hasFound, a_kept, a_hasMap, a_frame, a_kind, a_value, a_objectClass, a_objectReady) ((nI (mc_cc g)), (nI (mc_hc g)), yf_many, yf_there, yf_typed, yf_wrongNumber, yf_wrongPlace, yf_size, yf_why, yf_height, yf_objects, yf_line, yf_begun, yf_last, yf_end, (ar (mc_p g)), (ar (mc_e g)), (ar (mc_o g)), (mc_r g), (ar (mc_f g)), (ar (mc_t g)), (ar (mc_g g)), (ar (mc_k g)), ya_places, ya_heights, ya_gone, ya_worst, ya_frames, ya_maps, ya_high, ya_known, ya_mapped, ya_now, ya_sorts, ya_ints, ya_classes, ya_ready) := fun r => ⟨rfl, ⟨g, hG, ⟨rfl, rfl, rfl, rfl, rfl, rfl, rfl, rfl, rfl, rfl⟩, ⟨rfl, rfl, rfl, rfl, rfl, rfl, rfl, rfl, rfl, rfl⟩, hgr, hW, hwhy, hL, hR⟩⟩
  by_cases E : ∃ o, o < 20 ∧ v1 = nI o
  · obtain ⟨o, ho, rfl⟩ := E
    refine xb_n (by omega) (pk_lt 19 o (fun z => by omega) (fun _ => xa_isOp ho (fun ok => xb_1 ?_) (fun nok => xb_0 (ya_add ho (fun z => absurd z nok) (fun _ => done (-1))))))
    refine pk_lt (mc_cc g) 24 (fun c => ⟨vp_in_nI (by omega) (by omega), nm_r (ar_ui _ _ (by omega)) ⟨vp_in_nI (by omega) (by omega), nm_r (e' := upd (mc_r g) (mc_cc g) v2) (by rw [nI_clamp (by omega)]) (nm_r (nI_1 _) ?_)⟩⟩) (fun c => ya_add ho (fun _ => ?_) (fun z => absurd ok z))
    · refine ya_add ho (fun _ => ?_) (fun z => absurd ok z)
      unfold wY_add_108
      refine pk_eq (mc_cc g) 24 (fun z => by omega) (fun _ => ⟨vp_in_nI (by omega) (by omega), nm_r (ar_ui _ _ (by omega)) ⟨vp_in_nI (by omega) (by omega), nm_r (e' := upd (mc_r g) (mc_cc g) v2) (by rw [nI_clamp (by omega)]) (nm_r (nI_1 _) ?_)⟩⟩)
      refine ⟨rfl, (mc_cc g + 1, mc_hc g, mf_up (mc_o g) (mc_cc g) o, upd (mc_r g) (mc_cc g) v2, mc_f g, mc_t g, mc_g g, mc_k g, mc_p g, mc_e g), ⟨by show mc_cc g + 1 ≤ 24; omega, hG.2.1, fun i => ?_, fun i hi => ?_, hG.2.2.2.2.1, hG.2.2.2.2.2.1, hG.2.2.2.2.2.2⟩, ⟨rfl, rfl, rfl, rfl, rfl, rfl, rfl, rfl, rfl, rfl⟩, ⟨rfl, rfl, rfl, rfl, rfl, rfl, rfl, rfl, rfl, rfl⟩, hgr, hW, hwhy, Or.inl ⟨rfl, rfl⟩, hR⟩
      · show mf_up (mc_o g) (mc_cc g) o i < 20
        by_cases e : i = mc_cc g
        · subst e; rw [up_s]; exact ho
        · rw [up_n e]; exact hG.2.2.1 i
      · have hi' : 0 < md_lim (mf_up (mc_o g) (mc_cc g) o i) := hi
        show (upd (mc_r g) (mc_cc g) v2 i).toNatClampNeg < md_lim (mf_up (mc_o g) (mc_cc g) o i) ∧ upd (mc_r g) (mc_cc g) v2 i = nI (upd (mc_r g) (mc_cc g) v2 i).toNatClampNeg
        by_cases e : i = mc_cc g
        · subst e
          rw [up_s] at hi' ⊢
          rw [pk_us]
          obtain ⟨a, ha, rfl⟩ := ok hi'
          have : md_lim o ≤ 24 := by
            unfold md_lim
            repeat' split
            all_goals omega
          rw [nI_clamp (by omega)]; exact ⟨ha, rfl⟩
        · rw [up_n e] at hi' ⊢
          rw [pk_un e]
          exact hG.2.2.2.1 i hi'
    · unfold wY_add_108
      exact pk_eq (mc_cc g) 24 (fun _ => done (-2)) (fun z => by omega)
  · have same : wpY_add (fun r' v' => r' = -1 ∧ i_Rel (k + 5) ((nI (mc_cc g)), (nI (mc_hc g)), f_placeCount, f_tooMany, f_layAnswer, f_wrongKind, f_wrongKey, f_grown, f_frameDepth, f_frameThere, f_lastReason, f_valueDepth, f_objectCount, f_hasRun, f_begun, f_nowAt, f_endClass, (ar (mc_p g)), (ar (mc_e g)), (ar (mc_o g)), (mc_r g), (ar (mc_f g)), (ar (mc_t g)), (ar (mc_g g)), (ar (mc_k g)), a_placeKey, a_placeDepth, a_cameWith, a_ledWith, a_faults, a_found, a_hasFound, a_kept, a_hasMap, a_frame, a_kind, a_value, a_objectClass, a_objectReady) v') ((nI (mc_cc g)), (nI (mc_hc g)), yf_many, yf_there, yf_typed, yf_wrongNumber, yf_wrongPlace, yf_size, yf_why, yf_height, yf_objects, yf_line, yf_begun, yf_last, yf_end, (ar (mc_p g)), (ar (mc_e g)), (ar (mc_o g)), (mc_r g), (ar (mc_f g)), (ar (mc_t g)), (ar (mc_g g)), (ar (mc_k g)), ya_places, ya_heights, ya_gone, ya_worst, ya_frames, ya_maps, ya_high, ya_known, ya_mapped, ya_now, ya_sorts, ya_ints, ya_classes, ya_ready) v1 v2 := by
      unfold wpY_add
      dsimp only
      exact ya_in (n := 20) (by omega) (fun j hj e => absurd ⟨j, hj, e⟩ E) (fun _ => xb_0 (done (-1)))
    refine br_c (fun _ => same) (fun a => br_c (fun _ => same) (fun b => ?_))
    obtain ⟨j, hj, rfl⟩ := zr_rng0 (hi := 20) a (zr_le (n := 19) (Int32.not_lt.mp b) (by omega)) (by omega)
    exact absurd ⟨j, hj, rfl⟩ E
theorem i_vc_handler {k : Nat} {u : SX} {v : SY} (I : i_Rel k u v) (hk : k + 5 ≤ 2560) (v1 : Int32) (v2 : Int32) (v3 : Int32) (v4 : Int32) : wpX_handler (fun r u' => wpY_handler (fun r' v' => r' = r ∧ i_Rel (k + 5) u' v') v v1 v2 v3 v4) u v1 v2 v3 v4 := by
  obtain ⟨f_codeCount, f_coverCount, f_placeCount, f_tooMany, f_layAnswer, f_wrongKind, f_wrongKey, f_grown, f_frameDepth, f_frameThere, f_lastReason, f_valueDepth, f_objectCount, f_hasRun, f_begun, f_nowAt, f_endClass, a_parent, a_entry, a_code, a_operand, a_coverFrom, a_coverTo, a_coverTarget, a_coverClass, a_placeKey, a_placeDepth, a_cameWith, a_ledWith, a_faults, a_found, a_hasFound, a_kept, a_hasMap, a_frame, a_kind, a_value, a_objectClass, a_objectReady⟩ := u
  obtain ⟨yf_length, yf_handlers, yf_many, yf_there, yf_typed, yf_wrongNumber, yf_wrongPlace, yf_size, yf_why, yf_height, yf_objects, yf_line, yf_begun, yf_last, yf_end, ya_parent, ya_begin, ya_op, ya_arg, ya_from, ya_to, ya_target, ya_caught, ya_places, ya_heights, ya_gone, ya_worst, ya_frames, ya_maps, ya_high, ya_known, ya_mapped, ya_now, ya_sorts, ya_ints, ya_classes, ya_ready⟩ := v
  obtain ⟨g, hG, ⟨rfl, rfl, rfl, rfl, rfl, rfl, rfl, rfl, rfl, rfl⟩, ⟨rfl, rfl, rfl, rfl, rfl, rfl, rfl, rfl, rfl, rfl⟩, hgr, hW, hwhy, hL, hR⟩ := I
  have hhc := hG.2.1
  have done : ∀ r : Int32, r = r ∧ i_Rel (k + 5) ((nI (mc_cc g)), (nI (mc_hc g)), f_placeCount, f_tooMany, f_layAnswer, f_wrongKind, f_wrongKey, f_grown, f_frameDepth, f_frameThere, f_lastReason, f_valueDepth, f_objectCount, f_hasRun, f_begun, f_nowAt, f_endClass, (ar (mc_p g)), (ar (mc_e g)), (ar (mc_o g)), (mc_r g), (ar (mc_f g)), (ar (mc_t g)), (ar (mc_g g)), (ar (mc_k g)), a_placeKey, a_placeDepth, a_cameWith, a_ledWith, a_faults, a_found, a_hasFound, a_kept, a_hasMap, a_frame, a_kind, a_value, a_objectClass, a_objectReady) ((nI (mc_cc g)), (nI (mc_hc g)), yf_many, yf_there, yf_typed, yf_wrongNumber, yf_wrongPlace, yf_size, yf_why, yf_height, yf_objects, yf_line, yf_begun, yf_last, yf_end, (ar (mc_p g)), (ar (mc_e g)), (ar (mc_o g)), (mc_r g), (ar (mc_f g)), (ar (mc_t g)), (ar (mc_g g)), (ar (mc_k g)), ya_places, ya_heights, ya_gone, ya_worst, ya_frames, ya_maps, ya_high, ya_known, ya_mapped, ya_now, ya_sorts, ya_ints, ya_classes, ya_ready) := fun r => ⟨rfl, ⟨g, hG, ⟨rfl, rfl, rfl, rfl, rfl, rfl, rfl, rfl, rfl, rfl⟩, ⟨rfl, rfl, rfl, rfl, rfl, rfl, rfl, rfl, rfl, rfl⟩, hgr, hW, hwhy, hL, hR⟩⟩
  unfold wpX_handler wpX_endLayout
  dsimp only
  by_cases E : ∃ a b c d, a < b ∧ b ≤ 24 ∧ c < 24 ∧ d < 8 ∧ v1 = nI a ∧ v2 = nI b ∧ v3 = nI c ∧ v4 = nI d
  · obtain ⟨a, b, c, d, hab, hb, hc, hd, rfl, rfl, rfl, rfl⟩ := E
    refine xb_n (by omega) (pk_le b a (fun z => by omega) (fun _ => pk_le b 24 (fun _ => xb_n (by omega) (pk_le 24 c (fun z => by omega) (fun _ => xb_n (by omega) (pk_lt d 8 (fun _ => ?_) (fun z => by omega))))) (fun z => by omega)))
    refine pk_lt (mc_hc g) 4 (fun h4 => ⟨vp_in_nI (by omega) (by omega), nm_r (ar_ui _ _ (by omega)) ⟨vp_in_nI (by omega) (by omega), nm_r (ar_ui _ _ (by omega)) ⟨vp_in_nI (by omega) (by omega), nm_r (ar_ui _ _ (by omega)) ⟨vp_in_nI (by omega) (by omega), nm_r (ar_ui _ _ (by omega)) (nm_r (nI_1 _) ?_)⟩⟩⟩⟩) (fun h4 => ?_)
    · unfold wpY_handler
      dsimp only
      refine xb_n (by omega) (pk_le b a (fun z => by omega) (fun _ => pk_lt 24 b (fun z => by omega) (fun _ => ya_in (n := 24) (by omega) (fun _ _ _ => xb_1 (ya_in (n := 8) (by omega) (fun _ _ _ => xb_1 ?_) (fun z => absurd ⟨d, hd, rfl⟩ z))) (fun z => absurd ⟨c, hc, rfl⟩ z))))
      refine pk_eq (mc_hc g) 4 (fun z => by omega) (fun _ => ⟨vp_in_nI (by omega) (by omega), nm_r (ar_ui _ _ (by omega)) ⟨vp_in_nI (by omega) (by omega), nm_r (ar_ui _ _ (by omega)) ⟨vp_in_nI (by omega) (by omega), nm_r (ar_ui _ _ (by omega)) ⟨vp_in_nI (by omega) (by omega), nm_r (ar_ui _ _ (by omega)) (nm_r (nI_1 _) ?_)⟩⟩⟩⟩)
      refine ⟨rfl, (mc_cc g, mc_hc g + 1, mc_o g, mc_r g, mf_up (mc_f g) (mc_hc g) a, mf_up (mc_t g) (mc_hc g) b, mf_up (mc_g g) (mc_hc g) c, mf_up (mc_k g) (mc_hc g) d, mc_p g, mc_e g), ⟨hG.1, by show mc_hc g + 1 ≤ 4; omega, hG.2.2.1, hG.2.2.2.1, fun x => ?_, hG.2.2.2.2.2.1, hG.2.2.2.2.2.2⟩, ⟨rfl, rfl, rfl, rfl, rfl, rfl, rfl, rfl, rfl, rfl⟩, ⟨rfl, rfl, rfl, rfl, rfl, rfl, rfl, rfl, rfl, rfl⟩, hgr, hW, hwhy, Or.inl ⟨rfl, rfl⟩, hR⟩
      show mf_up (mc_f g) (mc_hc g) a x < 24 ∧ mf_up (mc_t g) (mc_hc g) b x ≤ 24 ∧ mf_up (mc_g g) (mc_hc g) c x < 24 ∧ mf_up (mc_k g) (mc_hc g) d x < 8
      by_cases e : x = mc_hc g
      · subst e; rw [up_s, up_s, up_s, up_s]; omega
      · rw [up_n e, up_n e, up_n e, up_n e]; exact hG.2.2.2.2.1 x
    · unfold wpY_handler
      dsimp only
      refine xb_n (by omega) (pk_le b a (fun z => by omega) (fun _ => pk_lt 24 b (fun z => by omega) (fun _ => ya_in (n := 24) (by omega) (fun _ _ _ => xb_1 (ya_in (n := 8) (by omega) (fun _ _ _ => xb_1 ?_) (fun z => absurd ⟨d, hd, rfl⟩ z))) (fun z => absurd ⟨c, hc, rfl⟩ z))))
      exact pk_eq (mc_hc g) 4 (fun _ => done (-2)) (fun z => by omega)
  · have fromto : ¬ v1 < 0 → ¬ v2 ≤ v1 → v2 ≤ nI 24 → ∃ a b, a < b ∧ b ≤ 24 ∧ v1 = nI a ∧ v2 = nI b := by
      intro a b c
      have lt := Int32.not_le.mp b
      have n0 : ¬ v2 < 0 := fun z => a (Int32.lt_trans lt z)
      obtain ⟨j, hj, rfl⟩ := zr_rng0 (hi := 25) n0 (zr_le (n := 24) c (by omega)) (by omega)
      obtain ⟨i, hi, rfl⟩ := zr_rng0 (hi := j) a lt (by omega)
      exact ⟨i, j, hi, by omega, rfl, rfl⟩
    have same : wpY_handler (fun r' v' => r' = -1 ∧ i_Rel (k + 5) ((nI (mc_cc g)), (nI (mc_hc g)), f_placeCount, f_tooMany, f_layAnswer, f_wrongKind, f_wrongKey, f_grown, f_frameDepth, f_frameThere, f_lastReason, f_valueDepth, f_objectCount, f_hasRun, f_begun, f_nowAt, f_endClass, (ar (mc_p g)), (ar (mc_e g)), (ar (mc_o g)), (mc_r g), (ar (mc_f g)), (ar (mc_t g)), (ar (mc_g g)), (ar (mc_k g)), a_placeKey, a_placeDepth, a_cameWith, a_ledWith, a_faults, a_found, a_hasFound, a_kept, a_hasMap, a_frame, a_kind, a_value, a_objectClass, a_objectReady) v') ((nI (mc_cc g)), (nI (mc_hc g)), yf_many, yf_there, yf_typed, yf_wrongNumber, yf_wrongPlace, yf_size, yf_why, yf_height, yf_objects, yf_line, yf_begun, yf_last, yf_end, (ar (mc_p g)), (ar (mc_e g)), (ar (mc_o g)), (mc_r g), (ar (mc_f g)), (ar (mc_t g)), (ar (mc_g g)), (ar (mc_k g)), ya_places, ya_heights, ya_gone, ya_worst, ya_frames, ya_maps, ya_high, ya_known, ya_mapped, ya_now, ya_sorts, ya_ints, ya_classes, ya_ready) v1 v2 v3 v4 := by
      unfold wpY_handler
      dsimp only
      refine br_c (fun _ => done (-1)) (fun a => br_c (fun _ => done (-1)) (fun b => br_c (fun _ => done (-1)) (fun c => ?_)))
      obtain ⟨i, j, h1, h2, e1, e2⟩ := fromto a b (Int32.not_lt.mp c)
      refine ya_in (n := 24) (by omega) (fun x hx ex => xb_1 (ya_in (n := 8) (by omega) (fun y hy ey => absurd ⟨i, j, x, y, h1, h2, hx, hy, e1, e2, ex, ey⟩ E) (fun _ => xb_0 (done (-1))))) (fun _ => xb_0 (done (-1)))
    refine br_c (fun _ => same) (fun a => br_c (fun _ => same) (fun b => br_c (fun c => br_c (fun _ => same) (fun d => br_c (fun _ => same) (fun e => br_c (fun _ => same) (fun f => br_c (fun h => ?_) (fun _ => same))))) (fun _ => same)))
    obtain ⟨i, j, h1, h2, e1, e2⟩ := fromto a b c
    obtain ⟨x, hx, ex⟩ := zr_rng0 (hi := 24) d (Int32.not_le.mp e) (by omega)
    obtain ⟨y, hy, ey⟩ := zr_rng0 (hi := 8) f h (by omega)
    exact absurd ⟨i, j, x, y, h1, h2, hx, hy, e1, e2, ex, ey⟩ E
end
end
section
/-! ===== reading methods ===== -/
section
def zt_v (p i : Nat) : Int32 := if i = 1 then nI (p % 24) else if i = 2 then nI (md_n p) else if i - 3 < md_n p then nI (md_c p (i - 3)) else -1
theorem xt_co {post : Int32 → Prop} {p i : Nat} (hp : p < 1327104) (h2 : 2 ≤ i) (h5 : i ≤ 5) (h : post (zt_v p i)) : wpX_callOf post (nI (md_kx p)) (nI i - 2) := by
  have hn4 : md_n p < 4 := by unfold md_n; omega
  have e : nI i - 2 = nI (i - 2) := pk_sub (b := 2) h2
  rw [e]
  unfold zt_v at h
  rw [if_neg (by omega)] at h
  refine xa_co hp (fun z => ?_) (fun j hj z => ?_) (fun z0 z => ?_)
  · have z' := (nI_eq (a := i - 2) (b := 0) (by omega) (by omega)).mp z
    rw [if_pos (by omega)] at h; exact h
  · have z' := (nI_eq (by omega) (by omega)).mp z
    have : j = i - 3 := by omega
    subst this
    rw [if_neg (by omega), if_pos hj] at h; exact h
  · have i2 : ¬ i = 2 := by
      intro w; subst w; exact z0 rfl
    rw [if_neg i2, if_neg (fun w => z (i - 3) w (congrArg nI (by omega)))] at h; exact h
theorem xt_out {post : Int32 → Prop} {p : Nat} {x : Int32} (hp : p < 1327104) (hx : ¬ ∃ i, 2 ≤ i ∧ i ≤ 5 ∧ x = nI i) (h : post (-1)) : wpX_callOf post (nI (md_kx p)) (x - 2) := by
  have hn4 : md_n p < 4 := by unfold md_n; omega
  have back : x = (x - 2) + 2 := (Int32.sub_add_cancel x 2).symm
  refine xa_co hp (fun z => ?_) (fun j hj z => ?_) (fun _ _ => h)
  · exfalso
    rw [z] at back
    exact hx ⟨2, by omega, by omega, back⟩
  · exfalso
    rw [z] at back
    refine hx ⟨j + 3, by omega, by omega, back.trans ?_⟩
    show nI (j + 1) + nI 2 = _
    rw [nI_add]
theorem yt_told {post : Int32 → Prop} {p i : Nat} (hp : p < 1327104) (h1 : 1 ≤ i) (h5 : i ≤ 5) (h : post (zt_v p i)) : wpY_told post (nI p) (nI i) := by
  have hn4 : md_n p < 4 := by unfold md_n; omega
  unfold wpY_told
  unfold zt_v at h
  refine ya_calls (by omega) (pk_eq i 1 (fun c => ya_ins (by omega) ?_) (fun c1 => pk_eq i 2 (fun c => ?_) (fun c2 => ?_)))
  · rw [if_pos c] at h; exact h
  · rw [if_neg c1, if_pos c] at h; exact h
  · rw [if_neg c1, if_neg c2] at h
    have e : nI i - 3 = nI (i - 3) := pk_sub (b := 3) (by omega)
    rw [e]
    refine pk_le (md_n p) (i - 3) (fun c => ?_) (fun c => ya_callOf (by omega) (by omega) ?_)
    · rw [if_neg (by omega)] at h; exact h
    · rw [if_pos c] at h; exact h
theorem i_vc_wrong {k : Nat} {u : SX} {v : SY} (I : i_Rel k u v) (hk : k + 5 ≤ 2560) (v1 : Int32) : wpX_wrong (fun r => wpY_wrong (fun r' => r' = r ∧ i_Rel (k + 5) u v) v v1) u v1 := by
  obtain ⟨f_codeCount, f_coverCount, f_placeCount, f_tooMany, f_layAnswer, f_wrongKind, f_wrongKey, f_grown, f_frameDepth, f_frameThere, f_lastReason, f_valueDepth, f_objectCount, f_hasRun, f_begun, f_nowAt, f_endClass, a_parent, a_entry, a_code, a_operand, a_coverFrom, a_coverTo, a_coverTarget, a_coverClass, a_placeKey, a_placeDepth, a_cameWith, a_ledWith, a_faults, a_found, a_hasFound, a_kept, a_hasMap, a_frame, a_kind, a_value, a_objectClass, a_objectReady⟩ := u
  obtain ⟨yf_length, yf_handlers, yf_many, yf_there, yf_typed, yf_wrongNumber, yf_wrongPlace, yf_size, yf_why, yf_height, yf_objects, yf_line, yf_begun, yf_last, yf_end, ya_parent, ya_begin, ya_op, ya_arg, ya_from, ya_to, ya_target, ya_caught, ya_places, ya_heights, ya_gone, ya_worst, ya_frames, ya_maps, ya_high, ya_known, ya_mapped, ya_now, ya_sorts, ya_ints, ya_classes, ya_ready⟩ := v
  obtain ⟨g, hG, ⟨rfl, rfl, rfl, rfl, rfl, rfl, rfl, rfl, rfl, rfl⟩, ⟨rfl, rfl, rfl, rfl, rfl, rfl, rfl, rfl, rfl, rfl⟩, hgr, hW, hwhy, hL, hR⟩ := I
  have done : ∀ r : Int32, r = r ∧ i_Rel (k + 5) ((nI (mc_cc g)), (nI (mc_hc g)), f_placeCount, f_tooMany, f_layAnswer, f_wrongKind, f_wrongKey, f_grown, f_frameDepth, f_frameThere, f_lastReason, f_valueDepth, f_objectCount, f_hasRun, f_begun, f_nowAt, f_endClass, (ar (mc_p g)), (ar (mc_e g)), (ar (mc_o g)), (mc_r g), (ar (mc_f g)), (ar (mc_t g)), (ar (mc_g g)), (ar (mc_k g)), a_placeKey, a_placeDepth, a_cameWith, a_ledWith, a_faults, a_found, a_hasFound, a_kept, a_hasMap, a_frame, a_kind, a_value, a_objectClass, a_objectReady) ((nI (mc_cc g)), (nI (mc_hc g)), yf_many, yf_there, yf_typed, yf_wrongNumber, yf_wrongPlace, yf_size, yf_why, yf_height, yf_objects, yf_line, yf_begun, yf_last, yf_end, (ar (mc_p g)), (ar (mc_e g)), (ar (mc_o g)), (mc_r g), (ar (mc_f g)), (ar (mc_t g)), (ar (mc_g g)), (ar (mc_k g)), ya_places, ya_heights, ya_gone, ya_worst, ya_frames, ya_maps, ya_high, ya_known, ya_mapped, ya_now, ya_sorts, ya_ints, ya_classes, ya_ready) := fun r => ⟨rfl, ⟨g, hG, ⟨rfl, rfl, rfl, rfl, rfl, rfl, rfl, rfl, rfl, rfl⟩, ⟨rfl, rfl, rfl, rfl, rfl, rfl, rfl, rfl, rfl, rfl⟩, hgr, hW, hwhy, hL, hR⟩⟩
  unfold wpX_wrong wpY_wrong
  dsimp only
  rcases hW with ⟨na, rfl⟩ | ⟨rfl, ⟨rfl, rfl, rfl⟩ | ⟨p, n, n0, n6, hp, rfl, rfl, rfl, rfl⟩⟩
  · exact br_f na (xb_m (done _))
  · refine br_t rfl (br_c (fun z => ?_) (fun z => xb_m' ?_))
    · subst z
      exact br_f (by decide) (br_f (by decide) (br_t (by decide) (br_t rfl (done _))))
    · exact br_f (by decide) (br_c (fun _ => done _) (fun _ => br_c (fun _ => br_f z (br_t rfl (done _))) (fun _ => done _)))
  · have hkx := md_kxlt p hp
    refine br_t rfl (br_c (fun z => ?_) (fun z => xb_n' (by omega) ?_))
    · subst z
      exact xb_n (by omega) (br_f (by decide) (br_t (by decide) (br_t rfl (done _))))
    · by_cases E : ∃ i, 1 ≤ i ∧ i ≤ 5 ∧ v1 = nI i
      · obtain ⟨i, i1, i5, rfl⟩ := E
        have yy : ∀ r, r = zt_v p i → ((nI n < 0 → (-1 : Int32) = r ∧ i_Rel (k + 5) ((nI (mc_cc g)), (nI (mc_hc g)), f_placeCount, f_tooMany, 1, (nI n), (nI (md_kx p)), f_grown, f_frameDepth, f_frameThere, f_lastReason, f_valueDepth, f_objectCount, f_hasRun, f_begun, f_nowAt, f_endClass, (ar (mc_p g)), (ar (mc_e g)), (ar (mc_o g)), (mc_r g), (ar (mc_f g)), (ar (mc_t g)), (ar (mc_g g)), (ar (mc_k g)), a_placeKey, a_placeDepth, a_cameWith, a_ledWith, a_faults, a_found, a_hasFound, a_kept, a_hasMap, a_frame, a_kind, a_value, a_objectClass, a_objectReady) ((nI (mc_cc g)), (nI (mc_hc g)), yf_many, yf_there, yf_typed, (nI n), (nI p), yf_size, yf_why, yf_height, yf_objects, yf_line, yf_begun, yf_last, yf_end, (ar (mc_p g)), (ar (mc_e g)), (ar (mc_o g)), (mc_r g), (ar (mc_f g)), (ar (mc_t g)), (ar (mc_g g)), (ar (mc_k g)), ya_places, ya_heights, ya_gone, ya_worst, ya_frames, ya_maps, ya_high, ya_known, ya_mapped, ya_now, ya_sorts, ya_ints, ya_classes, ya_ready)) ∧ (¬ nI n < 0 → ((nI i < 0 → (-1 : Int32) = r ∧ i_Rel (k + 5) ((nI (mc_cc g)), (nI (mc_hc g)), f_placeCount, f_tooMany, 1, (nI n), (nI (md_kx p)), f_grown, f_frameDepth, f_frameThere, f_lastReason, f_valueDepth, f_objectCount, f_hasRun, f_begun, f_nowAt, f_endClass, (ar (mc_p g)), (ar (mc_e g)), (ar (mc_o g)), (mc_r g), (ar (mc_f g)), (ar (mc_t g)), (ar (mc_g g)), (ar (mc_k g)), a_placeKey, a_placeDepth, a_cameWith, a_ledWith, a_faults, a_found, a_hasFound, a_kept, a_hasMap, a_frame, a_kind, a_value, a_objectClass, a_objectReady) ((nI (mc_cc g)), (nI (mc_hc g)), yf_many, yf_there, yf_typed, (nI n), (nI p), yf_size, yf_why, yf_height, yf_objects, yf_line, yf_begun, yf_last, yf_end, (ar (mc_p g)), (ar (mc_e g)), (ar (mc_o g)), (mc_r g), (ar (mc_f g)), (ar (mc_t g)), (ar (mc_g g)), (ar (mc_k g)), ya_places, ya_heights, ya_gone, ya_worst, ya_frames, ya_maps, ya_high, ya_known, ya_mapped, ya_now, ya_sorts, ya_ints, ya_classes, ya_ready)) ∧ (¬ nI i < 0 → ((nI i ≤ 5 → ((nI i = 0 → nI n = r ∧ i_Rel (k + 5) ((nI (mc_cc g)), (nI (mc_hc g)), f_placeCount, f_tooMany, 1, (nI n), (nI (md_kx p)), f_grown, f_frameDepth, f_frameThere, f_lastReason, f_valueDepth, f_objectCount, f_hasRun, f_begun, f_nowAt, f_endClass, (ar (mc_p g)), (ar (mc_e g)), (ar (mc_o g)), (mc_r g), (ar (mc_f g)), (ar (mc_t g)), (ar (mc_g g)), (ar (mc_k g)), a_placeKey, a_placeDepth, a_cameWith, a_ledWith, a_faults, a_found, a_hasFound, a_kept, a_hasMap, a_frame, a_kind, a_value, a_objectClass, a_objectReady) ((nI (mc_cc g)), (nI (mc_hc g)), yf_many, yf_there, yf_typed, (nI n), (nI p), yf_size, yf_why, yf_height, yf_objects, yf_line, yf_begun, yf_last, yf_end, (ar (mc_p g)), (ar (mc_e g)), (ar (mc_o g)), (mc_r g), (ar (mc_f g)), (ar (mc_t g)), (ar (mc_g g)), (ar (mc_k g)), ya_places, ya_heights, ya_gone, ya_worst, ya_frames, ya_maps, ya_high, ya_known, ya_mapped, ya_now, ya_sorts, ya_ints, ya_classes, ya_ready)) ∧ (¬ nI i = 0 → ((nI n = 7 → (-1 : Int32) = r ∧ i_Rel (k + 5) ((nI (mc_cc g)), (nI (mc_hc g)), f_placeCount, f_tooMany, 1, (nI n), (nI (md_kx p)), f_grown, f_frameDepth, f_frameThere, f_lastReason, f_valueDepth, f_objectCount, f_hasRun, f_begun, f_nowAt, f_endClass, (ar (mc_p g)), (ar (mc_e g)), (ar (mc_o g)), (mc_r g), (ar (mc_f g)), (ar (mc_t g)), (ar (mc_g g)), (ar (mc_k g)), a_placeKey, a_placeDepth, a_cameWith, a_ledWith, a_faults, a_found, a_hasFound, a_kept, a_hasMap, a_frame, a_kind, a_value, a_objectClass, a_objectReady) ((nI (mc_cc g)), (nI (mc_hc g)), yf_many, yf_there, yf_typed, (nI n), (nI p), yf_size, yf_why, yf_height, yf_objects, yf_line, yf_begun, yf_last, yf_end, (ar (mc_p g)), (ar (mc_e g)), (ar (mc_o g)), (mc_r g), (ar (mc_f g)), (ar (mc_t g)), (ar (mc_g g)), (ar (mc_k g)), ya_places, ya_heights, ya_gone, ya_worst, ya_frames, ya_maps, ya_high, ya_known, ya_mapped, ya_now, ya_sorts, ya_ints, ya_classes, ya_ready)) ∧ (¬ nI n = 7 → wpY_told (fun r_6 => r_6 = r ∧ i_Rel (k + 5) ((nI (mc_cc g)), (nI (mc_hc g)), f_placeCount, f_tooMany, 1, (nI n), (nI (md_kx p)), f_grown, f_frameDepth, f_frameThere, f_lastReason, f_valueDepth, f_objectCount, f_hasRun, f_begun, f_nowAt, f_endClass, (ar (mc_p g)), (ar (mc_e g)), (ar (mc_o g)), (mc_r g), (ar (mc_f g)), (ar (mc_t g)), (ar (mc_g g)), (ar (mc_k g)), a_placeKey, a_placeDepth, a_cameWith, a_ledWith, a_faults, a_found, a_hasFound, a_kept, a_hasMap, a_frame, a_kind, a_value, a_objectClass, a_objectReady) ((nI (mc_cc g)), (nI (mc_hc g)), yf_many, yf_there, yf_typed, (nI n), (nI p), yf_size, yf_why, yf_height, yf_objects, yf_line, yf_begun, yf_last, yf_end, (ar (mc_p g)), (ar (mc_e g)), (ar (mc_o g)), (mc_r g), (ar (mc_f g)), (ar (mc_t g)), (ar (mc_g g)), (ar (mc_k g)), ya_places, ya_heights, ya_gone, ya_worst, ya_frames, ya_maps, ya_high, ya_known, ya_mapped, ya_now, ya_sorts, ya_ints, ya_classes, ya_ready)) (nI p) (nI i)))))) ∧ (¬ nI i ≤ 5 → (-1 : Int32) = r ∧ i_Rel (k + 5) ((nI (mc_cc g)), (nI (mc_hc g)), f_placeCount, f_tooMany, 1, (nI n), (nI (md_kx p)), f_grown, f_frameDepth, f_frameThere, f_lastReason, f_valueDepth, f_objectCount, f_hasRun, f_begun, f_nowAt, f_endClass, (ar (mc_p g)), (ar (mc_e g)), (ar (mc_o g)), (mc_r g), (ar (mc_f g)), (ar (mc_t g)), (ar (mc_g g)), (ar (mc_k g)), a_placeKey, a_placeDepth, a_cameWith, a_ledWith, a_faults, a_found, a_hasFound, a_kept, a_hasMap, a_frame, a_kind, a_value, a_objectClass, a_objectReady) ((nI (mc_cc g)), (nI (mc_hc g)), yf_many, yf_there, yf_typed, (nI n), (nI p), yf_size, yf_why, yf_height, yf_objects, yf_line, yf_begun, yf_last, yf_end, (ar (mc_p g)), (ar (mc_e g)), (ar (mc_o g)), (mc_r g), (ar (mc_f g)), (ar (mc_t g)), (ar (mc_g g)), (ar (mc_k g)), ya_places, ya_heights, ya_gone, ya_worst, ya_frames, ya_maps, ya_high, ya_known, ya_mapped, ya_now, ya_sorts, ya_ints, ya_classes, ya_ready))))))) := by
          intro r er
          subst er
          exact xb_n (by omega) (xb_n (by omega) (pk_le i 5 (fun _ => pk_eq i 0 (fun w => by omega) (fun _ => pk_eq n 7 (fun w => by omega) (fun _ => yt_told hp i1 i5 (done _)))) (fun w => by omega)))
        refine pk_eq i 1 (fun c => ?_) (fun c => xt_co hp (by omega) i5 (yy _ rfl))
        subst c
        rw [xk_31 hkx, xk_i]
        exact yy _ rfl
      · refine br_c (fun c => absurd ⟨1, by omega, by omega, c⟩ E) (fun c => xt_out hp (fun ⟨i, h1, h2, h3⟩ => E ⟨i, by omega, h2, h3⟩) ?_)
        refine xb_n (by omega) (br_c (fun _ => done _) (fun a => br_c (fun b => ?_) (fun _ => done _)))
        obtain ⟨i, hi, rfl⟩ := zr_rng0 (hi := 6) a (zr_le (n := 5) b (by omega)) (by omega)
        by_cases w : i = 0
        · subst w; exact absurd rfl z
        · exact absurd ⟨i, by omega, by omega, rfl⟩ E
theorem i_vc_places {k : Nat} {u : SX} {v : SY} (I : i_Rel k u v) (hk : k + 5 ≤ 2560) : wpX_places (fun r => wpY_places (fun r' => r' = r ∧ i_Rel (k + 5) u v) v) u := by
  obtain ⟨f_codeCount, f_coverCount, f_placeCount, f_tooMany, f_layAnswer, f_wrongKind, f_wrongKey, f_grown, f_frameDepth, f_frameThere, f_lastReason, f_valueDepth, f_objectCount, f_hasRun, f_begun, f_nowAt, f_endClass, a_parent, a_entry, a_code, a_operand, a_coverFrom, a_coverTo, a_coverTarget, a_coverClass, a_placeKey, a_placeDepth, a_cameWith, a_ledWith, a_faults, a_found, a_hasFound, a_kept, a_hasMap, a_frame, a_kind, a_value, a_objectClass, a_objectReady⟩ := u
  obtain ⟨yf_length, yf_handlers, yf_many, yf_there, yf_typed, yf_wrongNumber, yf_wrongPlace, yf_size, yf_why, yf_height, yf_objects, yf_line, yf_begun, yf_last, yf_end, ya_parent, ya_begin, ya_op, ya_arg, ya_from, ya_to, ya_target, ya_caught, ya_places, ya_heights, ya_gone, ya_worst, ya_frames, ya_maps, ya_high, ya_known, ya_mapped, ya_now, ya_sorts, ya_ints, ya_classes, ya_ready⟩ := v
  obtain ⟨g, hG, ⟨rfl, rfl, rfl, rfl, rfl, rfl, rfl, rfl, rfl, rfl⟩, ⟨rfl, rfl, rfl, rfl, rfl, rfl, rfl, rfl, rfl, rfl⟩, hgr, hW, hwhy, hL, hR⟩ := I
  have done : ∀ r : Int32, r = r ∧ i_Rel (k + 5) ((nI (mc_cc g)), (nI (mc_hc g)), f_placeCount, f_tooMany, f_layAnswer, f_wrongKind, f_wrongKey, f_grown, f_frameDepth, f_frameThere, f_lastReason, f_valueDepth, f_objectCount, f_hasRun, f_begun, f_nowAt, f_endClass, (ar (mc_p g)), (ar (mc_e g)), (ar (mc_o g)), (mc_r g), (ar (mc_f g)), (ar (mc_t g)), (ar (mc_g g)), (ar (mc_k g)), a_placeKey, a_placeDepth, a_cameWith, a_ledWith, a_faults, a_found, a_hasFound, a_kept, a_hasMap, a_frame, a_kind, a_value, a_objectClass, a_objectReady) ((nI (mc_cc g)), (nI (mc_hc g)), yf_many, yf_there, yf_typed, yf_wrongNumber, yf_wrongPlace, yf_size, yf_why, yf_height, yf_objects, yf_line, yf_begun, yf_last, yf_end, (ar (mc_p g)), (ar (mc_e g)), (ar (mc_o g)), (mc_r g), (ar (mc_f g)), (ar (mc_t g)), (ar (mc_g g)), (ar (mc_k g)), ya_places, ya_heights, ya_gone, ya_worst, ya_frames, ya_maps, ya_high, ya_known, ya_mapped, ya_now, ya_sorts, ya_ints, ya_classes, ya_ready) := fun r => ⟨rfl, ⟨g, hG, ⟨rfl, rfl, rfl, rfl, rfl, rfl, rfl, rfl, rfl, rfl⟩, ⟨rfl, rfl, rfl, rfl, rfl, rfl, rfl, rfl, rfl, rfl⟩, hgr, hW, hwhy, hL, hR⟩⟩
  unfold wpX_places wpY_places
  dsimp only
  rcases hL with ⟨rfl, rfl⟩ | ⟨rfl, hM, ⟨m, P, D, kr, ql, qh, qm, qd, qk, qp, M, K, hY, rfl, rfl, rfl, rfl, rfl, rfl, rfl, rfl, rfl, rfl, hkr, hpl, hhi, hqm, hqd, hMp, hA, hB, K90, hty⟩⟩
  · exact xb_0 (done _)
  · exact xb_1 (done _)
theorem i_vc_place {k : Nat} {u : SX} {v : SY} (I : i_Rel k u v) (hk : k + 5 ≤ 2560) (v1 : Int32) (v2 : Int32) : wpX_place (fun r => wpY_place (fun r' => r' = r ∧ i_Rel (k + 5) u v) v v1 v2) u v1 v2 := by
  obtain ⟨f_codeCount, f_coverCount, f_placeCount, f_tooMany, f_layAnswer, f_wrongKind, f_wrongKey, f_grown, f_frameDepth, f_frameThere, f_lastReason, f_valueDepth, f_objectCount, f_hasRun, f_begun, f_nowAt, f_endClass, a_parent, a_entry, a_code, a_operand, a_coverFrom, a_coverTo, a_coverTarget, a_coverClass, a_placeKey, a_placeDepth, a_cameWith, a_ledWith, a_faults, a_found, a_hasFound, a_kept, a_hasMap, a_frame, a_kind, a_value, a_objectClass, a_objectReady⟩ := u
  obtain ⟨yf_length, yf_handlers, yf_many, yf_there, yf_typed, yf_wrongNumber, yf_wrongPlace, yf_size, yf_why, yf_height, yf_objects, yf_line, yf_begun, yf_last, yf_end, ya_parent, ya_begin, ya_op, ya_arg, ya_from, ya_to, ya_target, ya_caught, ya_places, ya_heights, ya_gone, ya_worst, ya_frames, ya_maps, ya_high, ya_known, ya_mapped, ya_now, ya_sorts, ya_ints, ya_classes, ya_ready⟩ := v
  obtain ⟨g, hG, ⟨rfl, rfl, rfl, rfl, rfl, rfl, rfl, rfl, rfl, rfl⟩, ⟨rfl, rfl, rfl, rfl, rfl, rfl, rfl, rfl, rfl, rfl⟩, hgr, hW, hwhy, hL, hR⟩ := I
  have done : ∀ r : Int32, r = r ∧ i_Rel (k + 5) ((nI (mc_cc g)), (nI (mc_hc g)), f_placeCount, f_tooMany, f_layAnswer, f_wrongKind, f_wrongKey, f_grown, f_frameDepth, f_frameThere, f_lastReason, f_valueDepth, f_objectCount, f_hasRun, f_begun, f_nowAt, f_endClass, (ar (mc_p g)), (ar (mc_e g)), (ar (mc_o g)), (mc_r g), (ar (mc_f g)), (ar (mc_t g)), (ar (mc_g g)), (ar (mc_k g)), a_placeKey, a_placeDepth, a_cameWith, a_ledWith, a_faults, a_found, a_hasFound, a_kept, a_hasMap, a_frame, a_kind, a_value, a_objectClass, a_objectReady) ((nI (mc_cc g)), (nI (mc_hc g)), yf_many, yf_there, yf_typed, yf_wrongNumber, yf_wrongPlace, yf_size, yf_why, yf_height, yf_objects, yf_line, yf_begun, yf_last, yf_end, (ar (mc_p g)), (ar (mc_e g)), (ar (mc_o g)), (mc_r g), (ar (mc_f g)), (ar (mc_t g)), (ar (mc_g g)), (ar (mc_k g)), ya_places, ya_heights, ya_gone, ya_worst, ya_frames, ya_maps, ya_high, ya_known, ya_mapped, ya_now, ya_sorts, ya_ints, ya_classes, ya_ready) := fun r => ⟨rfl, ⟨g, hG, ⟨rfl, rfl, rfl, rfl, rfl, rfl, rfl, rfl, rfl, rfl⟩, ⟨rfl, rfl, rfl, rfl, rfl, rfl, rfl, rfl, rfl, rfl⟩, hgr, hW, hwhy, hL, hR⟩⟩
  unfold wpX_place
  dsimp only
  rcases hL with ⟨rfl, rfl⟩ | ⟨rfl, hM, ⟨m, P, D, kr, ql, qh, qm, qd, qk, qp, M, K, hY, rfl, rfl, rfl, rfl, rfl, rfl, rfl, rfl, rfl, rfl, hkr, hpl, hhi, hqm, hqd, hMp, hA, hB, K90, hty⟩⟩
  · have y : wpY_place (fun r' => r' = -1 ∧ i_Rel (k + 5) ((nI (mc_cc g)), (nI (mc_hc g)), 0, f_tooMany, f_layAnswer, f_wrongKind, f_wrongKey, f_grown, f_frameDepth, f_frameThere, f_lastReason, f_valueDepth, f_objectCount, f_hasRun, f_begun, f_nowAt, f_endClass, (ar (mc_p g)), (ar (mc_e g)), (ar (mc_o g)), (mc_r g), (ar (mc_f g)), (ar (mc_t g)), (ar (mc_g g)), (ar (mc_k g)), a_placeKey, a_placeDepth, a_cameWith, a_ledWith, a_faults, a_found, a_hasFound, a_kept, a_hasMap, a_frame, a_kind, a_value, a_objectClass, a_objectReady) ((nI (mc_cc g)), (nI (mc_hc g)), yf_many, 0, yf_typed, yf_wrongNumber, yf_wrongPlace, yf_size, yf_why, yf_height, yf_objects, yf_line, yf_begun, yf_last, yf_end, (ar (mc_p g)), (ar (mc_e g)), (ar (mc_o g)), (mc_r g), (ar (mc_f g)), (ar (mc_t g)), (ar (mc_g g)), (ar (mc_k g)), ya_places, ya_heights, ya_gone, ya_worst, ya_frames, ya_maps, ya_high, ya_known, ya_mapped, ya_now, ya_sorts, ya_ints, ya_classes, ya_ready)) ((nI (mc_cc g)), (nI (mc_hc g)), yf_many, 0, yf_typed, yf_wrongNumber, yf_wrongPlace, yf_size, yf_why, yf_height, yf_objects, yf_line, yf_begun, yf_last, yf_end, (ar (mc_p g)), (ar (mc_e g)), (ar (mc_o g)), (mc_r g), (ar (mc_f g)), (ar (mc_t g)), (ar (mc_g g)), (ar (mc_k g)), ya_places, ya_heights, ya_gone, ya_worst, ya_frames, ya_maps, ya_high, ya_known, ya_mapped, ya_now, ya_sorts, ya_ints, ya_classes, ya_ready) v1 v2 := by
      unfold wpY_place; dsimp only; exact xb_0 (done _)
    refine br_c (fun _ => y) (fun a => br_c (fun b => absurd b a) (fun _ => y))
  · have hm := hY.1
    have hcc := hG.1
    by_cases E : ∃ i, i < m ∧ v1 = nI i
    · obtain ⟨i, hi, rfl⟩ := E
      have pl := md_Vlt hcc (mg_V hG hM hY hi)
      have hkx := md_kxlt _ pl
      have hD := mg_D hG hM hY hi
      have il := md_Vi hcc (mg_V hG hM hY hi)
      -- the reference, within
      have yin : ∀ {post : Int32 → Prop} (w : Nat), w < 7 → (w = 6 → post (nI (M i).toNat)) → (w = 1 → post (nI (D i))) → (w = 0 → post (zt_v (P i) 1)) → (2 ≤ w → w ≤ 5 → post (zt_v (P i) w)) → wpY_place post ((nI (mc_cc g)), (nI (mc_hc g)), (nI m), 1, yf_typed, yf_wrongNumber, yf_wrongPlace, yf_size, yf_why, yf_height, yf_objects, yf_line, yf_begun, yf_last, yf_end, (ar (mc_p g)), (ar (mc_e g)), (ar (mc_o g)), (mc_r g), (ar (mc_f g)), (ar (mc_t g)), (ar (mc_g g)), (ar (mc_k g)), (ar ql), ya_heights, ya_gone, ya_worst, ya_frames, (ar qp), (ar qh), ya_known, (ar qd), ya_now, ya_sorts, ya_ints, ya_classes, ya_ready) (nI i) (nI w) := by
        intro post w hw h6 h1 h0 h2
        unfold wpY_place
        dsimp only
        refine xb_1 (ya_in (by omega) (fun _ _ _ => xb_1 (ya_in (n := 7) (by omega) (fun _ _ _ => xb_1 ?_) (fun z => absurd ⟨w, hw, rfl⟩ z))) (fun z => absurd ⟨i, hi, rfl⟩ z))
        rw [ar_at qd (by omega), ar_at ql (by omega), ar_at qh (by omega), hqd i hi, hpl i hi, hhi i hi]
        refine pk_eq w 6 (fun c => ⟨vp_in_nI (by omega) (by omega), ?_⟩) (fun c6 => pk_eq w 0 (fun c => ⟨vp_in_nI (by omega) (by omega), yt_told (i := 1) pl (by omega) (by omega) (h0 c)⟩) (fun c0 => pk_eq w 1 (fun c => ⟨vp_in_nI (by omega) (by omega), h1 c⟩) (fun c1 => ⟨vp_in_nI (by omega) (by omega), yt_told pl (by omega) (by omega) (h2 (by omega) (by omega))⟩)))
        have := h6 c
        cases eM : M i with
        | false => rw [eM] at this; exact xb_0 this
        | true => rw [eM] at this; exact xb_1 this
      refine xb_n (by omega) (pk_lt i m (fun _ => ?_) (fun z => by omega))
      have ek : ar kr (nI i).toNatClampNeg = nI (md_kx (P i)) := by rw [ar_at _ (by omega), hkr i hi]
      have em : ar qm (nI i).toNatClampNeg = nI (M i).toNat := by rw [ar_at _ (by omega), hqm i hi]
      have ed : ar D (nI i).toNatClampNeg = nI (D i) := ar_at _ (by omega)
      rw [ek, em, ed]
      by_cases F : ∃ w, w < 7 ∧ v2 = nI w
      · obtain ⟨w, hw, rfl⟩ := F
        refine pk_eq w 0 (fun c => ⟨vp_in_nI (by omega) (by omega), ?_⟩) (fun c0 => pk_eq w 1 (fun c => ⟨vp_in_nI (by omega) (by omega), ?_⟩) (fun c1 => pk_eq w 6 (fun c => ⟨vp_in_nI (by omega) (by omega), ?_⟩) (fun c6 => ⟨vp_in_nI (by omega) (by omega), ?_⟩)))
        · rw [xk_31 hkx, xk_i]
          exact yin w hw (fun z => by omega) (fun z => by omega) (fun _ => done _) (fun z => by omega)
        · exact yin w hw (fun z => by omega) (fun _ => done _) (fun z => by omega) (fun z => by omega)
        · cases eM : M i with
          | false => exact xb_0 (yin w hw (fun _ => by rw [eM]; exact done _) (fun z => by omega) (fun z => by omega) (fun z => by omega))
          | true => exact xb_1 (yin w hw (fun _ => by rw [eM]; exact done _) (fun z => by omega) (fun z => by omega) (fun z => by omega))
        · exact xt_co pl (by omega) (by omega) (yin w hw (fun z => by omega) (fun z => by omega) (fun z => by omega) (fun _ _ => done _))
      · have y : wpY_place (fun r' => r' = -1 ∧ i_Rel (k + 5) ((nI (mc_cc g)), (nI (mc_hc g)), (nI m), f_tooMany, f_layAnswer, f_wrongKind, f_wrongKey, f_grown, f_frameDepth, f_frameThere, f_lastReason, f_valueDepth, f_objectCount, f_hasRun, f_begun, f_nowAt, f_endClass, (ar (mc_p g)), (ar (mc_e g)), (ar (mc_o g)), (mc_r g), (ar (mc_f g)), (ar (mc_t g)), (ar (mc_g g)), (ar (mc_k g)), (ar kr), (ar D), a_cameWith, a_ledWith, a_faults, a_found, a_hasFound, (ar qk), (ar qm), a_frame, a_kind, a_value, a_objectClass, a_objectReady) ((nI (mc_cc g)), (nI (mc_hc g)), (nI m), 1, yf_typed, yf_wrongNumber, yf_wrongPlace, yf_size, yf_why, yf_height, yf_objects, yf_line, yf_begun, yf_last, yf_end, (ar (mc_p g)), (ar (mc_e g)), (ar (mc_o g)), (mc_r g), (ar (mc_f g)), (ar (mc_t g)), (ar (mc_g g)), (ar (mc_k g)), (ar ql), ya_heights, ya_gone, ya_worst, ya_frames, (ar qp), (ar qh), ya_known, (ar qd), ya_now, ya_sorts, ya_ints, ya_classes, ya_ready)) ((nI (mc_cc g)), (nI (mc_hc g)), (nI m), 1, yf_typed, yf_wrongNumber, yf_wrongPlace, yf_size, yf_why, yf_height, yf_objects, yf_line, yf_begun, yf_last, yf_end, (ar (mc_p g)), (ar (mc_e g)), (ar (mc_o g)), (mc_r g), (ar (mc_f g)), (ar (mc_t g)), (ar (mc_g g)), (ar (mc_k g)), (ar ql), ya_heights, ya_gone, ya_worst, ya_frames, (ar qp), (ar qh), ya_known, (ar qd), ya_now, ya_sorts, ya_ints, ya_classes, ya_ready) (nI i) v2 := by
          unfold wpY_place
          dsimp only
          exact xb_1 (ya_in (by omega) (fun _ _ _ => xb_1 (ya_in (n := 7) (by omega) (fun w hw e => absurd ⟨w, hw, e⟩ F) (fun _ => xb_0 (done _)))) (fun z => absurd ⟨i, hi, rfl⟩ z))
        refine br_c (fun c => absurd ⟨0, by omega, c⟩ F) (fun c0 => br_c (fun c => absurd ⟨1, by omega, c⟩ F) (fun c1 => br_c (fun c => absurd ⟨6, by omega, c⟩ F) (fun c6 => ⟨vp_in_nI (by omega) (by omega), xt_out pl (fun ⟨j, h1, h2, h3⟩ => F ⟨j, by omega, h3⟩) y⟩)))
    · have y : wpY_place (fun r' => r' = -1 ∧ i_Rel (k + 5) ((nI (mc_cc g)), (nI (mc_hc g)), (nI m), f_tooMany, f_layAnswer, f_wrongKind, f_wrongKey, f_grown, f_frameDepth, f_frameThere, f_lastReason, f_valueDepth, f_objectCount, f_hasRun, f_begun, f_nowAt, f_endClass, (ar (mc_p g)), (ar (mc_e g)), (ar (mc_o g)), (mc_r g), (ar (mc_f g)), (ar (mc_t g)), (ar (mc_g g)), (ar (mc_k g)), (ar kr), (ar D), a_cameWith, a_ledWith, a_faults, a_found, a_hasFound, (ar qk), (ar qm), a_frame, a_kind, a_value, a_objectClass, a_objectReady) ((nI (mc_cc g)), (nI (mc_hc g)), (nI m), 1, yf_typed, yf_wrongNumber, yf_wrongPlace, yf_size, yf_why, yf_height, yf_objects, yf_line, yf_begun, yf_last, yf_end, (ar (mc_p g)), (ar (mc_e g)), (ar (mc_o g)), (mc_r g), (ar (mc_f g)), (ar (mc_t g)), (ar (mc_g g)), (ar (mc_k g)), (ar ql), ya_heights, ya_gone, ya_worst, ya_frames, (ar qp), (ar qh), ya_known, (ar qd), ya_now, ya_sorts, ya_ints, ya_classes, ya_ready)) ((nI (mc_cc g)), (nI (mc_hc g)), (nI m), 1, yf_typed, yf_wrongNumber, yf_wrongPlace, yf_size, yf_why, yf_height, yf_objects, yf_line, yf_begun, yf_last, yf_end, (ar (mc_p g)), (ar (mc_e g)), (ar (mc_o g)), (mc_r g), (ar (mc_f g)), (ar (mc_t g)), (ar (mc_g g)), (ar (mc_k g)), (ar ql), ya_heights, ya_gone, ya_worst, ya_frames, (ar qp), (ar qh), ya_known, (ar qd), ya_now, ya_sorts, ya_ints, ya_classes, ya_ready) v1 v2 := by
        unfold wpY_place
        dsimp only
        exact xb_1 (ya_in (by omega) (fun j hj e => absurd ⟨j, hj, e⟩ E) (fun _ => xb_0 (done _)))
      refine br_c (fun _ => y) (fun a => br_c (fun b => ?_) (fun _ => y))
      obtain ⟨j, hj, e⟩ := zr_rng0 a b (by omega)
      exact absurd ⟨j, hj, e⟩ E
end
end
section
/-! ===== type, map, alter, reason, ended, held ===== -/
section
variable {f_codeCount f_coverCount f_placeCount f_tooMany f_layAnswer f_wrongKind f_wrongKey f_grown f_frameDepth f_frameThere f_lastReason f_valueDepth f_objectCount f_hasRun f_begun f_nowAt f_endClass : Int32} {a_parent a_entry a_code a_operand a_coverFrom a_coverTo a_coverTarget a_coverClass a_placeKey a_placeDepth a_cameWith a_ledWith a_faults a_found a_hasFound a_kept a_hasMap a_frame a_kind a_value a_objectClass a_objectReady : Nat → Int32}
theorem xa_slot {post : Int32 → Prop} {m : Nat} {D : Nat → Nat} {x y : Int32} (hm : m ≤ 40) (hD : ∀ i, i < m → D i ≤ 6) (h1 : ∀ i s, i < m → s < 4 + D i → x = nI i → y = nI s → post 1) (h0 : ¬ (∃ i s, i < m ∧ s < 4 + D i ∧ x = nI i ∧ y = nI s) → post 0) : wpX_isSlot post (f_codeCount, f_coverCount, (nI m), f_tooMany, f_layAnswer, f_wrongKind, f_wrongKey, f_grown, f_frameDepth, f_frameThere, f_lastReason, f_valueDepth, f_objectCount, f_hasRun, f_begun, f_nowAt, f_endClass, a_parent, a_entry, a_code, a_operand, a_coverFrom, a_coverTo, a_coverTarget, a_coverClass, a_placeKey, (ar D), a_cameWith, a_ledWith, a_faults, a_found, a_hasFound, a_kept, a_hasMap, a_frame, a_kind, a_value, a_objectClass, a_objectReady) x y := by
  unfold wpX_isSlot
  dsimp only
  refine br_c (fun a => h0 ?_) (fun a => br_c (fun b => h0 ?_) (fun b => br_c (fun c => h0 ?_) (fun c => ?_)))
  · rintro ⟨i, s, hi, hs, rfl, rfl⟩; exact nI_pos (by omega) a
  · rintro ⟨i, s, hi, hs, rfl, rfl⟩
    rw [nI_leI (by omega) (by omega)] at b; omega
  · rintro ⟨i, s, hi, hs, rfl, rfl⟩
    have := hD i hi
    exact nI_pos (by omega) c
  · obtain ⟨i, hi, rfl⟩ := zr_rng0 a (Int32.not_le.mp b) (by omega)
    have := hD i hi
    have e : (4 : Int32) + ar D (nI i).toNatClampNeg = nI (4 + D i) := by
      rw [ar_at _ (by omega)]; exact nI_add 4 _
    rw [e]
    refine ⟨vp_in_nI (by omega) (by omega), br_c (fun d => h0 ?_) (fun d => ?_)⟩
    · rintro ⟨j, s, hj, hs, ej, rfl⟩
      have : i = j := (nI_eq (by omega) (by omega)).mp ej
      subst this
      rw [nI_leI (by omega) (by omega)] at d; omega
    · obtain ⟨s, hs, rfl⟩ := zr_rng0 c (Int32.not_le.mp d) (by omega)
      exact h1 i s hi hs rfl rfl
end
section
variable {f_length f_handlers f_many f_there f_typed f_wrongNumber f_wrongPlace f_size f_why f_height f_objects f_line f_begun f_last f_end : Int32} {a_parent a_begin a_op a_arg a_from a_to a_target a_caught a_places a_heights a_gone a_worst a_frames a_maps a_high a_known a_mapped a_now a_sorts a_ints a_classes a_ready : Nat → Int32}
theorem ya_isIn {post : Int32 → Prop} {g : md_C} {m : Nat} {P D ql qh qd : Nat → Nat} {M : Nat → Bool} {x y : Int32} (hm : m ≤ 40) (hD : ∀ i, i < m → D i ≤ 6) (hhi : ∀ k, k < m → qh k = D k) (hqd : ∀ k, k < m → qd k = (M k).toNat) (h1 : ∀ i s, i < m → M i = true → s < 4 + D i → x = nI i → y = nI s → post 1) (h0 : ¬ (∃ i s, i < m ∧ M i = true ∧ s < 4 + D i ∧ x = nI i ∧ y = nI s) → post 0) : wpY_isIn post (f_length, f_handlers, (nI m), 1, f_typed, f_wrongNumber, f_wrongPlace, f_size, f_why, f_height, f_objects, f_line, f_begun, f_last, f_end, a_parent, a_begin, a_op, a_arg, a_from, a_to, a_target, a_caught, a_places, a_heights, a_gone, a_worst, a_frames, a_maps, (ar qh), a_known, (ar qd), a_now, a_sorts, a_ints, a_classes, a_ready) x y := by
  unfold wpY_isIn
  dsimp only
  refine xb_1 (ya_in (by omega) (fun i hi ei => xb_1 ?_) (fun z => xb_0 (h0 (fun ⟨i, s, hi, _, _, e, _⟩ => z ⟨i, hi, e⟩))))
  subst ei
  have := hD i hi
  rw [ar_at qd (by omega), hqd i hi]
  have e : (4 : Int32) + ar qh (nI i).toNatClampNeg = nI (4 + D i) := by
    rw [ar_at _ (by omega), hhi i hi]; exact nI_add 4 _
  rw [e]
  have inj : ∀ j, j < m → nI i = nI j → i = j := fun j hj z => (nI_eq (by omega) (by omega)).mp z
  refine ⟨vp_in_nI (by omega) (by omega), ?_⟩
  cases eM : M i with
  | false =>
    refine xb_0 (h0 ?_)
    rintro ⟨j, s, hj, hMj, _, ej, _⟩
    have := inj j hj ej
    subst this; rw [eM] at hMj; cases hMj
  | true =>
    refine xb_1 ⟨vp_in_nI (by omega) (by omega), ya_in (by omega) (fun s hs es => xb_1 (h1 i s hi eM hs rfl es)) (fun z => xb_0 (h0 ?_))⟩
    rintro ⟨j, s, hj, _, hs, ej, es⟩
    have := inj j hj ej
    subst this; exact z ⟨s, hs, es⟩
end
section
theorem i_vc_type {k : Nat} {u : SX} {v : SY} (I : i_Rel k u v) (hk : k + 5 ≤ 2560) (v1 : Int32) (v2 : Int32) : wpX_type (fun r => wpY_type (fun r' => r' = r ∧ i_Rel (k + 5) u v) v v1 v2) u v1 v2 := by
  obtain ⟨f_codeCount, f_coverCount, f_placeCount, f_tooMany, f_layAnswer, f_wrongKind, f_wrongKey, f_grown, f_frameDepth, f_frameThere, f_lastReason, f_valueDepth, f_objectCount, f_hasRun, f_begun, f_nowAt, f_endClass, a_parent, a_entry, a_code, a_operand, a_coverFrom, a_coverTo, a_coverTarget, a_coverClass, a_placeKey, a_placeDepth, a_cameWith, a_ledWith, a_faults, a_found, a_hasFound, a_kept, a_hasMap, a_frame, a_kind, a_value, a_objectClass, a_objectReady⟩ := u
  obtain ⟨yf_length, yf_handlers, yf_many, yf_there, yf_typed, yf_wrongNumber, yf_wrongPlace, yf_size, yf_why, yf_height, yf_objects, yf_line, yf_begun, yf_last, yf_end, ya_parent, ya_begin, ya_op, ya_arg, ya_from, ya_to, ya_target, ya_caught, ya_places, ya_heights, ya_gone, ya_worst, ya_frames, ya_maps, ya_high, ya_known, ya_mapped, ya_now, ya_sorts, ya_ints, ya_classes, ya_ready⟩ := v
  obtain ⟨g, hG, ⟨rfl, rfl, rfl, rfl, rfl, rfl, rfl, rfl, rfl, rfl⟩, ⟨rfl, rfl, rfl, rfl, rfl, rfl, rfl, rfl, rfl, rfl⟩, hgr, hW, hwhy, hL, hR⟩ := I
  have done : ∀ r : Int32, r = r ∧ i_Rel (k + 5) ((nI (mc_cc g)), (nI (mc_hc g)), f_placeCount, f_tooMany, f_layAnswer, f_wrongKind, f_wrongKey, f_grown, f_frameDepth, f_frameThere, f_lastReason, f_valueDepth, f_objectCount, f_hasRun, f_begun, f_nowAt, f_endClass, (ar (mc_p g)), (ar (mc_e g)), (ar (mc_o g)), (mc_r g), (ar (mc_f g)), (ar (mc_t g)), (ar (mc_g g)), (ar (mc_k g)), a_placeKey, a_placeDepth, a_cameWith, a_ledWith, a_faults, a_found, a_hasFound, a_kept, a_hasMap, a_frame, a_kind, a_value, a_objectClass, a_objectReady) ((nI (mc_cc g)), (nI (mc_hc g)), yf_many, yf_there, yf_typed, yf_wrongNumber, yf_wrongPlace, yf_size, yf_why, yf_height, yf_objects, yf_line, yf_begun, yf_last, yf_end, (ar (mc_p g)), (ar (mc_e g)), (ar (mc_o g)), (mc_r g), (ar (mc_f g)), (ar (mc_t g)), (ar (mc_g g)), (ar (mc_k g)), ya_places, ya_heights, ya_gone, ya_worst, ya_frames, ya_maps, ya_high, ya_known, ya_mapped, ya_now, ya_sorts, ya_ints, ya_classes, ya_ready) := fun r => ⟨rfl, ⟨g, hG, ⟨rfl, rfl, rfl, rfl, rfl, rfl, rfl, rfl, rfl, rfl⟩, ⟨rfl, rfl, rfl, rfl, rfl, rfl, rfl, rfl, rfl, rfl⟩, hgr, hW, hwhy, hL, hR⟩⟩
  unfold wpX_type
  dsimp only
  rcases hL with ⟨rfl, rfl⟩ | ⟨rfl, hM, ⟨m, P, D, kr, ql, qh, qm, qd, qk, qp, M, K, hY, rfl, rfl, rfl, rfl, rfl, rfl, rfl, rfl, rfl, rfl, hkr, hpl, hhi, hqm, hqd, hMp, hA, hB, K90, hty⟩⟩
  · have y : wpY_type (fun r' => r' = -1 ∧ i_Rel (k + 5) ((nI (mc_cc g)), (nI (mc_hc g)), 0, f_tooMany, f_layAnswer, f_wrongKind, f_wrongKey, f_grown, f_frameDepth, f_frameThere, f_lastReason, f_valueDepth, f_objectCount, f_hasRun, f_begun, f_nowAt, f_endClass, (ar (mc_p g)), (ar (mc_e g)), (ar (mc_o g)), (mc_r g), (ar (mc_f g)), (ar (mc_t g)), (ar (mc_g g)), (ar (mc_k g)), a_placeKey, a_placeDepth, a_cameWith, a_ledWith, a_faults, a_found, a_hasFound, a_kept, a_hasMap, a_frame, a_kind, a_value, a_objectClass, a_objectReady) ((nI (mc_cc g)), (nI (mc_hc g)), yf_many, 0, yf_typed, yf_wrongNumber, yf_wrongPlace, yf_size, yf_why, yf_height, yf_objects, yf_line, yf_begun, yf_last, yf_end, (ar (mc_p g)), (ar (mc_e g)), (ar (mc_o g)), (mc_r g), (ar (mc_f g)), (ar (mc_t g)), (ar (mc_g g)), (ar (mc_k g)), ya_places, ya_heights, ya_gone, ya_worst, ya_frames, ya_maps, ya_high, ya_known, ya_mapped, ya_now, ya_sorts, ya_ints, ya_classes, ya_ready)) ((nI (mc_cc g)), (nI (mc_hc g)), yf_many, 0, yf_typed, yf_wrongNumber, yf_wrongPlace, yf_size, yf_why, yf_height, yf_objects, yf_line, yf_begun, yf_last, yf_end, (ar (mc_p g)), (ar (mc_e g)), (ar (mc_o g)), (mc_r g), (ar (mc_f g)), (ar (mc_t g)), (ar (mc_g g)), (ar (mc_k g)), ya_places, ya_heights, ya_gone, ya_worst, ya_frames, ya_maps, ya_high, ya_known, ya_mapped, ya_now, ya_sorts, ya_ints, ya_classes, ya_ready) v1 v2 := by
      unfold wpY_type; dsimp only; exact xb_0 (done _)
    refine br_c (fun _ => ?_) (fun _ => y)
    obtain ⟨D, rfl⟩ := ar_ex a_placeDepth
    exact xa_slot (m := 0) (by omega) (fun i hi => by omega) (fun i s hi => by omega) (fun _ => xb_0 y)
  · have hm := hY.1
    have hDs : ∀ i, i < m → D i ≤ 6 := fun i hi => mg_D hG hM hY hi
    rcases hty with ⟨rfl, rfl, qf, qe, T, rfl, rfl, hF, hE⟩ | ⟨nla, rfl⟩
    · refine br_t rfl ?_
      refine xa_slot hm hDs (fun i s hi hs e1 e2 => xb_1 ?_) (fun z => xb_0 ?_)
      · subst e1 e2
        have := hDs i hi
        have ei : nI i * 10 + nI s = nI (10 * i + s) := by
          show nI i * nI 10 + nI s = _
          rw [pk_mul, nI_add, Nat.mul_comm]
        have ej : (10 : Int32) * nI i + nI s = nI (10 * i + s) := by
          show nI 10 * nI i + nI s = _
          rw [pk_mul, nI_add]
        rw [ei, ar_at _ (by omega), hF i hi s hs]
        refine ⟨vp_in_nI (by omega) (by omega), ?_⟩
        unfold wpY_type
        dsimp only
        refine xb_1 (xb_1 (ya_in (by omega) (fun _ _ _ => xb_1 ⟨vp_in_nI (by omega) (by omega), ?_⟩) (fun z => absurd ⟨i, hi, rfl⟩ z)))
        have e : (4 : Int32) + ar qh (nI i).toNatClampNeg = nI (4 + D i) := by
          rw [ar_at _ (by omega), hhi i hi]; exact nI_add 4 _
        rw [e]
        refine ya_in (by omega) (fun _ _ _ => xb_1 ?_) (fun z => absurd ⟨s, hs, rfl⟩ z)
        rw [ej, ar_at qe (by omega), hE i hi s hs]
        exact ⟨vp_in_nI (by omega) (by omega), done _⟩
      · unfold wpY_type
        dsimp only
        refine xb_1 (xb_1 (ya_in (by omega) (fun i hi e1 => xb_1 ?_) (fun _ => xb_0 (done _))))
        subst e1
        have := hDs i hi
        have e : (4 : Int32) + ar qh (nI i).toNatClampNeg = nI (4 + D i) := by
          rw [ar_at _ (by omega), hhi i hi]; exact nI_add 4 _
        rw [e]
        exact ⟨vp_in_nI (by omega) (by omega), ya_in (by omega) (fun s hs e2 => absurd ⟨i, s, hi, hs, rfl, e2⟩ z) (fun _ => xb_0 (done _))⟩
    · refine br_f nla ?_
      unfold wpY_type
      dsimp only
      exact xb_1 (xb_0 (done _))
theorem i_vc_map {k : Nat} {u : SX} {v : SY} (I : i_Rel k u v) (hk : k + 5 ≤ 2560) (v1 : Int32) (v2 : Int32) : wpX_map (fun r => wpY_map (fun r' => r' = r ∧ i_Rel (k + 5) u v) v v1 v2) u v1 v2 := by
  obtain ⟨f_codeCount, f_coverCount, f_placeCount, f_tooMany, f_layAnswer, f_wrongKind, f_wrongKey, f_grown, f_frameDepth, f_frameThere, f_lastReason, f_valueDepth, f_objectCount, f_hasRun, f_begun, f_nowAt, f_endClass, a_parent, a_entry, a_code, a_operand, a_coverFrom, a_coverTo, a_coverTarget, a_coverClass, a_placeKey, a_placeDepth, a_cameWith, a_ledWith, a_faults, a_found, a_hasFound, a_kept, a_hasMap, a_frame, a_kind, a_value, a_objectClass, a_objectReady⟩ := u
  obtain ⟨yf_length, yf_handlers, yf_many, yf_there, yf_typed, yf_wrongNumber, yf_wrongPlace, yf_size, yf_why, yf_height, yf_objects, yf_line, yf_begun, yf_last, yf_end, ya_parent, ya_begin, ya_op, ya_arg, ya_from, ya_to, ya_target, ya_caught, ya_places, ya_heights, ya_gone, ya_worst, ya_frames, ya_maps, ya_high, ya_known, ya_mapped, ya_now, ya_sorts, ya_ints, ya_classes, ya_ready⟩ := v
  obtain ⟨g, hG, ⟨rfl, rfl, rfl, rfl, rfl, rfl, rfl, rfl, rfl, rfl⟩, ⟨rfl, rfl, rfl, rfl, rfl, rfl, rfl, rfl, rfl, rfl⟩, hgr, hW, hwhy, hL, hR⟩ := I
  have done : ∀ r : Int32, r = r ∧ i_Rel (k + 5) ((nI (mc_cc g)), (nI (mc_hc g)), f_placeCount, f_tooMany, f_layAnswer, f_wrongKind, f_wrongKey, f_grown, f_frameDepth, f_frameThere, f_lastReason, f_valueDepth, f_objectCount, f_hasRun, f_begun, f_nowAt, f_endClass, (ar (mc_p g)), (ar (mc_e g)), (ar (mc_o g)), (mc_r g), (ar (mc_f g)), (ar (mc_t g)), (ar (mc_g g)), (ar (mc_k g)), a_placeKey, a_placeDepth, a_cameWith, a_ledWith, a_faults, a_found, a_hasFound, a_kept, a_hasMap, a_frame, a_kind, a_value, a_objectClass, a_objectReady) ((nI (mc_cc g)), (nI (mc_hc g)), yf_many, yf_there, yf_typed, yf_wrongNumber, yf_wrongPlace, yf_size, yf_why, yf_height, yf_objects, yf_line, yf_begun, yf_last, yf_end, (ar (mc_p g)), (ar (mc_e g)), (ar (mc_o g)), (mc_r g), (ar (mc_f g)), (ar (mc_t g)), (ar (mc_g g)), (ar (mc_k g)), ya_places, ya_heights, ya_gone, ya_worst, ya_frames, ya_maps, ya_high, ya_known, ya_mapped, ya_now, ya_sorts, ya_ints, ya_classes, ya_ready) := fun r => ⟨rfl, ⟨g, hG, ⟨rfl, rfl, rfl, rfl, rfl, rfl, rfl, rfl, rfl, rfl⟩, ⟨rfl, rfl, rfl, rfl, rfl, rfl, rfl, rfl, rfl, rfl⟩, hgr, hW, hwhy, hL, hR⟩⟩
  unfold wpX_map
  dsimp only
  rcases hL with ⟨rfl, rfl⟩ | ⟨rfl, hM, ⟨m, P, D, kr, ql, qh, qm, qd, qk, qp, M, K, hY, rfl, rfl, rfl, rfl, rfl, rfl, rfl, rfl, rfl, rfl, hkr, hpl, hhi, hqm, hqd, hMp, hA, hB, K90, hty⟩⟩
  · obtain ⟨D, rfl⟩ := ar_ex a_placeDepth
    refine xa_slot (m := 0) (by omega) (fun i hi => by omega) (fun i s hi => by omega) (fun _ => xb_0 ?_)
    unfold wpY_map wpY_isIn; dsimp only; exact xb_0 (xb_0 (done _))
  · have hm := hY.1
    have hDs : ∀ i, i < m → D i ≤ 6 := fun i hi => mg_D hG hM hY hi
    refine xa_slot hm hDs (fun i s hi hs e1 e2 => xb_1 ?_) (fun z => xb_0 ?_)
    · subst e1 e2
      have := hDs i hi
      have ei : nI i * 10 + nI s = nI (10 * i + s) := by
        show nI i * nI 10 + nI s = _
        rw [pk_mul, nI_add, Nat.mul_comm]
      have ej : (10 : Int32) * nI i + nI s = nI (10 * i + s) := by
        show nI 10 * nI i + nI s = _
        rw [pk_mul, nI_add]
      have inj : ∀ j, j < m → nI i = nI j → i = j := fun j hj z => (nI_eq (by omega) (by omega)).mp z
      rw [ar_at qm (by omega), hqm i hi]
      refine ⟨vp_in_nI (by omega) (by omega), ?_⟩
      cases eM : M i with
      | false =>
        refine xb_0 ?_
        unfold wpY_map
        dsimp only
        refine ya_isIn (g := g) (P := P) (ql := ql) hm hDs hhi hqd (fun j t hj hMj ht e1 e2 => ?_) (fun _ => xb_0 (done _))
        have := inj j hj e1
        subst this; rw [eM] at hMj; cases hMj
      | true =>
        refine xb_1 ?_
        rw [ei, ar_at qk (by omega), hA i hi s hs]
        refine ⟨vp_in_nI (by omega) (by omega), ?_⟩
        unfold wpY_map
        dsimp only
        refine ya_isIn (g := g) (P := P) (ql := ql) hm hDs hhi hqd (fun j t hj hMj ht e1 e2 => xb_1 ?_) (fun z => absurd ⟨i, s, hi, eM, hs, rfl, rfl⟩ z)
        rw [ej, ar_at qp (by omega), hB i hi s hs]
        exact ⟨vp_in_nI (by omega) (by omega), done _⟩
    · unfold wpY_map
      dsimp only
      exact ya_isIn (g := g) (P := P) (ql := ql) hm hDs hhi hqd (fun i s hi _ hs e1 e2 => absurd ⟨i, s, hi, hs, e1, e2⟩ z) (fun _ => xb_0 (done _))
theorem i_vc_alter {k : Nat} {u : SX} {v : SY} (I : i_Rel k u v) (hk : k + 5 ≤ 2560) (v1 : Int32) (v2 : Int32) (v3 : Int32) : wpX_alter (fun r u' => wpY_alter (fun r' v' => r' = r ∧ i_Rel (k + 5) u' v') v v1 v2 v3) u v1 v2 v3 := by
  obtain ⟨f_codeCount, f_coverCount, f_placeCount, f_tooMany, f_layAnswer, f_wrongKind, f_wrongKey, f_grown, f_frameDepth, f_frameThere, f_lastReason, f_valueDepth, f_objectCount, f_hasRun, f_begun, f_nowAt, f_endClass, a_parent, a_entry, a_code, a_operand, a_coverFrom, a_coverTo, a_coverTarget, a_coverClass, a_placeKey, a_placeDepth, a_cameWith, a_ledWith, a_faults, a_found, a_hasFound, a_kept, a_hasMap, a_frame, a_kind, a_value, a_objectClass, a_objectReady⟩ := u
  obtain ⟨yf_length, yf_handlers, yf_many, yf_there, yf_typed, yf_wrongNumber, yf_wrongPlace, yf_size, yf_why, yf_height, yf_objects, yf_line, yf_begun, yf_last, yf_end, ya_parent, ya_begin, ya_op, ya_arg, ya_from, ya_to, ya_target, ya_caught, ya_places, ya_heights, ya_gone, ya_worst, ya_frames, ya_maps, ya_high, ya_known, ya_mapped, ya_now, ya_sorts, ya_ints, ya_classes, ya_ready⟩ := v
  obtain ⟨g, hG, ⟨rfl, rfl, rfl, rfl, rfl, rfl, rfl, rfl, rfl, rfl⟩, ⟨rfl, rfl, rfl, rfl, rfl, rfl, rfl, rfl, rfl, rfl⟩, hgr, hW, hwhy, hL, hR⟩ := I
  have done : ∀ r : Int32, r = r ∧ i_Rel (k + 5) ((nI (mc_cc g)), (nI (mc_hc g)), f_placeCount, f_tooMany, f_layAnswer, f_wrongKind, f_wrongKey, f_grown, f_frameDepth, f_frameThere, f_lastReason, f_valueDepth, f_objectCount, f_hasRun, f_begun, f_nowAt, f_endClass, (ar (mc_p g)), (ar (mc_e g)), (ar (mc_o g)), (mc_r g), (ar (mc_f g)), (ar (mc_t g)), (ar (mc_g g)), (ar (mc_k g)), a_placeKey, a_placeDepth, a_cameWith, a_ledWith, a_faults, a_found, a_hasFound, a_kept, a_hasMap, a_frame, a_kind, a_value, a_objectClass, a_objectReady) ((nI (mc_cc g)), (nI (mc_hc g)), yf_many, yf_there, yf_typed, yf_wrongNumber, yf_wrongPlace, yf_size, yf_why, yf_height, yf_objects, yf_line, yf_begun, yf_last, yf_end, (ar (mc_p g)), (ar (mc_e g)), (ar (mc_o g)), (mc_r g), (ar (mc_f g)), (ar (mc_t g)), (ar (mc_g g)), (ar (mc_k g)), ya_places, ya_heights, ya_gone, ya_worst, ya_frames, ya_maps, ya_high, ya_known, ya_mapped, ya_now, ya_sorts, ya_ints, ya_classes, ya_ready) := fun r => ⟨rfl, ⟨g, hG, ⟨rfl, rfl, rfl, rfl, rfl, rfl, rfl, rfl, rfl, rfl⟩, ⟨rfl, rfl, rfl, rfl, rfl, rfl, rfl, rfl, rfl, rfl⟩, hgr, hW, hwhy, hL, hR⟩⟩
  unfold wpX_alter
  dsimp only
  rcases hL with ⟨rfl, rfl⟩ | ⟨rfl, hM, ⟨m, P, D, kr, ql, qh, qm, qd, qk, qp, M, K, hY, rfl, rfl, rfl, rfl, rfl, rfl, rfl, rfl, rfl, rfl, hkr, hpl, hhi, hqm, hqd, hMp, hA, hB, K90, hty⟩⟩
  · obtain ⟨D, rfl⟩ := ar_ex a_placeDepth
    refine xa_slot (m := 0) (by omega) (fun i hi => by omega) (fun i s hi => by omega) (fun _ => xb_0 ?_)
    unfold wpY_alter wpY_isIn; dsimp only; exact xb_0 (xb_0 (done _))
  · have hm := hY.1
    have hDs : ∀ i, i < m → D i ≤ 6 := fun i hi => mg_D hG hM hY hi
    refine xa_slot hm hDs (fun i s hi hs e1 e2 => xb_1 ?_) (fun z => xb_0 ?_)
    · subst e1 e2
      have hDi := hDs i hi
      have ei : nI i * 10 + nI s = nI (10 * i + s) := by
        show nI i * nI 10 + nI s = _
        rw [pk_mul, nI_add, Nat.mul_comm]
      have ej : (10 : Int32) * nI i + nI s = nI (10 * i + s) := by
        show nI 10 * nI i + nI s = _
        rw [pk_mul, nI_add]
      have inj : ∀ j, j < m → nI i = nI j → i = j := fun j hj z => (nI_eq (by omega) (by omega)).mp z
      rw [ar_at qm (by omega), hqm i hi]
      refine ⟨vp_in_nI (by omega) (by omega), ?_⟩
      cases eM : M i with
      | false =>
        refine xb_0 ?_
        unfold wpY_alter
        dsimp only
        refine ya_isIn (g := g) (P := P) (ql := ql) hm hDs hhi hqd (fun j t hj hMj ht e1 e2 => ?_) (fun _ => xb_0 (done _))
        have := inj j hj e1
        subst this; rw [eM] at hMj; cases hMj
      | true =>
        refine xb_1 ?_
        by_cases E : ∃ t, t < 91 ∧ v3 = nI t
        · obtain ⟨t, ht, rfl⟩ := E
          rw [ei]
          refine xb_n (by omega) (pk_le t 90 (fun _ => ⟨vp_in_nI (by omega) (by omega), nm_r (ar_ui _ _ (by omega)) ?_⟩) (fun z => by omega))
          unfold wpY_alter
          dsimp only
          refine ya_isIn (g := g) (P := P) (ql := ql) hm hDs hhi hqd (fun _ _ _ _ _ _ _ => xb_1 (ya_in (n := 91) (by omega) (fun _ _ _ => xb_1 ?_) (fun z => absurd ⟨t, ht, rfl⟩ z))) (fun z => absurd ⟨i, s, hi, eM, hs, rfl, rfl⟩ z)
          rw [ej]
          have up : ∀ qx : Nat → Nat, mk_A m D K qx → mk_A m D (fun q r => if q = i ∧ r = s then t else K q r) (mf_up qx (10 * i + s) t) := by
            intro qx hx q hq r hr
            have := hDs q hq
            show mf_up qx (10 * i + s) t (10 * q + r) = if q = i ∧ r = s then t else K q r
            by_cases w : q = i ∧ r = s
            · obtain ⟨rfl, rfl⟩ := w
              rw [up_s, if_pos ⟨rfl, rfl⟩]
            · rw [up_n (by omega), if_neg w]; exact hx q hq r hr
          refine ⟨vp_in_nI (by omega) (by omega), nm_r (ar_ui _ _ (by omega)) ⟨rfl, g, hG, ⟨rfl, rfl, rfl, rfl, rfl, rfl, rfl, rfl, rfl, rfl⟩, ⟨rfl, rfl, rfl, rfl, rfl, rfl, rfl, rfl, rfl, rfl⟩, hgr, hW, hwhy, Or.inr ⟨rfl, hM, m, P, D, kr, ql, qh, qm, qd, _, _, M, _, hY, rfl, rfl, rfl, rfl, rfl, rfl, rfl, rfl, rfl, rfl, hkr, hpl, hhi, hqm, hqd, hMp, up qk hA, up qp hB, fun q r => ?_, hty⟩, hR⟩⟩
          show (if q = i ∧ r = s then t else K q r) ≤ 90
          split
          · omega
          · exact K90 q r
        · have y : wpY_alter (fun r' v' => r' = 0 ∧ i_Rel (k + 5) ((nI (mc_cc g)), (nI (mc_hc g)), (nI m), f_tooMany, f_layAnswer, f_wrongKind, f_wrongKey, f_grown, f_frameDepth, f_frameThere, f_lastReason, f_valueDepth, f_objectCount, f_hasRun, f_begun, f_nowAt, f_endClass, (ar (mc_p g)), (ar (mc_e g)), (ar (mc_o g)), (mc_r g), (ar (mc_f g)), (ar (mc_t g)), (ar (mc_g g)), (ar (mc_k g)), (ar kr), (ar D), a_cameWith, a_ledWith, a_faults, a_found, a_hasFound, (ar qk), (ar qm), a_frame, a_kind, a_value, a_objectClass, a_objectReady) v') ((nI (mc_cc g)), (nI (mc_hc g)), (nI m), 1, yf_typed, yf_wrongNumber, yf_wrongPlace, yf_size, yf_why, yf_height, yf_objects, yf_line, yf_begun, yf_last, yf_end, (ar (mc_p g)), (ar (mc_e g)), (ar (mc_o g)), (mc_r g), (ar (mc_f g)), (ar (mc_t g)), (ar (mc_g g)), (ar (mc_k g)), (ar ql), ya_heights, ya_gone, ya_worst, ya_frames, (ar qp), (ar qh), ya_known, (ar qd), ya_now, ya_sorts, ya_ints, ya_classes, ya_ready) (nI i) (nI s) v3 := by
            unfold wpY_alter
            dsimp only
            exact ya_isIn (g := g) (P := P) (ql := ql) hm hDs hhi hqd (fun _ _ _ _ _ _ _ => xb_1 (ya_in (n := 91) (by omega) (fun t ht e => absurd ⟨t, ht, e⟩ E) (fun _ => xb_0 (done _)))) (fun z => absurd ⟨i, s, hi, eM, hs, rfl, rfl⟩ z)
          refine br_c (fun _ => y) (fun a => br_c (fun b => ?_) (fun _ => y))
          obtain ⟨t, ht, e⟩ := zr_rng0 (hi := 91) a (zr_le (n := 90) b (by omega)) (by omega)
          exact absurd ⟨t, ht, e⟩ E
    · unfold wpY_alter
      dsimp only
      exact ya_isIn (g := g) (P := P) (ql := ql) hm hDs hhi hqd (fun i s hi _ hs e1 e2 => absurd ⟨i, s, hi, hs, e1, e2⟩ z) (fun _ => xb_0 (done _))
theorem i_vc_reason {k : Nat} {u : SX} {v : SY} (I : i_Rel k u v) (hk : k + 5 ≤ 2560) : wpX_reason (fun r => wpY_reason (fun r' => r' = r ∧ i_Rel (k + 5) u v) v) u := by
  obtain ⟨f_codeCount, f_coverCount, f_placeCount, f_tooMany, f_layAnswer, f_wrongKind, f_wrongKey, f_grown, f_frameDepth, f_frameThere, f_lastReason, f_valueDepth, f_objectCount, f_hasRun, f_begun, f_nowAt, f_endClass, a_parent, a_entry, a_code, a_operand, a_coverFrom, a_coverTo, a_coverTarget, a_coverClass, a_placeKey, a_placeDepth, a_cameWith, a_ledWith, a_faults, a_found, a_hasFound, a_kept, a_hasMap, a_frame, a_kind, a_value, a_objectClass, a_objectReady⟩ := u
  obtain ⟨yf_length, yf_handlers, yf_many, yf_there, yf_typed, yf_wrongNumber, yf_wrongPlace, yf_size, yf_why, yf_height, yf_objects, yf_line, yf_begun, yf_last, yf_end, ya_parent, ya_begin, ya_op, ya_arg, ya_from, ya_to, ya_target, ya_caught, ya_places, ya_heights, ya_gone, ya_worst, ya_frames, ya_maps, ya_high, ya_known, ya_mapped, ya_now, ya_sorts, ya_ints, ya_classes, ya_ready⟩ := v
  obtain ⟨g, hG, ⟨rfl, rfl, rfl, rfl, rfl, rfl, rfl, rfl, rfl, rfl⟩, ⟨rfl, rfl, rfl, rfl, rfl, rfl, rfl, rfl, rfl, rfl⟩, hgr, hW, hwhy, hL, hR⟩ := I
  exact ⟨hwhy.symm, ⟨g, hG, ⟨rfl, rfl, rfl, rfl, rfl, rfl, rfl, rfl, rfl, rfl⟩, ⟨rfl, rfl, rfl, rfl, rfl, rfl, rfl, rfl, rfl, rfl⟩, hgr, hW, hwhy, hL, hR⟩⟩
theorem i_vc_ended {k : Nat} {u : SX} {v : SY} (I : i_Rel k u v) (hk : k + 5 ≤ 2560) (v1 : Int32) : wpX_ended (fun r => wpY_ended (fun r' => r' = r ∧ i_Rel (k + 5) u v) v v1) u v1 := by
  obtain ⟨f_codeCount, f_coverCount, f_placeCount, f_tooMany, f_layAnswer, f_wrongKind, f_wrongKey, f_grown, f_frameDepth, f_frameThere, f_lastReason, f_valueDepth, f_objectCount, f_hasRun, f_begun, f_nowAt, f_endClass, a_parent, a_entry, a_code, a_operand, a_coverFrom, a_coverTo, a_coverTarget, a_coverClass, a_placeKey, a_placeDepth, a_cameWith, a_ledWith, a_faults, a_found, a_hasFound, a_kept, a_hasMap, a_frame, a_kind, a_value, a_objectClass, a_objectReady⟩ := u
  obtain ⟨yf_length, yf_handlers, yf_many, yf_there, yf_typed, yf_wrongNumber, yf_wrongPlace, yf_size, yf_why, yf_height, yf_objects, yf_line, yf_begun, yf_last, yf_end, ya_parent, ya_begin, ya_op, ya_arg, ya_from, ya_to, ya_target, ya_caught, ya_places, ya_heights, ya_gone, ya_worst, ya_frames, ya_maps, ya_high, ya_known, ya_mapped, ya_now, ya_sorts, ya_ints, ya_classes, ya_ready⟩ := v
  obtain ⟨g, hG, ⟨rfl, rfl, rfl, rfl, rfl, rfl, rfl, rfl, rfl, rfl⟩, ⟨rfl, rfl, rfl, rfl, rfl, rfl, rfl, rfl, rfl, rfl⟩, hgr, hW, hwhy, hL, hR⟩ := I
  have done : ∀ r : Int32, r = r ∧ i_Rel (k + 5) ((nI (mc_cc g)), (nI (mc_hc g)), f_placeCount, f_tooMany, f_layAnswer, f_wrongKind, f_wrongKey, f_grown, f_frameDepth, f_frameThere, f_lastReason, f_valueDepth, f_objectCount, f_hasRun, f_begun, f_nowAt, f_endClass, (ar (mc_p g)), (ar (mc_e g)), (ar (mc_o g)), (mc_r g), (ar (mc_f g)), (ar (mc_t g)), (ar (mc_g g)), (ar (mc_k g)), a_placeKey, a_placeDepth, a_cameWith, a_ledWith, a_faults, a_found, a_hasFound, a_kept, a_hasMap, a_frame, a_kind, a_value, a_objectClass, a_objectReady) ((nI (mc_cc g)), (nI (mc_hc g)), yf_many, yf_there, yf_typed, yf_wrongNumber, yf_wrongPlace, yf_size, yf_why, yf_height, yf_objects, yf_line, yf_begun, yf_last, yf_end, (ar (mc_p g)), (ar (mc_e g)), (ar (mc_o g)), (mc_r g), (ar (mc_f g)), (ar (mc_t g)), (ar (mc_g g)), (ar (mc_k g)), ya_places, ya_heights, ya_gone, ya_worst, ya_frames, ya_maps, ya_high, ya_known, ya_mapped, ya_now, ya_sorts, ya_ints, ya_classes, ya_ready) := fun r => ⟨rfl, ⟨g, hG, ⟨rfl, rfl, rfl, rfl, rfl, rfl, rfl, rfl, rfl, rfl⟩, ⟨rfl, rfl, rfl, rfl, rfl, rfl, rfl, rfl, rfl, rfl⟩, hgr, hW, hwhy, hL, hR⟩⟩
  unfold wpX_ended wpY_ended wY_ended_16
  dsimp only
  rcases hR with ⟨rfl, rfl, rfl⟩ | ⟨rfl, q, w, qk, qo, qd, qs, qc, qr, w4, rfl, rfl, rfl, rfl, rfl, rfl, rfl, rfl, rfl, rfl, RX, RY, hS, hn⟩
  · exact xb_0 (xb_0 (xb_m' (done _)))
  · have y : ∀ {A : Prop}, A → ((f_begun = 0 → ((0 ≤ nI w → A) ∧ (¬ 0 ≤ nI w → (-1 : Int32) = -1))) ∧ (¬ f_begun = 0 → A)) := fun a => br_c (fun _ => xb_n' (by omega) a) (fun _ => a)
    refine xb_1 (br_c (fun z => ?_) (fun z0 => br_c (fun z => ?_) (fun z1 => br_c (fun z => ?_) (fun z2 => ?_))))
    · have a := br_t (B := ((v1 = 1 → f_nowAt = f_begun ∧ True) ∧ True)) z (done f_begun)
      exact br_c (fun _ => xb_n' (by omega) (br_t z (done _))) (fun _ => br_t z (done _))
    · exact br_c (fun _ => xb_n' (by omega) (br_f z0 (br_t z (done _)))) (fun _ => br_f z0 (br_t z (done _)))
    · exact br_c (fun _ => xb_n' (by omega) (br_f z0 (br_f z1 (br_t z (done _))))) (fun _ => br_f z0 (br_f z1 (br_t z (done _))))
    · exact br_c (fun _ => xb_n' (by omega) (br_f z0 (br_f z1 (br_f z2 (done _))))) (fun _ => br_f z0 (br_f z1 (br_f z2 (done _))))
theorem i_vc_held {k : Nat} {u : SX} {v : SY} (I : i_Rel k u v) (hk : k + 5 ≤ 2560) (v1 : Int32) (v2 : Int32) : wpX_held (fun r => wpY_held (fun r' => r' = r ∧ i_Rel (k + 5) u v) v v1 (lw_bz v2)) u v1 (lw_bz v2) := by
  obtain ⟨f_codeCount, f_coverCount, f_placeCount, f_tooMany, f_layAnswer, f_wrongKind, f_wrongKey, f_grown, f_frameDepth, f_frameThere, f_lastReason, f_valueDepth, f_objectCount, f_hasRun, f_begun, f_nowAt, f_endClass, a_parent, a_entry, a_code, a_operand, a_coverFrom, a_coverTo, a_coverTarget, a_coverClass, a_placeKey, a_placeDepth, a_cameWith, a_ledWith, a_faults, a_found, a_hasFound, a_kept, a_hasMap, a_frame, a_kind, a_value, a_objectClass, a_objectReady⟩ := u
  obtain ⟨yf_length, yf_handlers, yf_many, yf_there, yf_typed, yf_wrongNumber, yf_wrongPlace, yf_size, yf_why, yf_height, yf_objects, yf_line, yf_begun, yf_last, yf_end, ya_parent, ya_begin, ya_op, ya_arg, ya_from, ya_to, ya_target, ya_caught, ya_places, ya_heights, ya_gone, ya_worst, ya_frames, ya_maps, ya_high, ya_known, ya_mapped, ya_now, ya_sorts, ya_ints, ya_classes, ya_ready⟩ := v
  obtain ⟨g, hG, ⟨rfl, rfl, rfl, rfl, rfl, rfl, rfl, rfl, rfl, rfl⟩, ⟨rfl, rfl, rfl, rfl, rfl, rfl, rfl, rfl, rfl, rfl⟩, hgr, hW, hwhy, hL, hR⟩ := I
  have done : ∀ r : Int32, r = r ∧ i_Rel (k + 5) ((nI (mc_cc g)), (nI (mc_hc g)), f_placeCount, f_tooMany, f_layAnswer, f_wrongKind, f_wrongKey, f_grown, f_frameDepth, f_frameThere, f_lastReason, f_valueDepth, f_objectCount, f_hasRun, f_begun, f_nowAt, f_endClass, (ar (mc_p g)), (ar (mc_e g)), (ar (mc_o g)), (mc_r g), (ar (mc_f g)), (ar (mc_t g)), (ar (mc_g g)), (ar (mc_k g)), a_placeKey, a_placeDepth, a_cameWith, a_ledWith, a_faults, a_found, a_hasFound, a_kept, a_hasMap, a_frame, a_kind, a_value, a_objectClass, a_objectReady) ((nI (mc_cc g)), (nI (mc_hc g)), yf_many, yf_there, yf_typed, yf_wrongNumber, yf_wrongPlace, yf_size, yf_why, yf_height, yf_objects, yf_line, yf_begun, yf_last, yf_end, (ar (mc_p g)), (ar (mc_e g)), (ar (mc_o g)), (mc_r g), (ar (mc_f g)), (ar (mc_t g)), (ar (mc_g g)), (ar (mc_k g)), ya_places, ya_heights, ya_gone, ya_worst, ya_frames, ya_maps, ya_high, ya_known, ya_mapped, ya_now, ya_sorts, ya_ints, ya_classes, ya_ready) := fun r => ⟨rfl, ⟨g, hG, ⟨rfl, rfl, rfl, rfl, rfl, rfl, rfl, rfl, rfl, rfl⟩, ⟨rfl, rfl, rfl, rfl, rfl, rfl, rfl, rfl, rfl, rfl⟩, hgr, hW, hwhy, hL, hR⟩⟩
  generalize lw_bz v2 = b
  unfold wpX_held
  dsimp only
  by_cases E : ∃ i, i < 4 ∧ v1 = nI i
  · obtain ⟨i, hi, rfl⟩ := E
    refine xb_n (by omega) (pk_le 4 i (fun z => by omega) (fun _ => ?_))
    rcases hR with ⟨rfl, rfl, rfl⟩ | ⟨rfl, q, w, qk, qo, qd, qs, qc, qr, w4, rfl, rfl, rfl, rfl, rfl, rfl, rfl, rfl, rfl, rfl, RX, RY, hS, hn⟩
    · have y : ∀ r : Int32, (b = 0 → r = -1) → (¬ b = 0 → r = 0) → wpY_held (fun r' => r' = r ∧ i_Rel (k + 5) ((nI (mc_cc g)), (nI (mc_hc g)), f_placeCount, f_tooMany, f_layAnswer, f_wrongKind, f_wrongKey, f_grown, f_frameDepth, f_frameThere, f_lastReason, f_valueDepth, f_objectCount, 0, f_begun, f_nowAt, f_endClass, (ar (mc_p g)), (ar (mc_e g)), (ar (mc_o g)), (mc_r g), (ar (mc_f g)), (ar (mc_t g)), (ar (mc_g g)), (ar (mc_k g)), a_placeKey, a_placeDepth, a_cameWith, a_ledWith, a_faults, a_found, a_hasFound, a_kept, a_hasMap, a_frame, a_kind, a_value, a_objectClass, a_objectReady) ((nI (mc_cc g)), (nI (mc_hc g)), yf_many, yf_there, yf_typed, yf_wrongNumber, yf_wrongPlace, yf_size, yf_why, yf_height, yf_objects, yf_line, 0, yf_last, (-1), (ar (mc_p g)), (ar (mc_e g)), (ar (mc_o g)), (mc_r g), (ar (mc_f g)), (ar (mc_t g)), (ar (mc_g g)), (ar (mc_k g)), ya_places, ya_heights, ya_gone, ya_worst, ya_frames, ya_maps, ya_high, ya_known, ya_mapped, ya_now, ya_sorts, ya_ints, ya_classes, ya_ready)) ((nI (mc_cc g)), (nI (mc_hc g)), yf_many, yf_there, yf_typed, yf_wrongNumber, yf_wrongPlace, yf_size, yf_why, yf_height, yf_objects, yf_line, 0, yf_last, (-1), (ar (mc_p g)), (ar (mc_e g)), (ar (mc_o g)), (mc_r g), (ar (mc_f g)), (ar (mc_t g)), (ar (mc_g g)), (ar (mc_k g)), ya_places, ya_heights, ya_gone, ya_worst, ya_frames, ya_maps, ya_high, ya_known, ya_mapped, ya_now, ya_sorts, ya_ints, ya_classes, ya_ready) (nI i) b := by
        intro r h1 h2
        unfold wpY_held wY_held_15
        dsimp only
        refine ya_in (n := 4) (by omega) (fun _ _ _ => xb_1 (xb_m' (br_c (fun z => ?_) (fun z => ?_)))) (fun z => absurd ⟨i, hi, rfl⟩ z)
        · rw [h1 z]; exact done _
        · rw [h2 z]; exact done _
      refine xb_0 ?_
      unfold wX_held_16
      exact br_c (fun z => y _ (fun _ => rfl) (fun n => absurd z n)) (fun z => y _ (fun n => absurd n z) (fun _ => rfl))
    · obtain ⟨r1, r2, r3⟩ := RX.1 i (by omega)
      obtain ⟨s1, s2⟩ := RY.1 i hi
      have kl := mr_kdl (rq_S q i)
      have sl : rq_S q i < 2 ^ 31 := by
        by_cases c : 4 ≤ rq_S q i
        · have := hS i hi c; omega
        · omega
      have ek : ar qk (nI i).toNatClampNeg = nI (mr_kd (rq_S q i)) := by rw [ar_at _ (by omega), r1]
      have ev : a_value (nI i).toNatClampNeg = a_value i := by rw [nI_clamp (by omega)]
      have es : ar qs (nI i).toNatClampNeg = nI (rq_S q i) := by rw [ar_at _ (by omega), s1]
      have ei : ya_ints (nI i).toNatClampNeg = ya_ints i := by rw [nI_clamp (by omega)]
      refine xb_1 ⟨vp_in_nI (by omega) (by omega), nm_r ev ?_⟩
      rw [ek]
      -- the reference
      have y : ∀ {post : Int32 → Prop}, ((b = 0 → ((3 ≤ nI (rq_S q i) → ((nI (rq_S q i) = 3 → (vp_in (nI i) 10 ∧ post (51 + ya_ints i))) ∧ (¬ nI (rq_S q i) = 3 → wpY_isReady (fun r_10 => ((r_10 = 0 → wY_held_92 post (nI (rq_S q i)) 11 (nI (mc_cc g)) (nI (mc_hc g)) yf_many yf_there yf_typed yf_wrongNumber yf_wrongPlace yf_size yf_why yf_height yf_objects f_nowAt f_begun f_endClass (nI w) (ar (mc_p g)) (ar (mc_e g)) (ar (mc_o g)) (mc_r g) (ar (mc_f g)) (ar (mc_t g)) (ar (mc_g g)) (ar (mc_k g)) ya_places ya_heights ya_gone ya_worst ya_frames ya_maps ya_high ya_known ya_mapped ya_now (ar qs) ya_ints (ar qc) (ar qr)) ∧ (¬ r_10 = 0 → wY_held_92 post (nI (rq_S q i)) 3 (nI (mc_cc g)) (nI (mc_hc g)) yf_many yf_there yf_typed yf_wrongNumber yf_wrongPlace yf_size yf_why yf_height yf_objects f_nowAt f_begun f_endClass (nI w) (ar (mc_p g)) (ar (mc_e g)) (ar (mc_o g)) (mc_r g) (ar (mc_f g)) (ar (mc_t g)) (ar (mc_g g)) (ar (mc_k g)) ya_places ya_heights ya_gone ya_worst ya_frames ya_maps ya_high ya_known ya_mapped ya_now (ar qs) ya_ints (ar qc) (ar qr)))) ((nI (mc_cc g)), (nI (mc_hc g)), yf_many, yf_there, yf_typed, yf_wrongNumber, yf_wrongPlace, yf_size, yf_why, yf_height, yf_objects, f_nowAt, f_begun, f_endClass, (nI w), (ar (mc_p g)), (ar (mc_e g)), (ar (mc_o g)), (mc_r g), (ar (mc_f g)), (ar (mc_t g)), (ar (mc_g g)), (ar (mc_k g)), ya_places, ya_heights, ya_gone, ya_worst, ya_frames, ya_maps, ya_high, ya_known, ya_mapped, ya_now, (ar qs), ya_ints, (ar qc), (ar qr)) (nI (rq_S q i))))) ∧ (¬ 3 ≤ nI (rq_S q i) → post (nI (rq_S q i))))) ∧ (¬ b = 0 → ((nI (rq_S q i) = 1 → (vp_in (nI i) 10 ∧ post (ya_ints i))) ∧ (¬ nI (rq_S q i) = 1 → post 0)))) → wpY_held post ((nI (mc_cc g)), (nI (mc_hc g)), yf_many, yf_there, yf_typed, yf_wrongNumber, yf_wrongPlace, yf_size, yf_why, yf_height, yf_objects, f_nowAt, f_begun, f_endClass, (nI w), (ar (mc_p g)), (ar (mc_e g)), (ar (mc_o g)), (mc_r g), (ar (mc_f g)), (ar (mc_t g)), (ar (mc_g g)), (ar (mc_k g)), ya_places, ya_heights, ya_gone, ya_worst, ya_frames, ya_maps, ya_high, ya_known, ya_mapped, ya_now, (ar qs), ya_ints, (ar qc), (ar qr)) (nI i) b := by
        intro post h
        unfold wpY_held
        dsimp only
        refine ya_in (n := 4) (by omega) (fun _ _ _ => xb_1 (xb_n' (by omega) ⟨vp_in_nI (by omega) (by omega), nm_r es ?_⟩)) (fun z => absurd ⟨i, hi, rfl⟩ z)
        rw [ei]
        exact h
      refine br_c (fun b0 => ⟨vp_in_nI (by omega) (by omega), ?_⟩) (fun b1 => ⟨vp_in_nI (by omega) (by omega), ?_⟩)
      · refine pk_eq (mr_kd (rq_S q i)) 4 (fun c => ?_) (fun c4 => ⟨vp_in_nI (by omega) (by omega), pk_eq (mr_kd (rq_S q i)) 3 (fun c => ?_) (fun c3 => ⟨vp_in_nI (by omega) (by omega), ?_⟩)⟩)
        · have c' := mr_kd4.mp c
          rw [r2 (Or.inr c')]
          refine y (br_t b0 (pk_le 3 (rq_S q i) (fun _ => pk_eq (rq_S q i) 3 (fun _ => ⟨vp_in_nI (by omega) (by omega), ?_⟩) (fun z => absurd c' z)) (fun z => by omega)))
          rw [s2 (Or.inr c')]; exact done _
        · have c' := mr_kd3.mp c
          have hj := hS i hi c'
          have e4 : nI (rq_S q i) - 4 = nI (rq_S q i - 4) := pk_sub (b := 4) c'
          rw [r3 c', ar_at qd (by omega), ar_at qo (by omega), (RX.2 _ hj).1, (RX.2 _ hj).2]
          have yb : ∀ {post : Int32 → Prop} (z0 : Int32), post (z0 + nI (rq_C q (rq_S q i - 4))) → wY_held_92 post (nI (rq_S q i)) z0 (nI (mc_cc g)) (nI (mc_hc g)) yf_many yf_there yf_typed yf_wrongNumber yf_wrongPlace yf_size yf_why yf_height yf_objects f_nowAt f_begun f_endClass (nI w) (ar (mc_p g)) (ar (mc_e g)) (ar (mc_o g)) (mc_r g) (ar (mc_f g)) (ar (mc_t g)) (ar (mc_g g)) (ar (mc_k g)) ya_places ya_heights ya_gone ya_worst ya_frames ya_maps ya_high ya_known ya_mapped ya_now (ar qs) ya_ints (ar qc) (ar qr) := by
            intro post z0 h
            unfold wY_held_92
            rw [e4, ar_at _ (by omega), (RY.2 _ hj).1]
            exact ⟨vp_in_nI (by omega) (by omega), h⟩
          refine ⟨vp_in_nI (by omega) (by omega), ?_⟩
          cases er : rq_R q (rq_S q i - 4) with
          | false =>
            refine xb_0 ⟨vp_in_nI (by omega) (by omega), y (br_t b0 (pk_le 3 (rq_S q i) (fun _ => pk_eq (rq_S q i) 3 (fun z => by omega) (fun _ => yr_rdy (q := q) (by omega) RY.2 (fun _ => hj) (fun z => ?_) (fun _ => xb_0 (yb 11 (done _))) sl)) (fun z => by omega)))⟩
            rw [er] at z; cases z.2
          | true =>
            refine xb_1 ⟨vp_in_nI (by omega) (by omega), y (br_t b0 (pk_le 3 (rq_S q i) (fun _ => pk_eq (rq_S q i) 3 (fun z => by omega) (fun _ => yr_rdy (q := q) (by omega) RY.2 (fun _ => hj) (fun _ => xb_1 (yb 3 (done _))) (fun z => absurd ⟨c', er⟩ z) sl)) (fun z => by omega)))⟩
        · have n3 : ¬ 4 ≤ rq_S q i := fun z => c3 (mr_kd3.mpr z)
          have n4 : ¬ rq_S q i = 3 := fun z => c4 (mr_kd4.mpr z)
          have e : mr_kd (rq_S q i) = rq_S q i := by unfold mr_kd; rw [if_pos (by omega)]
          rw [e]
          exact y (br_t b0 (pk_le 3 (rq_S q i) (fun z => by omega) (fun _ => done _)))
      · refine pk_eq (mr_kd (rq_S q i)) 1 (fun c => ?_) (fun c => ?_)
        · have c' := mr_kd1.mp c
          rw [r2 (Or.inl c')]
          refine y (br_f b1 (pk_eq (rq_S q i) 1 (fun _ => ⟨vp_in_nI (by omega) (by omega), ?_⟩) (fun z => absurd c' z)))
          rw [s2 (Or.inl c')]; exact done _
        · exact y (br_f b1 (pk_eq (rq_S q i) 1 (fun z => absurd (mr_kd1.mpr z) c) (fun _ => done _)))
  · have y : ∀ r : Int32, (b = 0 → r = -1) → (¬ b = 0 → r = 0) → wpY_held (fun r' => r' = r ∧ i_Rel (k + 5) ((nI (mc_cc g)), (nI (mc_hc g)), f_placeCount, f_tooMany, f_layAnswer, f_wrongKind, f_wrongKey, f_grown, f_frameDepth, f_frameThere, f_lastReason, f_valueDepth, f_objectCount, f_hasRun, f_begun, f_nowAt, f_endClass, (ar (mc_p g)), (ar (mc_e g)), (ar (mc_o g)), (mc_r g), (ar (mc_f g)), (ar (mc_t g)), (ar (mc_g g)), (ar (mc_k g)), a_placeKey, a_placeDepth, a_cameWith, a_ledWith, a_faults, a_found, a_hasFound, a_kept, a_hasMap, a_frame, a_kind, a_value, a_objectClass, a_objectReady) ((nI (mc_cc g)), (nI (mc_hc g)), yf_many, yf_there, yf_typed, yf_wrongNumber, yf_wrongPlace, yf_size, yf_why, yf_height, yf_objects, yf_line, yf_begun, yf_last, yf_end, (ar (mc_p g)), (ar (mc_e g)), (ar (mc_o g)), (mc_r g), (ar (mc_f g)), (ar (mc_t g)), (ar (mc_g g)), (ar (mc_k g)), ya_places, ya_heights, ya_gone, ya_worst, ya_frames, ya_maps, ya_high, ya_known, ya_mapped, ya_now, ya_sorts, ya_ints, ya_classes, ya_ready)) ((nI (mc_cc g)), (nI (mc_hc g)), yf_many, yf_there, yf_typed, yf_wrongNumber, yf_wrongPlace, yf_size, yf_why, yf_height, yf_objects, yf_line, yf_begun, yf_last, yf_end, (ar (mc_p g)), (ar (mc_e g)), (ar (mc_o g)), (mc_r g), (ar (mc_f g)), (ar (mc_t g)), (ar (mc_g g)), (ar (mc_k g)), ya_places, ya_heights, ya_gone, ya_worst, ya_frames, ya_maps, ya_high, ya_known, ya_mapped, ya_now, ya_sorts, ya_ints, ya_classes, ya_ready) v1 b := by
      intro r h1 h2
      unfold wpY_held wY_held_15
      dsimp only
      refine ya_in (n := 4) (by omega) (fun j hj e => absurd ⟨j, hj, e⟩ E) (fun _ => xb_0 (br_c (fun z => ?_) (fun z => ?_)))
      · rw [h1 z]; exact done _
      · rw [h2 z]; exact done _
    have x16 : wX_held_16 (fun r => wpY_held (fun r' => r' = r ∧ i_Rel (k + 5) ((nI (mc_cc g)), (nI (mc_hc g)), f_placeCount, f_tooMany, f_layAnswer, f_wrongKind, f_wrongKey, f_grown, f_frameDepth, f_frameThere, f_lastReason, f_valueDepth, f_objectCount, f_hasRun, f_begun, f_nowAt, f_endClass, (ar (mc_p g)), (ar (mc_e g)), (ar (mc_o g)), (mc_r g), (ar (mc_f g)), (ar (mc_t g)), (ar (mc_g g)), (ar (mc_k g)), a_placeKey, a_placeDepth, a_cameWith, a_ledWith, a_faults, a_found, a_hasFound, a_kept, a_hasMap, a_frame, a_kind, a_value, a_objectClass, a_objectReady) ((nI (mc_cc g)), (nI (mc_hc g)), yf_many, yf_there, yf_typed, yf_wrongNumber, yf_wrongPlace, yf_size, yf_why, yf_height, yf_objects, yf_line, yf_begun, yf_last, yf_end, (ar (mc_p g)), (ar (mc_e g)), (ar (mc_o g)), (mc_r g), (ar (mc_f g)), (ar (mc_t g)), (ar (mc_g g)), (ar (mc_k g)), ya_places, ya_heights, ya_gone, ya_worst, ya_frames, ya_maps, ya_high, ya_known, ya_mapped, ya_now, ya_sorts, ya_ints, ya_classes, ya_ready)) ((nI (mc_cc g)), (nI (mc_hc g)), yf_many, yf_there, yf_typed, yf_wrongNumber, yf_wrongPlace, yf_size, yf_why, yf_height, yf_objects, yf_line, yf_begun, yf_last, yf_end, (ar (mc_p g)), (ar (mc_e g)), (ar (mc_o g)), (mc_r g), (ar (mc_f g)), (ar (mc_t g)), (ar (mc_g g)), (ar (mc_k g)), ya_places, ya_heights, ya_gone, ya_worst, ya_frames, ya_maps, ya_high, ya_known, ya_mapped, ya_now, ya_sorts, ya_ints, ya_classes, ya_ready) v1 b) b (nI (mc_cc g)) (nI (mc_hc g)) f_placeCount f_tooMany f_layAnswer f_wrongKind f_wrongKey f_grown f_frameDepth f_frameThere f_lastReason f_valueDepth f_objectCount f_hasRun f_begun f_nowAt f_endClass (ar (mc_p g)) (ar (mc_e g)) (ar (mc_o g)) (mc_r g) (ar (mc_f g)) (ar (mc_t g)) (ar (mc_g g)) (ar (mc_k g)) a_placeKey a_placeDepth a_cameWith a_ledWith a_faults a_found a_hasFound a_kept a_hasMap a_frame a_kind a_value a_objectClass a_objectReady := by
      unfold wX_held_16
      exact br_c (fun z => y _ (fun _ => rfl) (fun n => absurd z n)) (fun z => y _ (fun n => absurd n z) (fun _ => rfl))
    refine br_c (fun _ => x16) (fun a => br_c (fun _ => x16) (fun c => ?_))
    obtain ⟨j, hj, e⟩ := zr_rng0 (hi := 4) a (Int32.not_le.mp c) (by omega)
    exact absurd ⟨j, hj, e⟩ E
end
end
section
/-! ===== lay, check, run ===== -/
section
theorem mm_M {m : Nat} {Q : Nat → Prop} {a b : Nat → Nat} (ha : mm_is m Q a) (hb : mm_is m Q b) : (∀ k, k < m → a k = (decide (a k = 1)).toNat) ∧ (∀ k, k < m → b k = (decide (a k = 1)).toNat) ∧ (∀ k, k < m → (decide (a k = 1) = true ↔ Q k)) := by
  refine ⟨fun k hk => ?_, fun k hk => ?_, fun k hk => ?_⟩
  · rcases ha k hk with ⟨x, _⟩ | ⟨x, _⟩ <;> rw [x] <;> rfl
  · rcases ha k hk with ⟨x, y⟩ | ⟨x, y⟩ <;> rcases hb k hk with ⟨z, w⟩ | ⟨z, w⟩
    · rw [x, z]; rfl
    · exact absurd y w
    · exact absurd w y
    · rw [x, z]; rfl
  · rcases ha k hk with ⟨x, y⟩ | ⟨x, y⟩
    · rw [x]; exact ⟨fun _ => y, fun _ => rfl⟩
    · rw [x]; exact ⟨fun z => (by cases z), fun z => absurd z y⟩
theorem i_vc_lay {k : Nat} {u : SX} {v : SY} (I : i_Rel k u v) (hk : k + 5 ≤ 2560) : wpX_lay (fun r u' => wpY_lay (fun r' v' => r' = r ∧ i_Rel (k + 5) u' v') v) u := by
  obtain ⟨f_codeCount, f_coverCount, f_placeCount, f_tooMany, f_layAnswer, f_wrongKind, f_wrongKey, f_grown, f_frameDepth, f_frameThere, f_lastReason, f_valueDepth, f_objectCount, f_hasRun, f_begun, f_nowAt, f_endClass, a_parent, a_entry, a_code, a_operand, a_coverFrom, a_coverTo, a_coverTarget, a_coverClass, a_placeKey, a_placeDepth, a_cameWith, a_ledWith, a_faults, a_found, a_hasFound, a_kept, a_hasMap, a_frame, a_kind, a_value, a_objectClass, a_objectReady⟩ := u
  obtain ⟨yf_length, yf_handlers, yf_many, yf_there, yf_typed, yf_wrongNumber, yf_wrongPlace, yf_size, yf_why, yf_height, yf_objects, yf_line, yf_begun, yf_last, yf_end, ya_parent, ya_begin, ya_op, ya_arg, ya_from, ya_to, ya_target, ya_caught, ya_places, ya_heights, ya_gone, ya_worst, ya_frames, ya_maps, ya_high, ya_known, ya_mapped, ya_now, ya_sorts, ya_ints, ya_classes, ya_ready⟩ := v
  obtain ⟨g, hG, ⟨rfl, rfl, rfl, rfl, rfl, rfl, rfl, rfl, rfl, rfl⟩, ⟨rfl, rfl, rfl, rfl, rfl, rfl, rfl, rfl, rfl, rfl⟩, hgr, hW, hwhy, hL, hR⟩ := I
  obtain ⟨gr, rfl⟩ := hgr
  clear hL hW hwhy
  obtain ⟨x1, rfl⟩ := ar_ex a_placeKey
  obtain ⟨x2, rfl⟩ := ar_ex a_placeDepth
  obtain ⟨x3, rfl⟩ := ar_ex a_cameWith
  obtain ⟨x4, rfl⟩ := ar_ex a_ledWith
  obtain ⟨x5, rfl⟩ := ar_ex a_faults
  obtain ⟨x6, rfl⟩ := ar_ex a_found
  obtain ⟨x7, rfl⟩ := ar_ex a_hasFound
  obtain ⟨x8, rfl⟩ := ar_ex a_kept
  obtain ⟨x9, rfl⟩ := ar_ex a_hasMap
  obtain ⟨x10, rfl⟩ := ar_ex a_frame
  obtain ⟨y1, rfl⟩ := ar_ex ya_places
  obtain ⟨y2, rfl⟩ := ar_ex ya_heights
  obtain ⟨y3, rfl⟩ := ar_ex ya_gone
  obtain ⟨y4, rfl⟩ := ar_ex ya_worst
  obtain ⟨y5, rfl⟩ := ar_ex ya_frames
  obtain ⟨y6, rfl⟩ := ar_ex ya_maps
  obtain ⟨y7, rfl⟩ := ar_ex ya_high
  obtain ⟨y8, rfl⟩ := ar_ex ya_known
  obtain ⟨y9, rfl⟩ := ar_ex ya_mapped
  obtain ⟨y10, rfl⟩ := ar_ex ya_now
  refine xl_lay hG (fun nM => ?_) (fun hM many tm kr D w l f => ?_) (fun hM nm p n F V tm kr D w l f => ?_) (fun hM nm noB m P D kr Y hkr hm hmis tm dp th gr' w l f fd hf kp fr => ⟨fun hn hz => ?_, fun T' hT A hkf => ?_⟩)
  · refine yl_lay (m := 0) (P := fun _ => 0) (D := fun _ => 0) hG (fun hM => absurd hM nM) (fun _ => ?_) (fun hM => absurd hM nM) (fun hM => absurd hM nM) (fun hM => absurd hM nM)
    exact ⟨rfl, g, hG, ⟨rfl, rfl, rfl, rfl, rfl, rfl, rfl, rfl, rfl, rfl⟩, ⟨rfl, rfl, rfl, rfl, rfl, rfl, rfl, rfl, rfl, rfl⟩, ⟨gr, rfl⟩, Or.inl ⟨by decide, rfl⟩, rfl, Or.inl ⟨rfl, rfl⟩, hR⟩
  · refine yl_lay (m := 0) (P := fun _ => 0) (D := fun _ => 0) hG (fun _ nm => absurd many nm) (fun nM => absurd hM nM) (fun _ _ mn K w l f => ?_) (fun _ nm => absurd many nm) (fun _ nm => absurd many nm)
    exact ⟨rfl, g, hG, ⟨rfl, rfl, rfl, rfl, rfl, rfl, rfl, rfl, rfl, rfl⟩, ⟨rfl, rfl, rfl, rfl, rfl, rfl, rfl, rfl, rfl, rfl⟩, ⟨gr, rfl⟩, Or.inr ⟨rfl, Or.inl ⟨rfl, rfl, rfl⟩⟩, rfl, Or.inl ⟨rfl, rfl⟩, hR⟩
  · refine yl_lay (m := 0) (P := fun _ => 0) (D := fun _ => 0) hG (fun _ _ noB => absurd F.1 (noB p n)) (fun nM => absurd hM nM) (fun _ many => absurd many nm) (fun _ _ p' n' F' hp' mn K w l f => ?_) (fun _ _ noB => absurd F.1 (noB p n))
    obtain ⟨rfl, rfl⟩ := ml_Funi F F'
    have n0 := ml_B0 F.1
    exact ⟨rfl, g, hG, ⟨rfl, rfl, rfl, rfl, rfl, rfl, rfl, rfl, rfl, rfl⟩, ⟨rfl, rfl, rfl, rfl, rfl, rfl, rfl, rfl, rfl, rfl⟩, ⟨gr, rfl⟩, Or.inr ⟨rfl, Or.inr ⟨p, n, by omega, by omega, hp', rfl, rfl, rfl, rfl⟩⟩, rfl, Or.inl ⟨rfl, rfl⟩, hR⟩
  · have hDs : ∀ i, i < m → D i ≤ 6 := fun i hi => mg_D hG hM Y hi
    have hm40 := Y.1
    refine yl_lay (m := m) (P := P) (D := D) hG (fun _ _ _ => Y) (fun nM => absurd hM nM) (fun _ many => absurd many nm) (fun _ _ p n F => absurd F.1 (noB p n)) (fun _ _ _ pl hi hpl hhi md hmd sz w l f fd mp hf nw => ⟨fun _ hz2 => ?_, fun T2 hT2 => (by rw [hn] at hT2; cases hT2)⟩)
    obtain ⟨e1, e2, e3⟩ := mm_M hmis hmd
    exact ⟨rfl, g, hG, ⟨rfl, rfl, rfl, rfl, rfl, rfl, rfl, rfl, rfl, rfl⟩, ⟨rfl, rfl, rfl, rfl, rfl, rfl, rfl, rfl, rfl, rfl⟩, ⟨gr', rfl⟩, Or.inl ⟨by decide, rfl⟩, rfl, Or.inr ⟨rfl, hM, m, P, D, kr, pl, hi, hm, md, kp, mp, fun k => decide (hm k = 1), fun _ _ => 0, Y, rfl, rfl, rfl, rfl, rfl, rfl, rfl, rfl, rfl, rfl, hkr, hpl, hhi, e1, e2, e3, fun q hq s hs => hz _ (by have := hDs q hq; omega), fun q hq s hs => hz2 _ (by have := hDs q hq; omega), fun _ _ => by show 0 ≤ 90; omega, Or.inr ⟨by decide, rfl⟩⟩, hR⟩
  · have hDs : ∀ i, i < m → D i ≤ 6 := fun i hi => mg_D hG hM Y hi
    have hm40 := Y.1
    have mub := mf_mu_b m (mf_T0 g) hm40
    obtain ⟨known, T90⟩ := mi_fin hG Y 4000 (mf_T0 g) T' (by omega) rfl (mf_T0_90 hG) hT
    refine yl_lay (m := m) (P := P) (D := D) hG (fun _ _ _ => Y) (fun nM => absurd hM nM) (fun _ many => absurd many nm) (fun _ _ p n F => absurd F.1 (noB p n)) (fun _ _ _ pl hi hpl hhi md hmd sz w l f fd2 mp hf2 nw => ⟨fun hn2 => (by rw [hT] at hn2; cases hn2), fun T2 hT2 A2 hk2 => ?_⟩)
    obtain ⟨e1, e2, e3⟩ := mm_M hmis hmd
    have eT : T2 = T' := Option.some.inj (hT2.symm.trans hT)
    subst eT
    have a1 : mk_A m D T2.2 fd := fun q hq s hs => A.2 q hq (known q hq) s hs
    have a2 : mk_A m D T2.2 fd2 := fun q hq s hs => A2.2 q hq (known q hq) s hs
    exact ⟨rfl, g, hG, ⟨rfl, rfl, rfl, rfl, rfl, rfl, rfl, rfl, rfl, rfl⟩, ⟨rfl, rfl, rfl, rfl, rfl, rfl, rfl, rfl, rfl, rfl⟩, ⟨gr', rfl⟩, Or.inl ⟨by decide, rfl⟩, rfl, Or.inr ⟨rfl, hM, m, P, D, kr, pl, hi, hm, md, kp, mp, fun k => decide (hm k = 1), T2.2, Y, rfl, rfl, rfl, rfl, rfl, rfl, rfl, rfl, rfl, rfl, hkr, hpl, hhi, e1, e2, e3, fun q hq s hs => (hkf _ (by have := hDs q hq; omega)).trans (a1 q hq s hs), fun q hq s hs => (hk2 _ (by have := hDs q hq; omega)).trans (a2 q hq s hs), T90, Or.inl ⟨rfl, rfl, fd, fd2, T2.2, rfl, rfl, a1, a2⟩⟩, hR⟩
theorem i_vc_check {k : Nat} {u : SX} {v : SY} (I : i_Rel k u v) (hk : k + 5 ≤ 2560) : wpX_check (fun r u' => wpY_check (fun r' v' => r' = r ∧ i_Rel (k + 5) u' v') v) u := by
  obtain ⟨f_codeCount, f_coverCount, f_placeCount, f_tooMany, f_layAnswer, f_wrongKind, f_wrongKey, f_grown, f_frameDepth, f_frameThere, f_lastReason, f_valueDepth, f_objectCount, f_hasRun, f_begun, f_nowAt, f_endClass, a_parent, a_entry, a_code, a_operand, a_coverFrom, a_coverTo, a_coverTarget, a_coverClass, a_placeKey, a_placeDepth, a_cameWith, a_ledWith, a_faults, a_found, a_hasFound, a_kept, a_hasMap, a_frame, a_kind, a_value, a_objectClass, a_objectReady⟩ := u
  obtain ⟨yf_length, yf_handlers, yf_many, yf_there, yf_typed, yf_wrongNumber, yf_wrongPlace, yf_size, yf_why, yf_height, yf_objects, yf_line, yf_begun, yf_last, yf_end, ya_parent, ya_begin, ya_op, ya_arg, ya_from, ya_to, ya_target, ya_caught, ya_places, ya_heights, ya_gone, ya_worst, ya_frames, ya_maps, ya_high, ya_known, ya_mapped, ya_now, ya_sorts, ya_ints, ya_classes, ya_ready⟩ := v
  obtain ⟨g, hG, ⟨rfl, rfl, rfl, rfl, rfl, rfl, rfl, rfl, rfl, rfl⟩, ⟨rfl, rfl, rfl, rfl, rfl, rfl, rfl, rfl, rfl, rfl⟩, hgr, hW, hwhy, hL, hR⟩ := I
  rcases hL with ⟨rfl, rfl⟩ | ⟨rfl, hM, ⟨m, P, D, kr, ql, qh, qm, qd, qk, qp, M, K, hY, rfl, rfl, rfl, rfl, rfl, rfl, rfl, rfl, rfl, rfl, hkr, hpl, hhi, hqm, hqd, hMp, hA, hB, K90, hty⟩⟩
  · unfold wpX_check wpY_check
    dsimp only
    exact br_t rfl (br_t rfl ⟨rfl, g, hG, ⟨rfl, rfl, rfl, rfl, rfl, rfl, rfl, rfl, rfl, rfl⟩, ⟨rfl, rfl, rfl, rfl, rfl, rfl, rfl, rfl, rfl, rfl⟩, hgr, hW, rfl, Or.inl ⟨rfl, rfl⟩, hR⟩)
  · obtain ⟨fr, rfl⟩ := ar_ex a_frame
    obtain ⟨nw, rfl⟩ := ar_ex ya_now
    refine xl_check hG hM hY hkr hqm hMp hA K90 (fun r hr dp th fr' => ?_)
    refine yl_check hG hM hY hpl hhi (by decide) hqd hMp hB K90 (fun r2 hr2 sz nw' => ?_)
    have er : r2 = r := hr2.symm.trans hr
    subst er
    exact ⟨rfl, g, hG, ⟨rfl, rfl, rfl, rfl, rfl, rfl, rfl, rfl, rfl, rfl⟩, ⟨rfl, rfl, rfl, rfl, rfl, rfl, rfl, rfl, rfl, rfl⟩, hgr, hW, rfl, Or.inr ⟨rfl, hM, m, P, D, kr, ql, qh, qm, qd, qk, qp, M, K, hY, rfl, rfl, rfl, rfl, rfl, rfl, rfl, rfl, rfl, rfl, hkr, hpl, hhi, hqm, hqd, hMp, hA, hB, K90, hty⟩, hR⟩
theorem i_vc_run {k : Nat} {u : SX} {v : SY} (I : i_Rel k u v) (hk : k + 5 ≤ 2560) (v1 : Int32) : wpX_run (fun r u' => wpY_run (fun r' v' => r' = r ∧ i_Rel (k + 5) u' v') v v1) u v1 := by
  obtain ⟨f_codeCount, f_coverCount, f_placeCount, f_tooMany, f_layAnswer, f_wrongKind, f_wrongKey, f_grown, f_frameDepth, f_frameThere, f_lastReason, f_valueDepth, f_objectCount, f_hasRun, f_begun, f_nowAt, f_endClass, a_parent, a_entry, a_code, a_operand, a_coverFrom, a_coverTo, a_coverTarget, a_coverClass, a_placeKey, a_placeDepth, a_cameWith, a_ledWith, a_faults, a_found, a_hasFound, a_kept, a_hasMap, a_frame, a_kind, a_value, a_objectClass, a_objectReady⟩ := u
  obtain ⟨yf_length, yf_handlers, yf_many, yf_there, yf_typed, yf_wrongNumber, yf_wrongPlace, yf_size, yf_why, yf_height, yf_objects, yf_line, yf_begun, yf_last, yf_end, ya_parent, ya_begin, ya_op, ya_arg, ya_from, ya_to, ya_target, ya_caught, ya_places, ya_heights, ya_gone, ya_worst, ya_frames, ya_maps, ya_high, ya_known, ya_mapped, ya_now, ya_sorts, ya_ints, ya_classes, ya_ready⟩ := v
  obtain ⟨g, hG, ⟨rfl, rfl, rfl, rfl, rfl, rfl, rfl, rfl, rfl, rfl⟩, ⟨rfl, rfl, rfl, rfl, rfl, rfl, rfl, rfl, rfl, rfl⟩, hgr, hW, hwhy, hL, hR⟩ := I
  have done : (-1 : Int32) = -1 ∧ i_Rel (k + 5) ((nI (mc_cc g)), (nI (mc_hc g)), f_placeCount, f_tooMany, f_layAnswer, f_wrongKind, f_wrongKey, f_grown, f_frameDepth, f_frameThere, f_lastReason, f_valueDepth, f_objectCount, f_hasRun, f_begun, f_nowAt, f_endClass, (ar (mc_p g)), (ar (mc_e g)), (ar (mc_o g)), (mc_r g), (ar (mc_f g)), (ar (mc_t g)), (ar (mc_g g)), (ar (mc_k g)), a_placeKey, a_placeDepth, a_cameWith, a_ledWith, a_faults, a_found, a_hasFound, a_kept, a_hasMap, a_frame, a_kind, a_value, a_objectClass, a_objectReady) ((nI (mc_cc g)), (nI (mc_hc g)), yf_many, yf_there, yf_typed, yf_wrongNumber, yf_wrongPlace, yf_size, yf_why, yf_height, yf_objects, yf_line, yf_begun, yf_last, yf_end, (ar (mc_p g)), (ar (mc_e g)), (ar (mc_o g)), (mc_r g), (ar (mc_f g)), (ar (mc_t g)), (ar (mc_g g)), (ar (mc_k g)), ya_places, ya_heights, ya_gone, ya_worst, ya_frames, ya_maps, ya_high, ya_known, ya_mapped, ya_now, ya_sorts, ya_ints, ya_classes, ya_ready) := ⟨rfl, ⟨g, hG, ⟨rfl, rfl, rfl, rfl, rfl, rfl, rfl, rfl, rfl, rfl⟩, ⟨rfl, rfl, rfl, rfl, rfl, rfl, rfl, rfl, rfl, rfl⟩, hgr, hW, hwhy, hL, hR⟩⟩
  unfold wpX_run
  dsimp only
  by_cases E : ∃ n, 1 ≤ n ∧ n < 201 ∧ v1 = nI n
  · obtain ⟨n, n1, n2, rfl⟩ := E
    refine pk_lt n 1 (fun z => by omega) (fun _ => pk_lt 200 n (fun z => by omega) (fun _ => xa_lo hG (fun nM => xb_1 ?_) (fun hM => xb_0 ?_)))
    · unfold wpY_run
      dsimp only
      exact pk_lt n 1 (fun z => by omega) (fun _ => pk_lt 200 n (fun z => by omega) (fun _ => ya_im hG (fun hM => absurd hM nM) (fun _ => xb_0 done)))
    · obtain ⟨kd, rfl⟩ := ar_ex a_kind
      obtain ⟨oc, rfl⟩ := ar_ex a_objectClass
      obtain ⟨od, rfl⟩ := ar_ex a_objectReady
      obtain ⟨st, rfl⟩ := ar_ex ya_sorts
      obtain ⟨cl, rfl⟩ := ar_ex ya_classes
      obtain ⟨rd, rfl⟩ := ar_ex ya_ready
      have n4 : rq_n (mr_b0 g 4) ≤ 4 + 0 := (mr_b0k hG 4).1
      have ok4 := mr_b0ok hG
      obtain ⟨w0, hw0, hw4⟩ := mr_run_end (g := g) (most := n) n 0 (mr_b0 g 4) (by omega)
      refine xr_bv hG (fun kd1 oc1 od1 vl1 R1 => ⟨n + 3, ?_⟩)
      refine xr_loop hG hM (by omega) (mr_run g n (n + 1) 0 (mr_b0 g 4)) (fun w ew kd2 oc2 od2 vl2 R2 ok2 hn2 => ?_) n 0 (mr_b0 g 4) kd1 oc1 od1 vl1 (by omega) R1 ok4 n4 rfl
      unfold wpY_run
      dsimp only
      refine pk_lt n 1 (fun z => by omega) (fun _ => pk_lt 200 n (fun z => by omega) (fun _ => ya_im hG (fun _ => xb_1 ?_) (fun nM => absurd hM nM)))
      refine yr_bv hG (fun st1 cl1 rd1 it1 S1 => ⟨n + 3, ?_⟩)
      refine yr_loop hG hM (by omega) (mr_run g n (n + 1) 0 (mr_b0 g 4)) (fun w' ew' st2 cl2 rd2 it2 hh S2 => ?_) n 0 (mr_b0 g 4) st1 cl1 rd1 it1 (by omega) S1 ok4 n4 rfl
      have e : w' = w := by omega
      subst e
      exact ⟨rfl, g, hG, ⟨rfl, rfl, rfl, rfl, rfl, rfl, rfl, rfl, rfl, rfl⟩, ⟨rfl, rfl, rfl, rfl, rfl, rfl, rfl, rfl, rfl, rfl⟩, hgr, hW, hwhy, hL, Or.inr ⟨rfl, (mr_run g n (n + 1) 0 (mr_b0 g 4)).1, w', kd2, oc2, od2, st2, cl2, rd2, by omega, rfl, rfl, rfl, rfl, rfl, rfl, rfl, rfl, rfl, rfl, R2, S2, fun s hs => (ok2.2.2.1 s (by omega)).1, hn2⟩⟩
  · have y : wpY_run (fun r' v' => r' = -1 ∧ i_Rel (k + 5) ((nI (mc_cc g)), (nI (mc_hc g)), f_placeCount, f_tooMany, f_layAnswer, f_wrongKind, f_wrongKey, f_grown, f_frameDepth, f_frameThere, f_lastReason, f_valueDepth, f_objectCount, f_hasRun, f_begun, f_nowAt, f_endClass, (ar (mc_p g)), (ar (mc_e g)), (ar (mc_o g)), (mc_r g), (ar (mc_f g)), (ar (mc_t g)), (ar (mc_g g)), (ar (mc_k g)), a_placeKey, a_placeDepth, a_cameWith, a_ledWith, a_faults, a_found, a_hasFound, a_kept, a_hasMap, a_frame, a_kind, a_value, a_objectClass, a_objectReady) v') ((nI (mc_cc g)), (nI (mc_hc g)), yf_many, yf_there, yf_typed, yf_wrongNumber, yf_wrongPlace, yf_size, yf_why, yf_height, yf_objects, yf_line, yf_begun, yf_last, yf_end, (ar (mc_p g)), (ar (mc_e g)), (ar (mc_o g)), (mc_r g), (ar (mc_f g)), (ar (mc_t g)), (ar (mc_g g)), (ar (mc_k g)), ya_places, ya_heights, ya_gone, ya_worst, ya_frames, ya_maps, ya_high, ya_known, ya_mapped, ya_now, ya_sorts, ya_ints, ya_classes, ya_ready) v1 := by
      unfold wpY_run
      dsimp only
      refine br_c (fun _ => done) (fun a => br_c (fun _ => done) (fun b => ?_))
      obtain ⟨j, h1, h2, e⟩ := zr_rng (lo := 1) (hi := 201) a (zr_le (n := 200) (Int32.not_lt.mp b) (by omega)) (by omega) (by omega)
      exact absurd ⟨j, h1, h2, e⟩ E
    refine br_c (fun _ => y) (fun a => br_c (fun _ => y) (fun b => ?_))
    obtain ⟨j, h1, h2, e⟩ := zr_rng (lo := 1) (hi := 201) a (zr_le (n := 200) (Int32.not_lt.mp b) (by omega)) (by omega) (by omega)
    exact absurd ⟨j, h1, h2, e⟩ E
end
end
