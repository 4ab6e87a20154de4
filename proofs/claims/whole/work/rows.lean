section
/-! rows of the kit, pasted -/
section
theorem pk_us {f : Nat → Int32} {k : Nat} {x : Int32} : upd f k x k = x := if_pos rfl
theorem pk_un {f : Nat → Int32} {k j : Nat} {x : Int32} (h : j ≠ k) : upd f k x j = f j := if_neg h
theorem pk_sub {a b : Nat} (h : b ≤ a) : nI a - nI b = nI (a - b) := by
  obtain ⟨c, rfl⟩ : ∃ c, a = c + b := ⟨a - b, by omega⟩
  rw [← nI_add, Int32.add_sub_cancel, Nat.add_sub_cancel]
theorem pk_m1 (n : Nat) : nI (n + 1) + (-1) = nI n := by
  rw [← nI_1, Int32.add_assoc, show (1 : Int32) + (-1) = 0 from rfl, Int32.add_zero]
theorem pk_mul (a b : Nat) : nI a * nI b = nI (a * b) := (Int32.ofNat_mul a b).symm
theorem pk_div {a d : Nat} (ha : a < 2 ^ 31) (h0 : 0 < d) (hd : d < 2 ^ 31) : nI a / nI d = nI (a / d) := by
  apply Int32.toInt_inj.mp
  rw [lg_idiv_nonneg (by rw [nI_toInt ha]; omega) (by rw [nI_toInt hd]; omega), nI_toInt ha, nI_toInt hd, nI_toInt (Nat.lt_of_le_of_lt (Nat.div_le_self a d) ha)]
  first | rfl | exact (Int.natCast_ediv _ _).symm
theorem pk_rem {a d : Nat} (ha : a < 2 ^ 31) (h0 : 0 < d) (hd : d < 2 ^ 31) : nI a - nI a / nI d * nI d = nI (a % d) := by
  rw [pk_div ha h0 hd, pk_mul, pk_sub (Nat.div_mul_le_self a d)]
  exact congrArg nI (by have := Nat.div_add_mod' a d; omega)
theorem pk_sub_toInt {a b : Nat} (ha : a < 2 ^ 30) (hb : b < 2 ^ 30) : (nI a - nI b).toInt = (a : Int) - b := by
  rw [Int32.toInt_sub, nI_toInt (by omega), nI_toInt (by omega)]
  exact Int.bmod_eq_of_le (by omega) (by omega)
theorem pk_sneg {a b : Nat} (hb : b < 2 ^ 30) (h : a < b) : nI a - nI b < 0 := by
  rw [Int32.lt_iff_toInt_lt, pk_sub_toInt (by omega) hb, show (0 : Int32).toInt = 0 from by decide]
  omega
theorem pk_ix (x : Int32) {n : Nat} (hn : n < 2 ^ 31) : x < 0 ∨ nI n ≤ x ∨ ∃ j : Nat, j < n ∧ x = nI j := by
  by_cases h : x < 0
  · exact Or.inl h
  · obtain ⟨j, hj, rfl⟩ := nI_of h
    by_cases h2 : j < n
    · exact Or.inr (Or.inr ⟨j, h2, rfl⟩)
    · exact Or.inr (Or.inl (nI_le (by omega) hj))
theorem pk_le {x y : Int32} {A B : Prop} (a b : Nat) (f : a ≤ b → A) (g : b < a → B) (hx : x = nI a := by rfl) (hy : y = nI b := by rfl) (ha : a < 2 ^ 31 := by omega) (hb : b < 2 ^ 31 := by omega) : (x ≤ y → A) ∧ (¬ x ≤ y → B) := by
  subst hx hy
  rw [nI_leI ha hb]
  exact ⟨f, fun z => g (by omega)⟩
theorem pk_lt {x y : Int32} {A B : Prop} (a b : Nat) (f : a < b → A) (g : b ≤ a → B) (hx : x = nI a := by rfl) (hy : y = nI b := by rfl) (ha : a < 2 ^ 31 := by omega) (hb : b < 2 ^ 31 := by omega) : (x < y → A) ∧ (¬ x < y → B) := by
  subst hx hy
  rw [nI_ltI ha hb]
  exact ⟨f, fun z => g (by omega)⟩
theorem pk_eq {x y : Int32} {A B : Prop} (a b : Nat) (f : a = b → A) (g : a ≠ b → B) (hx : x = nI a := by rfl) (hy : y = nI b := by rfl) (ha : a < 2 ^ 31 := by omega) (hb : b < 2 ^ 31 := by omega) : (x = y → A) ∧ (¬ x = y → B) := by
  subst hx hy
  rw [nI_eq ha hb]
  exact ⟨f, g⟩
theorem pk_in {x : Int32} (n N : Nat) (h : n < N) (hx : x = nI n := by rfl) (hN : N < 2 ^ 31 := by omega) : vp_in x N := by
  subst hx
  exact vp_in_nI h hN
theorem pk_cl {x : Int32} (n : Nat) (hx : x = nI n := by rfl) (h : n < 2 ^ 31 := by omega) : x.toNatClampNeg = n := by
  subst hx
  exact nI_clamp h
theorem pk_tn {n : Nat} (h : n < 2 ^ 32) : (nI n).toBitVec.toNat = n := Nat.mod_eq_of_lt h
theorem pk_and (x : Int32) {m : Int32} (k : Nat) (hm : m.toBitVec.toNat = 2 ^ k - 1) : x &&& m = nI (x.toBitVec.toNat % 2 ^ k) := by
  apply Int32.toBitVec_inj.mp
  apply BitVec.eq_of_toNat_eq
  rw [Int32.toBitVec_and, BitVec.toNat_and, hm, Nat.and_two_pow_sub_one_eq_mod]
  show _ = (BitVec.ofNat 32 _).toNat
  rw [BitVec.toNat_ofNat]
  exact (Nat.mod_eq_of_lt (Nat.lt_of_le_of_lt (Nat.mod_le _ _) x.toBitVec.isLt)).symm
theorem pk_andN {n : Nat} (h : n < 2 ^ 32) {m : Int32} (k : Nat) (hm : m.toBitVec.toNat = 2 ^ k - 1) : nI n &&& m = nI (n % 2 ^ k) := by
  rw [pk_and _ k hm, pk_tn h]
theorem pk_shl (a s : Int32) (k : Nat) (hs : (s.toBitVec.smod 32).toNat = k) : (a <<< s).toBitVec.toNat = a.toBitVec.toNat * 2 ^ k % 2 ^ 32 := by
  show (a.toBitVec <<< (s.toBitVec.smod 32).toNat).toNat = _
  rw [hs, BitVec.toNat_shiftLeft, Nat.shiftLeft_eq]
theorem pk_shlN {n : Nat} (s : Int32) (k : Nat) (hs : (s.toBitVec.smod 32).toNat = k) (h : n * 2 ^ k < 2 ^ 32) : nI n <<< s = nI (n * 2 ^ k) := by
  apply Int32.toBitVec_inj.mp
  apply BitVec.eq_of_toNat_eq
  have hn : n < 2 ^ 32 := Nat.lt_of_le_of_lt (Nat.le_mul_of_pos_right n (Nat.two_pow_pos k)) h
  rw [pk_shl _ _ k hs, pk_tn hn, pk_tn h, Nat.mod_eq_of_lt h]
theorem pk_shr (a s : Int32) (k : Nat) (hs : (s.toBitVec.smod 32).toNat = k) : (a >>> s).toInt = a.toInt >>> k := by
  show (a.toBitVec.sshiftRight (s.toBitVec.smod 32).toNat).toInt = _
  rw [hs, BitVec.toInt_sshiftRight]
  rfl
theorem pk_shrN {n : Nat} (h : n < 2 ^ 31) (s : Int32) (k : Nat) (hs : (s.toBitVec.smod 32).toNat = k) : nI n >>> s = nI (n / 2 ^ k) := by
  apply Int32.toInt_inj.mp
  have h2 : n / 2 ^ k ≤ n := Nat.div_le_self _ _
  rw [pk_shr _ _ k hs, nI_toInt h, nI_toInt (by omega), Int.shiftRight_eq_div_pow]
  rfl
theorem pk_loop {σ : Type} (W : Nat → Nat → σ → Prop) (I : Nat → σ → Prop) (e i0 : Nat) (s : σ) (hi : i0 ≤ e) (h0 : I i0 s) (hx : ∀ n s, I e s → W (n + 1) e s)
    (hs : ∀ n i s, i < e → I i s → (∀ s', I (i + 1) s' → W n (i + 1) s') → W (n + 1) i s) : ∃ n, W n i0 s :=
  ⟨e + 1, loop_i W I e hx hs (e + 1) i0 s hi (by omega) h0⟩
theorem pk_least (P : Nat → Prop) (h : ∃ k, P k) : ∃ k, P k ∧ ∀ j, j < k → ¬ P j := by
  obtain ⟨k, hk⟩ := h
  induction k using Nat.strongRecOn with
  | ind k ih =>
    by_cases e : ∃ j, j < k ∧ P j
    · obtain ⟨j, hj, pj⟩ := e
      exact ih j hj pj
    · exact ⟨k, hk, fun j hj pj => e ⟨j, hj, pj⟩⟩
def bt (x : Int32) (i : Nat) : Bool := x.toBitVec.getLsbD i
theorem b_ext {x y : Int32} (h : ∀ i, i < 32 → bt x i = bt y i) : x = y := Int32.toBitVec_inj.mp (BitVec.eq_of_getLsbD_eq (fun i hi => h i hi))
theorem b_or (x y : Int32) (i : Nat) : bt (x ||| y) i = (bt x i || bt y i) := by unfold bt; rw [Int32.toBitVec_or, BitVec.getLsbD_or]
theorem b_and (x y : Int32) (i : Nat) : bt (x &&& y) i = (bt x i && bt y i) := by unfold bt; rw [Int32.toBitVec_and, BitVec.getLsbD_and]
theorem b_xor (x y : Int32) (i : Nat) : bt (x ^^^ y) i = (bt x i ^^ bt y i) := by unfold bt; rw [Int32.toBitVec_xor, BitVec.getLsbD_xor]
theorem b_big {x : Int32} {i : Nat} (h : 32 ≤ i) : bt x i = false := BitVec.getLsbD_of_ge _ _ h
theorem b_m1 : ∀ i, i < 32 → bt (-1) i = true := by decide +kernel
theorem b_0 (i : Nat) : bt 0 i = false := BitVec.getLsbD_zero
theorem s_l : ∀ n, n < 32 → ((nI n &&& 31).toBitVec.smod 32).toNat = n := by decide +kernel
theorem nx_and (a b : Nat) : nI a &&& nI b = nI (a &&& b) := by
  apply Int32.toBitVec_inj.1
  show BitVec.ofNat 32 a &&& BitVec.ofNat 32 b = BitVec.ofNat 32 (a &&& b)
  apply BitVec.eq_of_getLsbD_eq
  intro i hi
  simp [hi]
theorem nx_xor (a b : Nat) : nI a ^^^ nI b = nI (a ^^^ b) := by
  apply Int32.toBitVec_inj.1
  show BitVec.ofNat 32 a ^^^ BitVec.ofNat 32 b = BitVec.ofNat 32 (a ^^^ b)
  apply BitVec.eq_of_getLsbD_eq
  intro i hi
  simp [hi]
theorem nx_or (a b : Nat) : nI a ||| nI b = nI (a ||| b) := by
  apply Int32.toBitVec_inj.1
  show BitVec.ofNat 32 a ||| BitVec.ofNat 32 b = BitVec.ofNat 32 (a ||| b)
  apply BitVec.eq_of_getLsbD_eq
  intro i hi
  simp [hi]
end
end
section
/-! ===== the pure picture: instructions, keys of places, what a method reaches ===== -/
section
def md_tk (o : Nat) : Nat := if o = 6 ∨ o = 7 then 2 else if (3 ≤ o ∧ o ≤ 5) ∨ (9 ≤ o ∧ o ≤ 11) ∨ o = 13 ∨ o = 14 ∨ 18 ≤ o then 1 else 0
def md_pu (o : Nat) : Nat := if o = 5 ∨ o = 6 then 2 else if o ≤ 2 ∨ o = 7 ∨ o = 8 ∨ o = 10 ∨ o = 15 then 1 else 0
abbrev md_gb (o : Nat) : Prop := o < 12 ∨ o = 13 ∨ o = 14
def md_lim (o : Nat) : Nat := if o = 2 ∨ o = 3 ∨ o = 16 then 4 else if o = 8 ∨ o = 10 ∨ o = 11 ∨ o = 18 then 8 else if 12 ≤ o ∧ o ≤ 15 then 24 else 0
theorem md_tk2 (o : Nat) : md_tk o ≤ 2 := by
  unfold md_tk; split
  · omega
  · split <;> omega
theorem md_pu2 (o : Nat) : md_pu o ≤ 2 := by
  unfold md_pu; split
  · omega
  · split <;> omega
/-- code count, handler count, instruction, raw operand, from, to, target, caught class, parent, entry -/
abbrev md_C : Type := Nat × Nat × (Nat → Nat) × (Nat → Int32) × (Nat → Nat) × (Nat → Nat) × (Nat → Nat) × (Nat → Nat) × (Nat → Nat) × (Nat → Nat)
def mc_cc (g : md_C) : Nat := g.1
def mc_hc (g : md_C) : Nat := g.2.1
def mc_o (g : md_C) : Nat → Nat := g.2.2.1
def mc_r (g : md_C) : Nat → Int32 := g.2.2.2.1
def mc_f (g : md_C) : Nat → Nat := g.2.2.2.2.1
def mc_t (g : md_C) : Nat → Nat := g.2.2.2.2.2.1
def mc_g (g : md_C) : Nat → Nat := g.2.2.2.2.2.2.1
def mc_k (g : md_C) : Nat → Nat := g.2.2.2.2.2.2.2.1
def mc_p (g : md_C) : Nat → Nat := g.2.2.2.2.2.2.2.2.1
def mc_e (g : md_C) : Nat → Nat := g.2.2.2.2.2.2.2.2.2
def mc_a (g : md_C) (i : Nat) : Nat := (mc_r g i).toNatClampNeg
/-- what every configuration keeps -/
def md_G (g : md_C) : Prop := mc_cc g ≤ 24 ∧ mc_hc g ≤ 4 ∧ (∀ i, mc_o g i < 20) ∧ (∀ i, 0 < md_lim (mc_o g i) → mc_a g i < md_lim (mc_o g i) ∧ mc_r g i = nI (mc_a g i)) ∧ (∀ x, mc_f g x < 24 ∧ mc_t g x ≤ 24 ∧ mc_g g x < 24 ∧ mc_k g x < 8) ∧ (∀ c, mc_p g c ≤ c - 1) ∧ (∀ s, mc_e g s ≤ 10)
/-- nothing leads outside -/
def md_M (g : md_C) : Prop := 0 < mc_cc g ∧ (∀ i, i < mc_cc g → 12 ≤ mc_o g i → mc_o g i ≤ 15 → mc_a g i < mc_cc g) ∧ (∀ x, x < mc_hc g → mc_g g x < mc_cc g)
def md_y (n a b c i : Nat) : Nat := n * 331776 + a * 13824 + b * 576 + c * 24 + i
def md_x (n a b c i : Nat) : Nat := n * 1048576 + a * 32768 + b * 1024 + c * 32 + i
def md_n (p : Nat) : Nat := p / 331776
def md_c (p j : Nat) : Nat := if j = 0 then p / 13824 % 24 else if j = 1 then p / 576 % 24 else p / 24 % 24
def md_w (j : Nat) : Nat := if j = 0 then 13824 else if j = 1 then 576 else 24
def md_at (p i : Nat) : Nat := p - p % 24 + i
def md_dp (p i : Nat) : Nat := p - p % 24 + i + 331776 + p % 24 * md_w (md_n p)
def md_cl (p : Nat) : Nat := md_at p (md_c p (md_n p - 1)) - 331776 - md_c p (md_n p - 1) * md_w (md_n p - 1)
def md_kx (p : Nat) : Nat := md_x (p / 331776) (p / 13824 % 24) (p / 576 % 24) (p / 24 % 24) (p % 24)
theorem my_n {n a b c i : Nat} (ha : a < 24) (hb : b < 24) (hc : c < 24) (hi : i < 24) : md_y n a b c i / 331776 = n := by unfold md_y; omega
theorem my_a {n a b c i : Nat} (ha : a < 24) (hb : b < 24) (hc : c < 24) (hi : i < 24) : md_y n a b c i / 13824 % 24 = a := by unfold md_y; omega
theorem my_b {n a b c i : Nat} (hb : b < 24) (hc : c < 24) (hi : i < 24) : md_y n a b c i / 576 % 24 = b := by unfold md_y; omega
theorem my_c {n a b c i : Nat} (hc : c < 24) (hi : i < 24) : md_y n a b c i / 24 % 24 = c := by unfold md_y; omega
theorem my_i {n a b c i : Nat} (hi : i < 24) : md_y n a b c i % 24 = i := by unfold md_y; omega
theorem my_kx {n a b c i : Nat} (ha : a < 24) (hb : b < 24) (hc : c < 24) (hi : i < 24) : md_kx (md_y n a b c i) = md_x n a b c i := by
  unfold md_kx; rw [my_n ha hb hc hi, my_a ha hb hc hi, my_b hb hc hi, my_c hc hi, my_i hi]
theorem my_at {n a b c i j : Nat} (hi : i < 24) : md_at (md_y n a b c i) j = md_y n a b c j := by
  unfold md_at; rw [my_i hi]; unfold md_y; omega
/-- valid keys -/
def md_V (g : md_C) (p : Nat) : Prop := ∃ n a b c i, p = md_y n a b c i ∧ n ≤ 3 ∧ a < mc_cc g ∧ b < mc_cc g ∧ c < mc_cc g ∧ i < mc_cc g ∧ (n = 0 → a = 0) ∧ (n ≤ 1 → b = 0) ∧ (n ≤ 2 → c = 0)
theorem md_V4 {g : md_C} {p : Nat} (h : md_V g p) : (∃ i, i < mc_cc g ∧ p = md_y 0 0 0 0 i) ∨ (∃ a i, a < mc_cc g ∧ i < mc_cc g ∧ p = md_y 1 a 0 0 i) ∨ (∃ a b i, a < mc_cc g ∧ b < mc_cc g ∧ i < mc_cc g ∧ p = md_y 2 a b 0 i) ∨ (∃ a b c i, a < mc_cc g ∧ b < mc_cc g ∧ c < mc_cc g ∧ i < mc_cc g ∧ p = md_y 3 a b c i) := by
  obtain ⟨n, a, b, c, i, e, hn, ha, hb, hc, hi, h0, h1, h2⟩ := h
  have : n = 0 ∨ n = 1 ∨ n = 2 ∨ n = 3 := by omega
  rcases this with rfl | rfl | rfl | rfl
  · left; refine ⟨i, hi, ?_⟩; rw [e, h0 rfl, h1 (by omega), h2 (by omega)]
  · right; left; refine ⟨a, i, ha, hi, ?_⟩; rw [e, h1 (by omega), h2 (by omega)]
  · right; right; left; refine ⟨a, b, i, ha, hb, hi, ?_⟩; rw [e, h2 (by omega)]
  · right; right; right; exact ⟨a, b, c, i, ha, hb, hc, hi, e⟩
theorem md_V0 {g : md_C} {i : Nat} (h : i < mc_cc g) : md_V g (md_y 0 0 0 0 i) := ⟨0, 0, 0, 0, i, rfl, by omega, by omega, by omega, by omega, h, fun _ => rfl, fun _ => rfl, fun _ => rfl⟩
theorem md_V1 {g : md_C} {a i : Nat} (ha : a < mc_cc g) (h : i < mc_cc g) : md_V g (md_y 1 a 0 0 i) := ⟨1, a, 0, 0, i, rfl, by omega, ha, by omega, by omega, h, fun h => by omega, fun _ => rfl, fun _ => rfl⟩
theorem md_V2 {g : md_C} {a b i : Nat} (ha : a < mc_cc g) (hb : b < mc_cc g) (h : i < mc_cc g) : md_V g (md_y 2 a b 0 i) := ⟨2, a, b, 0, i, rfl, by omega, ha, hb, by omega, h, fun h => by omega, fun h => by omega, fun _ => rfl⟩
theorem md_V3 {g : md_C} {a b c i : Nat} (ha : a < mc_cc g) (hb : b < mc_cc g) (hc : c < mc_cc g) (h : i < mc_cc g) : md_V g (md_y 3 a b c i) := ⟨3, a, b, c, i, rfl, by omega, ha, hb, hc, h, fun h => by omega, fun h => by omega, fun h => by omega⟩
theorem md_Vi {g : md_C} {p : Nat} (hG : mc_cc g ≤ 24) (h : md_V g p) : p % 24 < mc_cc g := by
  obtain ⟨n, a, b, c, i, rfl, hn, ha, hb, hc, hi, _⟩ := h
  rw [my_i (by omega)]; exact hi
theorem md_Vn {g : md_C} {p : Nat} (hG : mc_cc g ≤ 24) (h : md_V g p) : md_n p ≤ 3 := by
  obtain ⟨n, a, b, c, i, rfl, hn, ha, hb, hc, hi, _⟩ := h
  unfold md_n; rw [my_n (by omega) (by omega) (by omega) (by omega)]; exact hn
theorem md_Vlt {g : md_C} {p : Nat} (hG : mc_cc g ≤ 24) (h : md_V g p) : p < 1327104 := by
  obtain ⟨n, a, b, c, i, rfl, hn, ha, hb, hc, hi, _⟩ := h
  unfold md_y; omega
theorem md_kxlt (p : Nat) (h : p < 1327104) : md_kx p < 4194304 := by
  unfold md_kx md_x; omega
def md_e (G : Nat → Nat) (p : Nat) : Nat := 32 * G (p / 24) + p % 24
theorem md_e_lt {G : Nat → Nat} (h : ∀ x y, x < y → G x < G y) : ∀ x y, x < y → md_e G x < md_e G y := by
  intro x y hxy
  unfold md_e
  rcases Nat.lt_or_ge (x / 24) (y / 24) with c | c
  · have := h _ _ c
    have := Nat.mod_lt x (show 24 > 0 by omega)
    omega
  · have e : x / 24 = y / 24 := Nat.le_antisymm (Nat.div_le_div_right (Nat.le_of_lt hxy)) c
    have h1 := Nat.div_add_mod x 24
    have h2 := Nat.div_add_mod y 24
    rw [e] at h1 ⊢
    omega
theorem md_d2 (p : Nat) : p / 24 / 24 = p / 576 := Nat.div_div_eq_div_mul p 24 24
theorem md_d3 (p : Nat) : p / 24 / 24 / 24 = p / 13824 := by rw [md_d2, Nat.div_div_eq_div_mul]
theorem md_d4 (p : Nat) : p / 24 / 24 / 24 / 24 = p / 331776 := by rw [md_d3, Nat.div_div_eq_div_mul]
theorem md_kx_e (p : Nat) : md_kx p = md_e (md_e (md_e (md_e (fun x => x)))) p := by
  unfold md_kx md_x md_e
  rw [md_d4, md_d3, md_d2]
  generalize p / 331776 = n
  generalize p / 13824 % 24 = a
  generalize p / 576 % 24 = b
  generalize p / 24 % 24 = c
  generalize p % 24 = i
  dsimp only
  omega
theorem md_kx_l {p q : Nat} (h : p < q) : md_kx p < md_kx q := by
  rw [md_kx_e, md_kx_e]
  exact md_e_lt (md_e_lt (md_e_lt (md_e_lt (fun _ _ h => h)))) p q h
theorem md_kx_lt {p q : Nat} : md_kx p < md_kx q ↔ p < q := by
  constructor
  · intro h
    apply Classical.byContradiction
    intro c
    rcases Nat.lt_or_eq_of_le (Nat.le_of_not_lt c) with d | d
    · have := md_kx_l d; omega
    · subst d; omega
  · exact md_kx_l
theorem md_kx_eq {p q : Nat} : md_kx p = md_kx q ↔ p = q := by
  constructor
  · intro h
    have a := @md_kx_lt p q
    have b := @md_kx_lt q p
    omega
  · rintro rfl; rfl
theorem md_V_at {g : md_C} {p j : Nat} (hG : mc_cc g ≤ 24) (h : md_V g p) (hj : j < mc_cc g) : md_V g (md_at p j) := by
  obtain ⟨n, a, b, c, i, rfl, hn, ha, hb, hc, hi, h0, h1, h2⟩ := h
  rw [my_at (by omega)]
  exact ⟨n, a, b, c, j, rfl, hn, ha, hb, hc, hj, h0, h1, h2⟩
theorem md_V_1 {g : md_C} {p : Nat} (hG : mc_cc g ≤ 24) (h : md_V g p) (hj : p % 24 + 1 < mc_cc g) : md_V g (p + 1) := by
  have : p + 1 = md_at p (p % 24 + 1) := by unfold md_at; omega
  rw [this]; exact md_V_at hG h hj
theorem md_dp0 {i j : Nat} (hi : i < 24) : md_dp (md_y 0 0 0 0 i) j = md_y 1 i 0 0 j := by
  unfold md_dp md_n; rw [my_i hi, my_n (by omega) (by omega) (by omega) hi]; unfold md_w md_y; simp; omega
theorem md_dp1 {a i j : Nat} (ha : a < 24) (hi : i < 24) : md_dp (md_y 1 a 0 0 i) j = md_y 2 a i 0 j := by
  unfold md_dp md_n; rw [my_i hi, my_n ha (by omega) (by omega) hi]; unfold md_w md_y; simp; omega
theorem md_dp2 {a b i j : Nat} (ha : a < 24) (hb : b < 24) (hi : i < 24) : md_dp (md_y 2 a b 0 i) j = md_y 3 a b i j := by
  unfold md_dp md_n; rw [my_i hi, my_n ha hb (by omega) hi]; unfold md_w md_y; simp; omega
theorem md_c1 {a i : Nat} (ha : a < 24) (hi : i < 24) : md_c (md_y 1 a 0 0 i) (1 - 1) = a := by
  unfold md_c; rw [my_a ha (by omega) (by omega) hi]; simp
theorem md_c2 {a b i : Nat} (hb : b < 24) (hi : i < 24) : md_c (md_y 2 a b 0 i) (2 - 1) = b := by
  unfold md_c; rw [my_b hb (by omega) hi]; simp
theorem md_c3 {a b c i : Nat} (hc : c < 24) (hi : i < 24) : md_c (md_y 3 a b c i) (3 - 1) = c := by
  unfold md_c; rw [my_c hc hi]; simp
theorem md_cl1 {a i : Nat} (ha : a < 24) (hi : i < 24) : md_cl (md_y 1 a 0 0 i) = md_y 0 0 0 0 a := by
  unfold md_cl md_n; rw [my_n ha (by omega) (by omega) hi, md_c1 ha hi, my_at hi]; unfold md_w md_y; simp; omega
theorem md_cl2 {a b i : Nat} (ha : a < 24) (hb : b < 24) (hi : i < 24) : md_cl (md_y 2 a b 0 i) = md_y 1 a 0 0 b := by
  unfold md_cl md_n; rw [my_n ha hb (by omega) hi, md_c2 hb hi, my_at hi]; unfold md_w md_y; simp; omega
theorem md_cl3 {a b c i : Nat} (ha : a < 24) (hb : b < 24) (hc : c < 24) (hi : i < 24) : md_cl (md_y 3 a b c i) = md_y 2 a b 0 c := by
  unfold md_cl md_n; rw [my_n ha hb hc hi, md_c3 hc hi, my_at hi]; unfold md_w md_y; simp; omega
end
end
section
/-! ===== what is wrong, and what is reached ===== -/
section
/-- what is wrong with h values, and the least number -/
abbrev md_f1 (g : md_C) (p : Nat) : Prop := (md_gb (mc_o g (p % 24)) ∧ p % 24 + 1 = mc_cc g) ∨ (mc_o g (p % 24) = 16 ∧ 0 < md_n p ∧ md_c p (md_n p - 1) + 1 = mc_cc g)
abbrev md_f2 (g : md_C) (p h : Nat) : Prop := h < md_tk (mc_o g (p % 24))
abbrev md_f3 (g : md_C) (p h : Nat) : Prop := 6 + md_tk (mc_o g (p % 24)) < h + md_pu (mc_o g (p % 24))
abbrev md_ag (p : Nat) : Prop := md_n p = 3 ∨ (1 ≤ md_n p ∧ md_c p 0 = p % 24) ∨ (2 ≤ md_n p ∧ md_c p 1 = p % 24) ∨ (3 ≤ md_n p ∧ md_c p 2 = p % 24)
abbrev md_f4 (g : md_C) (p : Nat) : Prop := mc_o g (p % 24) = 15 ∧ md_ag p
abbrev md_f5 (g : md_C) (p : Nat) : Prop := mc_o g (p % 24) = 16 ∧ md_n p = 0
def md_W (g : md_C) (p h : Nat) : Nat := if md_f1 g p then 1 else if md_f2 g p h then 2 else if md_f3 g p h then 3 else if md_f4 g p then 4 else if md_f5 g p then 5 else 0
theorem md_W0 {g : md_C} {p h : Nat} (w : md_W g p h = 0) : ¬ md_f1 g p ∧ ¬ md_f2 g p h ∧ ¬ md_f3 g p h ∧ ¬ md_f4 g p ∧ ¬ md_f5 g p := by
  unfold md_W at w
  split at w
  · omega
  · split at w
    · omega
    · split at w
      · omega
      · split at w
        · omega
        · split at w
          · omega
          · refine ⟨?_, ?_, ?_, ?_, ?_⟩ <;> assumption
/-- where a place leads by its jump -/
def md_L (g : md_C) (p : Nat) : Option Nat := if mc_o g (p % 24) = 15 then some (md_dp p (mc_a g (p % 24))) else if mc_o g (p % 24) = 16 then some (md_cl p + 1) else if mc_o g (p % 24) = 12 ∨ mc_o g (p % 24) = 13 ∨ mc_o g (p % 24) = 14 then some (md_at p (mc_a g (p % 24))) else none
abbrev md_cv (g : md_C) (x p : Nat) : Prop := mc_f g x ≤ p % 24 ∧ p % 24 < mc_t g x
def md_th (g : md_C) (p h : Nat) : Nat := h - md_tk (mc_o g (p % 24)) + md_pu (mc_o g (p % 24))
def md_T (g : md_C) (p h p' h' : Nat) : Prop := (md_gb (mc_o g (p % 24)) ∧ p' = p + 1 ∧ h' = md_th g p h) ∨ (md_L g p = some p' ∧ h' = md_th g p h) ∨ (∃ x, x < mc_hc g ∧ md_cv g x p ∧ p' = md_at p (mc_g g x) ∧ h' = 1)
def md_S (g : md_C) (p h p' h' : Nat) : Prop := md_W g p h = 0 ∧ md_T g p h p' h'
def md_R (g : md_C) (p h : Nat) : Prop := ∀ S : Nat → Nat → Prop, S 0 0 → (∀ q k q' k', S q k → md_S g q k q' k' → S q' k') → S p h
theorem md_R0 (g : md_C) : md_R g 0 0 := fun _ h _ => h
theorem md_Rs {g : md_C} {p h p' h' : Nat} (r : md_R g p h) (s : md_S g p h p' h') : md_R g p' h' := fun S h0 hs => hs _ _ _ _ (r S h0 hs) s
theorem md_Ri {g : md_C} {p h : Nat} (r : md_R g p h) (I : Nat → Nat → Prop) (h0 : I 0 0) (hs : ∀ q k q' k', md_R g q k → I q k → md_S g q k q' k' → I q' k') : I p h := by
  have := r (fun q k => md_R g q k ∧ I q k) ⟨md_R0 g, h0⟩ (fun q k q' k' a s => ⟨md_Rs a.1 s, hs _ _ _ _ a.1 a.2 s⟩)
  exact this.2
/-- the key of the caller, in digits -/
theorem md_Vcl {g : md_C} {p : Nat} (hG : mc_cc g ≤ 24) (h : md_V g p) (hn : 0 < md_n p) : md_V g (md_cl p) ∧ md_cl p % 24 = md_c p (md_n p - 1) ∧ md_n (md_cl p) + 1 = md_n p := by
  rcases md_V4 h with ⟨i, hi, rfl⟩ | ⟨a, i, ha, hi, rfl⟩ | ⟨a, b, i, ha, hb, hi, rfl⟩ | ⟨a, b, c, i, ha, hb, hc, hi, rfl⟩
  · unfold md_n at hn; rw [my_n (by omega) (by omega) (by omega) (by omega)] at hn; omega
  · rw [md_cl1 (by omega) (by omega)]
    have e : md_n (md_y 1 a 0 0 i) = 1 := my_n (by omega) (by omega) (by omega) (by omega)
    have e' : md_n (md_y 0 0 0 0 a) = 0 := my_n (by omega) (by omega) (by omega) (by omega)
    rw [e, e', md_c1 (by omega) (by omega), my_i (by omega)]
    exact ⟨md_V0 ha, rfl, rfl⟩
  · rw [md_cl2 (by omega) (by omega) (by omega)]
    have e : md_n (md_y 2 a b 0 i) = 2 := my_n (by omega) (by omega) (by omega) (by omega)
    have e' : md_n (md_y 1 a 0 0 b) = 1 := my_n (by omega) (by omega) (by omega) (by omega)
    rw [e, e', md_c2 (by omega) (by omega), my_i (by omega)]
    exact ⟨md_V1 ha hb, rfl, rfl⟩
  · rw [md_cl3 (by omega) (by omega) (by omega) (by omega)]
    have e : md_n (md_y 3 a b c i) = 3 := my_n (by omega) (by omega) (by omega) (by omega)
    have e' : md_n (md_y 2 a b 0 c) = 2 := my_n (by omega) (by omega) (by omega) (by omega)
    rw [e, e', md_c3 (by omega) (by omega), my_i (by omega)]
    exact ⟨md_V2 ha hb hc, rfl, rfl⟩
theorem md_Vdp {g : md_C} {p j : Nat} (hG : mc_cc g ≤ 24) (h : md_V g p) (hn : ¬ md_n p = 3) (hj : j < mc_cc g) : md_V g (md_dp p j) ∧ md_cl (md_dp p j) = p ∧ md_n (md_dp p j) = md_n p + 1 := by
  rcases md_V4 h with ⟨i, hi, rfl⟩ | ⟨a, i, ha, hi, rfl⟩ | ⟨a, b, i, ha, hb, hi, rfl⟩ | ⟨a, b, c, i, ha, hb, hc, hi, rfl⟩
  · rw [md_dp0 (by omega), md_cl1 (by omega) (by omega)]
    unfold md_n; rw [my_n (by omega) (by omega) (by omega) (by omega), my_n (by omega) (by omega) (by omega) (by omega)]
    exact ⟨md_V1 hi hj, rfl, rfl⟩
  · rw [md_dp1 (by omega) (by omega), md_cl2 (by omega) (by omega) (by omega)]
    unfold md_n; rw [my_n (by omega) (by omega) (by omega) (by omega), my_n (by omega) (by omega) (by omega) (by omega)]
    exact ⟨md_V2 ha hi hj, rfl, rfl⟩
  · rw [md_dp2 (by omega) (by omega) (by omega), md_cl3 (by omega) (by omega) (by omega) (by omega)]
    unfold md_n; rw [my_n (by omega) (by omega) (by omega) (by omega), my_n (by omega) (by omega) (by omega) (by omega)]
    exact ⟨md_V3 ha hb hi hj, rfl, rfl⟩
  · exact absurd (my_n (by omega) (by omega) (by omega) (by omega)) hn
theorem md_at24 {p j : Nat} (hj : j < 24) : md_at p j / 24 = p / 24 := by unfold md_at; omega
theorem md_nat {p j : Nat} (hj : j < 24) : md_n (md_at p j) = md_n p := by
  unfold md_n; rw [← md_d4, ← md_d4, md_at24 hj]
theorem md_cat {p j : Nat} (k : Nat) (hj : j < 24) : md_c (md_at p j) k = md_c p k := by
  unfold md_c
  rw [← md_d3, ← md_d3 p, ← md_d2, ← md_d2 p, md_at24 hj]
theorem md_clat {p j : Nat} (hj : j < 24) : md_cl (md_at p j) = md_cl p := by
  unfold md_cl
  rw [md_nat hj, md_cat _ hj]
  have : md_at (md_at p j) (md_c p (md_n p - 1)) = md_at p (md_c p (md_n p - 1)) := by unfold md_at; omega
  rw [this]
/-- one step from a valid place leads to a valid place -/
theorem md_VS {g : md_C} {p h p' h' : Nat} (hG : md_G g) (hM : md_M g) (hV : md_V g p) (hh : h ≤ 6) (s : md_S g p h p' h') : md_V g p' ∧ h' ≤ 6 := by
  obtain ⟨w, t⟩ := s
  obtain ⟨f1, f2, f3, f4, f5⟩ := md_W0 w
  obtain ⟨hcc, hhc, ho, ha, hx, -, -⟩ := hG
  have hi := md_Vi hcc hV
  have hth : md_th g p h ≤ 6 := by unfold md_th; omega
  rcases t with ⟨b, rfl, rfl⟩ | ⟨l, rfl⟩ | ⟨x, hx1, -, rfl, rfl⟩
  · refine ⟨md_V_1 hcc hV ?_, hth⟩
    have : ¬ p % 24 + 1 = mc_cc g := fun e => f1 (Or.inl ⟨b, e⟩)
    omega
  · refine ⟨?_, hth⟩
    unfold md_L at l
    split at l
    · rename_i o15
      cases l
      have : mc_a g (p % 24) < mc_cc g := hM.2.1 _ hi (by omega) (by omega)
      refine (md_Vdp hcc hV (fun n3 => f4 ⟨o15, Or.inl n3⟩) this).1
    · split at l
      · rename_i o16
        cases l
        have hn : 0 < md_n p := Nat.pos_of_ne_zero (fun z => f5 ⟨o16, z⟩)
        obtain ⟨v, e, -⟩ := md_Vcl hcc hV hn
        have hlt := md_Vi hcc v
        refine md_V_1 hcc v ?_
        have : ¬ md_c p (md_n p - 1) + 1 = mc_cc g := fun z => f1 (Or.inr ⟨o16, hn, z⟩)
        omega
      · split at l
        · rename_i o3
          cases l
          exact md_V_at hcc hV (hM.2.1 _ hi (by omega) (by omega))
        · cases l
  · exact ⟨md_V_at hcc hV (hM.2.2 _ hx1), by omega⟩
theorem md_RV {g : md_C} {p h : Nat} (hG : md_G g) (hM : md_M g) (r : md_R g p h) : md_V g p ∧ h ≤ 6 :=
  md_Ri r (fun p h => md_V g p ∧ h ≤ 6) ⟨md_V0 (i := 0) hM.1, by omega⟩ (fun _ _ _ _ _ I s => md_VS hG hM I.1 I.2 s)
/-- a reached place other than the first was come to -/
theorem md_Rpre {g : md_C} {p h : Nat} (r : md_R g p h) : (p = 0 ∧ h = 0) ∨ ∃ q k, md_R g q k ∧ md_S g q k p h :=
  md_Ri r (fun p h => (p = 0 ∧ h = 0) ∨ ∃ q k, md_R g q k ∧ md_S g q k p h) (Or.inl ⟨rfl, rfl⟩) (fun q k _ _ r' _ s => Or.inr ⟨q, k, r', s⟩)
/-- the callers of a reached place are reached -/
def md_A (g : md_C) (p : Nat) : Prop := (1 ≤ md_n p → ∃ h, md_R g (md_cl p) h) ∧ (2 ≤ md_n p → ∃ h, md_R g (md_cl (md_cl p)) h) ∧ (3 ≤ md_n p → ∃ h, md_R g (md_cl (md_cl (md_cl p))) h)
theorem md_Aat {g : md_C} {p j : Nat} (hj : j < 24) (h : md_A g p) : md_A g (md_at p j) := by
  unfold md_A; rw [md_nat hj, md_clat hj]; exact h
theorem md_RA {g : md_C} {p h : Nat} (hG : md_G g) (hM : md_M g) (r : md_R g p h) : md_A g p := by
  refine md_Ri r (fun p _ => md_A g p) ⟨fun h => ?_, fun h => ?_, fun h => ?_⟩ (fun q k q' k' rq I s => ?_)
  · unfold md_n at h; omega
  · unfold md_n at h; omega
  · unfold md_n at h; omega
  · obtain ⟨vq, hk⟩ := md_RV hG hM rq
    obtain ⟨w, t⟩ := s
    obtain ⟨f1, f2, f3, f4, f5⟩ := md_W0 w
    obtain ⟨hcc, hhc, ho, ha, hx, -, -⟩ := hG
    have hi := md_Vi hcc vq
    rcases t with ⟨b, rfl, rfl⟩ | ⟨l, rfl⟩ | ⟨x, hx1, -, rfl, rfl⟩
    · have hlt : q % 24 + 1 < mc_cc g := by
        have : ¬ q % 24 + 1 = mc_cc g := fun e => f1 (Or.inl ⟨b, e⟩)
        omega
      have e : q + 1 = md_at q (q % 24 + 1) := by unfold md_at; omega
      rw [e]; exact md_Aat (by omega) I
    · unfold md_L at l
      split at l
      · rename_i o15
        cases l
        have : mc_a g (q % 24) < mc_cc g := hM.2.1 _ hi (by omega) (by omega)
        obtain ⟨-, e1, e2⟩ := md_Vdp hcc vq (fun n3 => f4 ⟨o15, Or.inl n3⟩) this
        unfold md_A; rw [e1, e2]
        exact ⟨fun _ => ⟨_, rq⟩, fun h => I.1 (by omega), fun h => I.2.1 (by omega)⟩
      · split at l
        · rename_i o16
          cases l
          have hq : 0 < md_n q := Nat.pos_of_ne_zero (fun z => f5 ⟨o16, z⟩)
          obtain ⟨v, e, en⟩ := md_Vcl hcc vq hq
          have hlt : md_cl q % 24 + 1 < mc_cc g := by
            have : ¬ md_c q (md_n q - 1) + 1 = mc_cc g := fun z => f1 (Or.inr ⟨o16, hq, z⟩)
            have := md_Vi hcc v
            omega
          have e3 : md_cl q + 1 = md_at (md_cl q) (md_cl q % 24 + 1) := by unfold md_at; omega
          rw [e3]
          refine md_Aat (by omega) ⟨fun h => I.2.1 (by omega), fun h => I.2.2 (by omega), fun h => ?_⟩
          have := md_Vn hcc vq
          omega
        · split at l
          · rename_i o3
            cases l
            have : mc_a g (q % 24) < mc_cc g := hM.2.1 _ hi (by omega) (by omega)
            exact md_Aat (by omega) I
          · cases l
    · have := hM.2.2 _ hx1
      exact md_Aat (by omega) I
theorem md_Rcl {g : md_C} {p h : Nat} (hG : md_G g) (hM : md_M g) (r : md_R g p h) (hn : 0 < md_n p) : ∃ h', md_R g (md_cl p) h' := (md_RA hG hM r).1 hn
end
end
section
/-! ===== layouts: pigeonhole, uniqueness of the sorted row of places, the first wrong place ===== -/
section
theorem ml_pig : ∀ (n m : Nat) (f g : Nat → Nat), (∀ i, i < m → ∃ j, j < n ∧ g j = f i) → (∀ i j, i < m → j < m → f i = f j → i = j) → m ≤ n := by
  intro n
  induction n with
  | zero =>
    intro m f g h _
    cases m with
    | zero => omega
    | succ m => obtain ⟨j, hj, _⟩ := h 0 (by omega); omega
  | succ n ih =>
    intro m f g h inj
    by_cases hx : ∃ i, i < m ∧ f i = g n
    · obtain ⟨i0, hi0, e0⟩ := hx
      have := ih (m - 1) (fun i => if i < i0 then f i else f (i + 1)) g ?_ ?_
      · omega
      · intro i hi
        have key : ∀ i', i' < m → i' ≠ i0 → ∃ j, j < n ∧ g j = f i' := by
          intro i' hi' hne
          obtain ⟨j, hj, e⟩ := h i' hi'
          by_cases hjn : j = n
          · subst hjn; exact absurd (inj _ _ hi' hi0 (e.symm.trans e0.symm)) hne
          · exact ⟨j, by omega, e⟩
        by_cases c : i < i0
        · simp only [c, if_true]; exact key i (by omega) (by omega)
        · simp only [c, if_false]; exact key (i + 1) (by omega) (by omega)
      · intro i j hi hj
        by_cases c : i < i0 <;> by_cases d : j < i0 <;> simp only [c, d, if_true, if_false] <;> intro e
        · exact inj _ _ (by omega) (by omega) e
        · have := inj _ _ (by omega) (by omega) e; omega
        · have := inj _ _ (by omega) (by omega) e; omega
        · have := inj _ _ (by omega) (by omega) e; omega
    · have : m ≤ n := by
        refine ih m f g (fun i hi => ?_) inj
        obtain ⟨j, hj, e⟩ := h i hi
        by_cases hjn : j = n
        · subst hjn; exact absurd ⟨i, hi, e.symm⟩ hx
        · exact ⟨j, by omega, e⟩
      omega
def ml_inc (m : Nat) (P : Nat → Nat) : Prop := ∀ i j, i < j → j < m → P i < P j
theorem ml_inj {m : Nat} {P : Nat → Nat} (h : ml_inc m P) : ∀ i j, i < m → j < m → P i = P j → i = j := by
  intro i j hi hj e
  rcases Nat.lt_trichotomy i j with c | c | c
  · have := h i j c hj; omega
  · exact c
  · have := h j i c hi; omega
theorem ml_uni {m m' : Nat} {P Q : Nat → Nat} (hP : ml_inc m P) (hQ : ml_inc m' Q) (h1 : ∀ i, i < m → ∃ j, j < m' ∧ Q j = P i) (h2 : ∀ i, i < m' → ∃ j, j < m ∧ P j = Q i) : m = m' ∧ ∀ i, i < m → P i = Q i := by
  have a := ml_pig _ _ _ _ h1 (ml_inj hP)
  have b := ml_pig _ _ _ _ h2 (ml_inj hQ)
  have e : m = m' := by omega
  subst e
  refine ⟨rfl, ?_⟩
  intro i
  induction i using Nat.strongRecOn with
  | ind i ih =>
    intro hi
    obtain ⟨j, hj, ej⟩ := h1 i hi
    obtain ⟨k, hk, ek⟩ := h2 i hi
    have c1 : i ≤ j := by
      apply Nat.le_of_not_lt; intro c
      have := ih j c hj
      have := hP j i c hi
      omega
    have c2 : i ≤ k := by
      apply Nat.le_of_not_lt; intro c
      have := ih k c hk
      have := hQ k i c hi
      omega
    have d1 : Q i ≤ Q j := by
      rcases Nat.lt_or_eq_of_le c1 with c | c
      · exact Nat.le_of_lt (hQ i j c hj)
      · rw [c]; exact Nat.le_refl _
    have d2 : P i ≤ P k := by
      rcases Nat.lt_or_eq_of_le c2 with c | c
      · exact Nat.le_of_lt (hP i k c hk)
      · rw [c]; exact Nat.le_refl _
    omega
/-- a right layout: m places in order, each with its one depth -/
def ml_Y (g : md_C) (m : Nat) (P D : Nat → Nat) : Prop := m ≤ 40 ∧ ml_inc m P ∧ (∀ p h, md_R g p h ↔ ∃ k, k < m ∧ P k = p ∧ D k = h) ∧ (∀ k, k < m → md_W g (P k) (D k) = 0)
theorem ml_Yuni {g : md_C} {m m' : Nat} {P P' D D' : Nat → Nat} (a : ml_Y g m P D) (b : ml_Y g m' P' D') : m = m' ∧ ∀ i, i < m → P i = P' i ∧ D i = D' i := by
  have u := ml_uni a.2.1 b.2.1 (fun i hi => by
    obtain ⟨k, hk, e, _⟩ := (b.2.2.1 _ _).mp ((a.2.2.1 (P i) (D i)).mpr ⟨i, hi, rfl, rfl⟩)
    exact ⟨k, hk, e⟩) (fun i hi => by
    obtain ⟨k, hk, e, _⟩ := (a.2.2.1 _ _).mp ((b.2.2.1 (P' i) (D' i)).mpr ⟨i, hi, rfl, rfl⟩)
    exact ⟨k, hk, e⟩)
  obtain ⟨e, h⟩ := u
  subst e
  refine ⟨rfl, fun i hi => ⟨h i hi, ?_⟩⟩
  obtain ⟨k, hk, e1, e2⟩ := (b.2.2.1 _ _).mp ((a.2.2.1 (P i) (D i)).mpr ⟨i, hi, rfl, rfl⟩)
  have : k = i := ml_inj b.2.1 _ _ hk hi (e1.trans (h i hi))
  subst this
  exact e2.symm
/-- the least number that is wrong at p -/
def ml_B (g : md_C) (p n : Nat) : Prop := (∃ h, md_R g p h ∧ md_W g p h = n ∧ n ≠ 0 ∧ ∀ h', md_R g p h' → md_W g p h' = 0 ∨ n ≤ md_W g p h') ∨ (n = 6 ∧ (∀ h, md_R g p h → md_W g p h = 0) ∧ ∃ h h', h ≠ h' ∧ md_R g p h ∧ md_R g p h')
theorem ml_W5 (g : md_C) (p h : Nat) : md_W g p h ≤ 5 := by
  unfold md_W
  repeat' split
  all_goals omega
theorem ml_Buni {g : md_C} {p n n' : Nat} (a : ml_B g p n) (b : ml_B g p n') : n = n' := by
  rcases a with ⟨h, r, w, z, l⟩ | ⟨e, z, h, h', d, r, r'⟩ <;> rcases b with ⟨i, s, v, y, k⟩ | ⟨f, y, i, i', c, s, s'⟩
  · have := l _ s
    have := k _ r
    omega
  · have := y _ r; omega
  · have := z _ s; omega
  · omega
theorem ml_B0 {g : md_C} {p n : Nat} (a : ml_B g p n) : n ≠ 0 ∧ n ≤ 6 := by
  rcases a with ⟨h, r, w, z, l⟩ | ⟨e, _⟩
  · have := ml_W5 g p h; omega
  · omega
/-- the first wrong place -/
def ml_F (g : md_C) (p n : Nat) : Prop := ml_B g p n ∧ ∀ q n', q < p → ¬ ml_B g q n'
theorem ml_Funi {g : md_C} {p n p' n' : Nat} (a : ml_F g p n) (b : ml_F g p' n') : p = p' ∧ n = n' := by
  have e : p = p' := by
    rcases Nat.lt_trichotomy p p' with c | c | c
    · exact absurd a.1 (b.2 _ _ c)
    · exact c
    · exact absurd b.1 (a.2 _ _ c)
  subst e
  exact ⟨rfl, ml_Buni a.1 b.1⟩
/-- more than forty places -/
def ml_Many (g : md_C) : Prop := ∃ f : Nat → Nat, (∀ i, i < 41 → ∃ h, md_R g (f i) h) ∧ ∀ i j, i < 41 → j < 41 → f i = f j → i = j
theorem ml_few {g : md_C} {m : Nat} {K : Nat → Nat} (hm : m ≤ 40) (h : ∀ p h, md_R g p h → ∃ k, k < m ∧ K k = p) : ¬ ml_Many g := by
  rintro ⟨f, a, b⟩
  have := ml_pig m 41 f K (fun i hi => by obtain ⟨h', r⟩ := a i hi; exact h _ _ r) b
  omega
/-- no place is wrong: one depth each, and nothing wrong with it -/
theorem ml_right {g : md_C} (h : ∀ p n, ¬ ml_B g p n) : (∀ p d, md_R g p d → md_W g p d = 0) ∧ (∀ p d d', md_R g p d → md_R g p d' → d = d') := by
  have w : ∀ p d, md_R g p d → md_W g p d = 0 := by
    intro p d r
    apply Classical.byContradiction
    intro hw
    -- the least nonzero
    have : ∃ n, (∃ d, md_R g p d ∧ md_W g p d = n ∧ n ≠ 0) ∧ ∀ j, j < n → ¬ ∃ d, md_R g p d ∧ md_W g p d = j ∧ j ≠ 0 := by
      have : ∀ n, (∃ d, md_R g p d ∧ md_W g p d = n ∧ n ≠ 0) → ∃ n, (∃ d, md_R g p d ∧ md_W g p d = n ∧ n ≠ 0) ∧ ∀ j, j < n → ¬ ∃ d, md_R g p d ∧ md_W g p d = j ∧ j ≠ 0 := by
        intro n
        induction n using Nat.strongRecOn with
        | ind n ih =>
          intro hn
          by_cases c : ∃ j, j < n ∧ ∃ d, md_R g p d ∧ md_W g p d = j ∧ j ≠ 0
          · obtain ⟨j, hj, hd⟩ := c; exact ih j hj hd
          · exact ⟨n, hn, fun j hj hd => c ⟨j, hj, hd⟩⟩
      exact this _ ⟨d, r, rfl, hw⟩
    obtain ⟨n, ⟨d0, r0, w0, n0⟩, least⟩ := this
    refine h p n (Or.inl ⟨d0, r0, w0, n0, fun h' r' => ?_⟩)
    by_cases z : md_W g p h' = 0
    · exact Or.inl z
    · right
      apply Nat.le_of_not_lt
      intro c
      exact least _ c ⟨h', r', rfl, z⟩
  refine ⟨w, fun p d d' r r' => ?_⟩
  apply Classical.byContradiction
  intro hne
  exact h p 6 (Or.inr ⟨rfl, fun h' r'' => w _ _ r'', d, d', hne, r, r'⟩)
end
end
section
/-! ===== sets of numbers as bits ===== -/
section
theorem mb_sh : ∀ d, d < 8 → (1 : Int32) <<< (nI d &&& 31) = nI (2 ^ d) := by decide +kernel
theorem mb_or {w d : Nat} (hd : d < 8) : nI w ||| ((1 : Int32) <<< (nI d &&& 31)) = nI (w ||| 2 ^ d) := by
  rw [mb_sh d hd, nx_or]
theorem mb_lt {w d : Nat} (hw : w < 128) (hd : d < 7) : w ||| 2 ^ d < 128 := Nat.or_lt_two_pow (n := 7) hw (Nat.pow_lt_pow_right (by omega) hd)
theorem mb_tb {w d e : Nat} : (w ||| 2 ^ d).testBit e = true ↔ w.testBit e = true ∨ d = e := by
  rw [Nat.testBit_or, Nat.testBit_two_pow]; simp
theorem mb_M : ∀ d, d < 7 → Nat.testBit 4294967295 d = true := by decide +kernel
/-- what is in a and not in b -/
def mb_dif (a b : Nat) : Nat := a &&& (b ^^^ 4294967295)
theorem mb_difI (a b : Nat) : nI a &&& (nI b ^^^ (-1)) = nI (mb_dif a b) := by
  have : (-1 : Int32) = nI 4294967295 := by decide
  rw [this, nx_xor, nx_and]; rfl
theorem mb_difT {a b d : Nat} (hd : d < 7) : (mb_dif a b).testBit d = true ↔ a.testBit d = true ∧ ¬ b.testBit d = true := by
  unfold mb_dif
  rw [Nat.testBit_and, Nat.testBit_xor, mb_M d hd]
  cases a.testBit d <;> cases b.testBit d <;> simp
theorem mb_difL {a b : Nat} (ha : a < 128) : mb_dif a b < 128 := by
  unfold mb_dif
  exact Nat.lt_of_le_of_lt Nat.and_le_left ha
theorem mb_bit : ∀ w, w < 128 → ∀ d, d < 7 → (nI w &&& nI (2 ^ d) = 0 ↔ ¬ w.testBit d = true) := by decide +kernel
theorem mb_shb : ∀ w, w < 128 → ∀ d, d < 7 → (nI w >>> (nI d &&& 31) &&& 1 = 0 ↔ ¬ w.testBit d = true) := by decide +kernel
theorem mb_z : ∀ w, w < 128 → (nI w = 0 ↔ ∀ d, d < 7 → ¬ w.testBit d = true) := by decide +kernel
theorem mb_one : ∀ w, w < 128 → (nI w &&& (nI w - 1) = 0 ↔ ∀ d, d < 7 → ∀ e, e < 7 → w.testBit d = true → w.testBit e = true → d = e) := by decide +kernel
theorem mb_ext {w d : Nat} (hw : w < 128) (h : w.testBit d = true) : d < 7 := by
  apply Classical.byContradiction
  intro c
  have : w < 2 ^ d := Nat.lt_of_lt_of_le hw (Nat.pow_le_pow_right (n := 2) (i := 7) (by omega) (by omega))
  rw [Nat.testBit_lt_two_pow this] at h
  cases h
theorem mb_open {a b d : Nat} (ha : a < 128) (hd : d < 7) : (nI a &&& (nI b ^^^ (-1))) &&& ((1 : Int32) <<< (nI d &&& 31)) = 0 ↔ ¬ (a.testBit d = true ∧ ¬ b.testBit d = true) := by
  rw [mb_difI, mb_sh d (by omega), mb_bit _ (mb_difL ha) d hd, mb_difT hd]
/-- the five faults as bits 1 to 5 -/
def mb_fm (a b c d e : Bool) : Nat := 2 * a.toNat + 4 * b.toNat + 8 * c.toNat + 16 * d.toNat + 32 * e.toNat
theorem mb_fmor : ∀ a b c d e a' b' c' d' e' : Bool, nI (mb_fm a b c d e) ||| nI (mb_fm a' b' c' d' e') = nI (mb_fm (a || a') (b || b') (c || c') (d || d') (e || e')) := by decide +kernel
theorem mb_fm0 : ∀ a b c d e : Bool, nI (mb_fm a b c d e) = 0 ↔ a = false ∧ b = false ∧ c = false ∧ d = false ∧ e = false := by decide +kernel
end
end
section
/-! ===== classes and types ===== -/
section
def mt_cl (g : md_C) : Nat → Nat → Nat → Nat
  | 0, _, e => e
  | n + 1, c, e => if c < e then mt_cl g n c (mc_p g e) else e
/-- class c is class d or above it -/
abbrev mt_ab (g : md_C) (c d : Nat) : Prop := mt_cl g 8 c d = c
abbrev mt_C (t : Nat) : Prop := 3 ≤ t ∧ t ≤ 10
abbrev mt_fit (g : md_C) (t o : Nat) : Prop := t = o ∨ o = 0 ∨ (mt_C o ∧ (t = 2 ∨ (mt_C t ∧ mt_ab g (o - 3) (t - 3))))
def mt_lca (g : md_C) : Nat → Nat → Nat → Nat
  | 0, c, _ => c
  | n + 1, c, d => if c = d then c else if d < c then mt_lca g n (mc_p g c) d else mt_lca g n c (mc_p g d)
def mt_j (g : md_C) (t o : Nat) : Nat := if t = o then t else if t = 2 ∧ mt_C o then o else if o = 2 ∧ mt_C t then t else if ¬ mt_C t ∨ ¬ mt_C o then 0 else 3 + mt_lca g 16 (t - 3) (o - 3)
theorem mt_cl_le {g : md_C} (hp : ∀ c, mc_p g c ≤ c - 1) : ∀ n c e, e ≤ n → mt_cl g n c e ≤ c ∨ mt_cl g n c e = e ∧ e ≤ c := by
  intro n
  induction n with
  | zero => intro c e he; left; show e ≤ c; omega
  | succ n ih =>
    intro c e he
    by_cases h : c < e
    · simp only [mt_cl, h, if_true]
      have := hp e
      rcases ih c (mc_p g e) (by omega) with x | ⟨x, y⟩
      · exact Or.inl x
      · left; omega
    · simp only [mt_cl, h, if_false]; right; exact ⟨by trivial, by omega⟩
/-- climbing further changes nothing -/
theorem mt_cl_st {g : md_C} (hp : ∀ c, mc_p g c ≤ c - 1) : ∀ n m c e, e ≤ n → e ≤ m → mt_cl g n c e = mt_cl g m c e := by
  intro n
  induction n with
  | zero =>
    intro m c e he hm
    cases m with
    | zero => rfl
    | succ m => simp only [mt_cl]; rw [if_neg (by omega)]
  | succ n ih =>
    intro m c e he hm
    cases m with
    | zero => simp only [mt_cl]; rw [if_neg (by omega)]
    | succ m =>
      simp only [mt_cl]
      by_cases h : c < e
      · rw [if_pos h, if_pos h]
        have := hp e
        exact ih m c _ (by omega) (by omega)
      · rw [if_neg h, if_neg h]
theorem mt_ab_s {g : md_C} (hp : ∀ c, mc_p g c ≤ c - 1) {c d : Nat} (hd : d ≤ 8) (h : c < d) : mt_ab g c d ↔ mt_ab g c (mc_p g d) := by
  have := hp d
  unfold mt_ab
  rw [mt_cl_st hp 8 9 c d (by omega) (by omega)]
  show (if c < d then mt_cl g 8 c (mc_p g d) else d) = c ↔ _
  rw [if_pos h]
theorem mt_ab_r (g : md_C) (c : Nat) : mt_ab g c c := by
  show (if c < c then _ else c) = c
  rw [if_neg (by omega)]
theorem mt_ab_le {g : md_C} (hp : ∀ c, mc_p g c ≤ c - 1) {c d : Nat} (h : mt_ab g c d) : c ≤ d := by
  apply Classical.byContradiction
  intro hn
  have : mt_cl g 8 c d = d := by
    show (if c < d then _ else d) = d
    rw [if_neg (by omega)]
  have h' : mt_cl g 8 c d = c := h
  omega
theorem mt_ab_0 {g : md_C} (hp : ∀ c, mc_p g c ≤ c - 1) : ∀ d, d ≤ 8 → mt_ab g 0 d := by
  intro d
  induction d using Nat.strongRecOn with
  | ind d ih =>
    intro hd
    by_cases h : 0 < d
    · rw [mt_ab_s hp hd h]
      have := hp d
      exact ih _ (by omega) (by omega)
    · have : d = 0 := by omega
      subst this; exact mt_ab_r g 0
/-- the lowest common ancestor -/
theorem mt_lca_ok {g : md_C} (hp : ∀ c, mc_p g c ≤ c - 1) : ∀ n c d, c ≤ 8 → d ≤ 8 → c + d ≤ n → mt_ab g (mt_lca g n c d) c ∧ mt_ab g (mt_lca g n c d) d ∧ ∀ q, mt_ab g q c → mt_ab g q d → q ≤ mt_lca g n c d := by
  intro n
  induction n with
  | zero =>
    intro c d hc hd h
    have e1 : c = 0 := by omega
    have e2 : d = 0 := by omega
    subst e1 e2
    exact ⟨mt_ab_r g 0, mt_ab_r g 0, fun q a _ => mt_ab_le hp a⟩
  | succ n ih =>
    intro c d hc hd h
    simp only [mt_lca]
    by_cases e : c = d
    · subst e
      simp only [if_true]
      exact ⟨mt_ab_r g c, mt_ab_r g c, fun q a _ => mt_ab_le hp a⟩
    · rw [if_neg e]
      by_cases l : d < c
      · rw [if_pos l]
        have := hp c
        obtain ⟨a, b, m⟩ := ih (mc_p g c) d (by omega) hd (by omega)
        have a1 := mt_ab_le hp a
        refine ⟨?_, b, fun q x y => m q ?_ y⟩
        · rw [mt_ab_s hp hc (by omega)]; exact a
        · have := mt_ab_le hp y
          rw [← mt_ab_s hp hc (by omega)]; exact x
      · rw [if_neg l]
        have := hp d
        obtain ⟨a, b, m⟩ := ih c (mc_p g d) hc (by omega) (by omega)
        have b1 := mt_ab_le hp b
        refine ⟨a, ?_, fun q x y => m q x ?_⟩
        · rw [mt_ab_s hp hd (by omega)]; exact b
        · have := mt_ab_le hp x
          rw [← mt_ab_s hp hd (by omega)]; exact y
theorem mt_lca_fit {g : md_C} (hp : ∀ c, mc_p g c ≤ c - 1) {c d : Nat} (hc : c < 8) (hd : d < 8) (h : mt_ab g d c) : mt_lca g 16 c d = d := by
  obtain ⟨a, b, m⟩ := mt_lca_ok hp 16 c d (by omega) (by omega) (by omega)
  have := mt_ab_le hp b
  have := m d h (mt_ab_r g d)
  omega
theorem mt_lca_fit' {g : md_C} (hp : ∀ c, mc_p g c ≤ c - 1) {c d : Nat} (hc : c < 8) (hd : d < 8) (h : mt_ab g c d) : mt_lca g 16 c d = c := by
  obtain ⟨a, b, m⟩ := mt_lca_ok hp 16 c d (by omega) (by omega) (by omega)
  have := mt_ab_le hp a
  have := m c (mt_ab_r g c) h
  omega
theorem mt_lca_top {g : md_C} (hp : ∀ c, mc_p g c ≤ c - 1) {c d r : Nat} (hc : c < 8) (hd : d < 8) (h1 : mt_ab g r c) (h2 : mt_ab g r d) (h3 : ∀ q, r < q → q < 8 → ¬ (mt_ab g q c ∧ mt_ab g q d)) : mt_lca g 16 c d = r := by
  obtain ⟨a, b, m⟩ := mt_lca_ok hp 16 c d (by omega) (by omega) (by omega)
  have l1 := m r h1 h2
  have l2 := mt_ab_le hp a
  apply Classical.byContradiction
  intro hne
  exact h3 (mt_lca g 16 c d) (by omega) (by omega) ⟨a, b⟩
/-- join as the reference makes it -/
theorem mt_j_up {g : md_C} (hp : ∀ c, mc_p g c ≤ c - 1) {t o : Nat} (h : mt_fit g t o) : mt_j g t o = o := by
  unfold mt_j
  by_cases e : t = o
  · rw [if_pos e]; exact e
  · rw [if_neg e]
    by_cases h1 : t = 2 ∧ mt_C o
    · rw [if_pos h1]
    · rw [if_neg h1]
      by_cases h2 : o = 2 ∧ mt_C t
      · rw [if_pos h2]; unfold mt_fit mt_C at *; omega
      · rw [if_neg h2]
        by_cases h3 : ¬ mt_C t ∨ ¬ mt_C o
        · rw [if_pos h3]; unfold mt_fit at h; unfold mt_C at *; omega
        · rw [if_neg h3]
          rcases h with x | x | ⟨x, y | ⟨y, z⟩⟩
          · exact absurd x e
          · unfold mt_C at *; omega
          · unfold mt_C at *; omega
          · unfold mt_C at x y
            rw [mt_lca_fit hp (by omega) (by omega) z]; omega
theorem mt_j_down {g : md_C} (hp : ∀ c, mc_p g c ≤ c - 1) {t o : Nat} (h : mt_fit g o t) : mt_j g t o = t := by
  unfold mt_j
  by_cases e : t = o
  · rw [if_pos e]
  · rw [if_neg e]
    by_cases h1 : t = 2 ∧ mt_C o
    · rw [if_pos h1]; unfold mt_fit mt_C at *; omega
    · rw [if_neg h1]
      by_cases h2 : o = 2 ∧ mt_C t
      · rw [if_pos h2]
      · rw [if_neg h2]
        by_cases h3 : ¬ mt_C t ∨ ¬ mt_C o
        · rw [if_pos h3]; unfold mt_fit at h; unfold mt_C at *; omega
        · rw [if_neg h3]
          rcases h with x | x | ⟨x, y | ⟨y, z⟩⟩
          · exact absurd x.symm e
          · unfold mt_C at *; omega
          · unfold mt_C at *; omega
          · unfold mt_C at x y
            rw [mt_lca_fit' hp (by omega) (by omega) z]; omega
theorem mt_j_no {g : md_C} {t o : Nat} (h1 : ¬ mt_fit g t o) (h2 : ¬ mt_fit g o t) (h : ¬ mt_C t ∨ ¬ mt_C o) : mt_j g t o = 0 := by
  unfold mt_j
  have a : ¬ t = o := fun e => h1 (Or.inl e)
  have b : ¬ (t = 2 ∧ mt_C o) := fun e => h1 (Or.inr (Or.inr ⟨e.2, Or.inl e.1⟩))
  have c : ¬ (o = 2 ∧ mt_C t) := fun e => h2 (Or.inr (Or.inr ⟨e.2, Or.inl e.1⟩))
  rw [if_neg a, if_neg b, if_neg c, if_pos h]
theorem mt_j_lca {g : md_C} (hp : ∀ c, mc_p g c ≤ c - 1) {t o r : Nat} (h1 : ¬ mt_fit g t o) (h2 : ¬ mt_fit g o t) (ht : mt_C t) (ho : mt_C o) (a : mt_ab g r (t - 3)) (b : mt_ab g r (o - 3)) (m : ∀ q, r < q → q < 8 → ¬ (mt_ab g q (t - 3) ∧ mt_ab g q (o - 3))) : mt_j g t o = 3 + r := by
  unfold mt_j
  have a' : ¬ t = o := fun e => h1 (Or.inl e)
  have b' : ¬ (t = 2 ∧ mt_C o) := by unfold mt_C at *; omega
  have c' : ¬ (o = 2 ∧ mt_C t) := by unfold mt_C at *; omega
  have d' : ¬ (¬ mt_C t ∨ ¬ mt_C o) := by
    rintro (x | x)
    · exact x ht
    · exact x ho
  rw [if_neg a', if_neg b', if_neg c', if_neg d']
  unfold mt_C at ht ho
  rw [mt_lca_top hp (by omega) (by omega) a b m]
/-- heights of types: a join that changes goes down -/
def mt_h (t : Nat) : Nat := if t = 0 then 0 else if t = 2 then 9 else if mt_C t then t - 2 else 1
theorem mt_h9 (t : Nat) : mt_h t ≤ 9 := by
  unfold mt_h mt_C
  repeat' split
  all_goals omega
theorem mt_jh {g : md_C} (hp : ∀ c, mc_p g c ≤ c - 1) (t o : Nat) : mt_j g t o = t ∨ mt_h (mt_j g t o) < mt_h t := by
  unfold mt_j
  split
  · exact Or.inl rfl
  · split
    · right
      rename_i h
      unfold mt_h; unfold mt_C at *
      rw [if_neg (by omega), if_neg (by omega), if_pos (by omega), if_neg (by omega), if_pos (by omega)]
      omega
    · split
      · exact Or.inl rfl
      · split
        · by_cases z : t = 0
          · left; exact z.symm
          · right
            unfold mt_h; unfold mt_C at *
            rw [if_pos rfl, if_neg z]
            repeat' split
            all_goals omega
        · rename_i h
          have h' : mt_C t ∧ mt_C o := by
            refine ⟨Classical.byContradiction fun x => h (Or.inl x), Classical.byContradiction fun x => h (Or.inr x)⟩
          unfold mt_C at h'
          obtain ⟨a, b, m⟩ := mt_lca_ok hp 16 (t - 3) (o - 3) (by omega) (by omega) (by omega)
          have l := mt_ab_le hp a
          by_cases e : mt_lca g 16 (t - 3) (o - 3) = t - 3
          · left; omega
          · right
            unfold mt_h mt_C
            rw [if_neg (by omega), if_neg (by omega), if_pos (by omega), if_neg (by omega), if_neg (by omega), if_pos (by omega)]
            omega
theorem mt_j90 {g : md_C} (hp : ∀ c, mc_p g c ≤ c - 1) {t o : Nat} (ht : t ≤ 90) (ho : o ≤ 90) : mt_j g t o ≤ 90 := by
  unfold mt_j
  split
  · exact ht
  · split
    · exact ho
    · split
      · exact ht
      · split
        · omega
        · rename_i h
          have h' : mt_C t ∧ mt_C o := by
            refine ⟨Classical.byContradiction fun x => h (Or.inl x), Classical.byContradiction fun x => h (Or.inr x)⟩
          unfold mt_C at h'
          obtain ⟨a, b, m⟩ := mt_lca_ok hp 16 (t - 3) (o - 3) (by omega) (by omega) (by omega)
          have l := mt_ab_le hp a
          omega
end
end
section
/-! ===== finding types: one pure round, its measure ===== -/
section
def mf_b (b : Bool) : Int32 := if b = true then 1 else 0
def mf_sum (f : Nat → Nat) : Nat → Nat
  | 0 => 0
  | n + 1 => mf_sum f n + f n
theorem mf_sum_le {f h : Nat → Nat} : ∀ n, (∀ s, s < n → f s ≤ h s) → mf_sum f n ≤ mf_sum h n := by
  intro n
  induction n with
  | zero => intro _; exact Nat.le_refl _
  | succ n ih =>
    intro a
    have := ih (fun s hs => a s (by omega))
    have := a n (by omega)
    simp only [mf_sum]; omega
theorem mf_sum_lt {f h : Nat → Nat} : ∀ n, (∀ s, s < n → f s ≤ h s) → (∃ s, s < n ∧ f s < h s) → mf_sum f n < mf_sum h n := by
  intro n
  induction n with
  | zero => rintro _ ⟨s, hs, _⟩; omega
  | succ n ih =>
    rintro a ⟨s, hs, e⟩
    have l := mf_sum_le n (fun s hs => a s (by omega))
    have := a n (by omega)
    simp only [mf_sum]
    by_cases c : s = n
    · subst c; omega
    · have := ih (fun s hs => a s (by omega)) ⟨s, by omega, e⟩
      omega
theorem mf_sum_c {f : Nat → Nat} {c : Nat} : ∀ n, (∀ s, s < n → f s ≤ c) → mf_sum f n ≤ n * c := by
  intro n
  induction n with
  | zero => intro _; simp [mf_sum]
  | succ n ih =>
    intro a
    have := ih (fun s hs => a s (by omega))
    have := a n (by omega)
    simp only [mf_sum]
    rw [Nat.add_mul]; omega
/-- known, and the types found -/
abbrev mf_T : Type := (Nat → Bool) × (Nat → Nat → Nat)
def mf_nw (g : md_C) (T : mf_T) (p : Nat) (f : Nat → Nat) (s : Nat) : Nat := if T.1 p = true then mt_j g (T.2 p s) (f s) else f s
def mf_gv (g : md_C) (T : mf_T) (p n : Nat) (f : Nat → Nat) : mf_T := (fun q => if q = p then true else T.1 q, fun q s => if q = p ∧ s < n then mf_nw g T p f s else T.2 q s)
def mf_ch (g : md_C) (T : mf_T) (p : Nat) (f : Nat → Nat) : Nat → Bool
  | 0 => false
  | s + 1 => mf_ch g T p f s || decide (mf_nw g T p f s ≠ T.2 p s)
def mf_fl (g : md_C) (T : mf_T) (p n : Nat) (f : Nat → Nat) : Bool := !(T.1 p) || mf_ch g T p f n
theorem mf_ch_iff {g : md_C} {T : mf_T} {p : Nat} {f : Nat → Nat} : ∀ n, mf_ch g T p f n = true ↔ ∃ s, s < n ∧ mf_nw g T p f s ≠ T.2 p s := by
  intro n
  induction n with
  | zero => simp [mf_ch]
  | succ n ih =>
    simp only [mf_ch, Bool.or_eq_true, ih, decide_eq_true_eq]
    constructor
    · rintro (⟨s, hs, e⟩ | e)
      · exact ⟨s, by omega, e⟩
      · exact ⟨n, by omega, e⟩
    · rintro ⟨s, hs, e⟩
      by_cases c : s = n
      · subst c; exact Or.inr e
      · exact Or.inl ⟨s, by omega, e⟩
def mf_mp (T : mf_T) (p : Nat) : Nat := if T.1 p = true then mf_sum (fun s => mt_h (T.2 p s)) 10 else 91
def mf_mu (m : Nat) (T : mf_T) : Nat := mf_sum (mf_mp T) m
theorem mf_mp_gv {g : md_C} (hp : ∀ c, mc_p g c ≤ c - 1) (T : mf_T) (p n : Nat) (f : Nat → Nat) (q : Nat) : mf_mp (mf_gv g T p n f) q ≤ mf_mp T q := by
  unfold mf_mp mf_gv
  by_cases e : q = p
  · subst e
    simp only [if_true, true_and]
    by_cases k : T.1 q = true
    · rw [if_pos k]
      refine mf_sum_le _ (fun s hs => ?_)
      by_cases c : s < n
      · simp only [c, if_true, mf_nw, k]
        rcases mt_jh hp (T.2 q s) (f s) with x | x
        · rw [x]; exact Nat.le_refl _
        · omega
      · simp only [c, if_false]; exact Nat.le_refl _
    · rw [if_neg k]
      have := mf_sum_c (f := fun s => mt_h (if s < n then mf_nw g T q f s else T.2 q s)) (c := 9) 10 (fun s hs => mt_h9 _)
      omega
  · simp only [e, if_false, false_and]; exact Nat.le_refl _
theorem mf_mu_gv {g : md_C} (hp : ∀ c, mc_p g c ≤ c - 1) (m : Nat) (T : mf_T) (p n : Nat) (f : Nat → Nat) : mf_mu m (mf_gv g T p n f) ≤ mf_mu m T :=
  mf_sum_le _ (fun q _ => mf_mp_gv hp T p n f q)
theorem mf_mu_fl {g : md_C} (hp : ∀ c, mc_p g c ≤ c - 1) {m : Nat} {T : mf_T} {p n : Nat} {f : Nat → Nat} (hm : p < m) (hn : n ≤ 10) (h : mf_fl g T p n f = true) : mf_mu m (mf_gv g T p n f) < mf_mu m T := by
  refine mf_sum_lt _ (fun q _ => mf_mp_gv hp T p n f q) ⟨p, hm, ?_⟩
  unfold mf_mp mf_gv
  simp only [if_true, true_and]
  by_cases k : T.1 p = true
  · rw [if_pos k]
    have : mf_ch g T p f n = true := by
      unfold mf_fl at h; rw [k] at h; simpa using h
    obtain ⟨s, hs, e⟩ := (mf_ch_iff n).mp this
    refine mf_sum_lt _ (fun s hs => ?_) ⟨s, by omega, ?_⟩
    · by_cases c : s < n
      · simp only [c, if_true, mf_nw, k]
        rcases mt_jh hp (T.2 p s) (f s) with x | x
        · rw [x]; exact Nat.le_refl _
        · omega
      · simp only [c, if_false]; exact Nat.le_refl _
    · simp only [hs, if_true]
      unfold mf_nw at e ⊢
      rw [if_pos k] at e ⊢
      rcases mt_jh hp (T.2 p s) (f s) with x | x
      · exact absurd x e
      · exact x
  · rw [if_neg k]
    have := mf_sum_c (f := fun s => mt_h (if s < n then mf_nw g T p f s else T.2 p s)) (c := 9) 10 (fun s hs => mt_h9 _)
    omega
theorem mf_mu_b (m : Nat) (T : mf_T) (hm : m ≤ 40) : mf_mu m T ≤ 3640 := by
  have := mf_sum_c (f := mf_mp T) (c := 91) m (fun q _ => by
    unfold mf_mp
    split
    · have := mf_sum_c (f := fun s => mt_h (T.2 q s)) (c := 9) 10 (fun s _ => mt_h9 _)
      omega
    · omega)
  have : m * 91 ≤ 40 * 91 := Nat.mul_le_mul_right _ hm
  unfold mf_mu; omega
/-- gives to different places commute -/
theorem mf_gv_comm {g : md_C} {T : mf_T} {p q n n' : Nat} {f f' : Nat → Nat} (h : p ≠ q) : mf_gv g (mf_gv g T p n f) q n' f' = mf_gv g (mf_gv g T q n' f') p n f := by
  unfold mf_gv mf_nw
  refine Prod.ext ?_ ?_
  · funext r
    dsimp only
    by_cases a : r = p <;> by_cases b : r = q <;> simp [a, b]
  · funext r s
    dsimp only
    have h' : ¬ q = p := fun e => h e.symm
    by_cases a : r = p
    · subst a
      have : ¬ r = q := h
      simp [this, h']
    · by_cases b : r = q
      · subst b
        simp [a]
      · simp [a, b]
theorem mf_fl_other {g : md_C} {T : mf_T} {p q n n' : Nat} {f f' : Nat → Nat} (h : p ≠ q) : mf_fl g (mf_gv g T p n f) q n' f' = mf_fl g T q n' f' := by
  have h' : ¬ q = p := fun e => h e.symm
  have e1 : (mf_gv g T p n f).1 q = T.1 q := by unfold mf_gv; simp [h']
  have e2 : ∀ s, (mf_gv g T p n f).2 q s = T.2 q s := by intro s; unfold mf_gv; simp [h']
  have e3 : ∀ k, mf_ch g (mf_gv g T p n f) q f' k = mf_ch g T q f' k := by
    intro k
    induction k with
    | zero => rfl
    | succ k ih =>
      have e4 : mf_nw g (mf_gv g T p n f) q f' k = mf_nw g T q f' k := by unfold mf_nw; rw [e1, e2]
      show (mf_ch g (mf_gv g T p n f) q f' k || decide (mf_nw g (mf_gv g T p n f) q f' k ≠ (mf_gv g T p n f).2 q k)) = (mf_ch g T q f' k || decide (mf_nw g T q f' k ≠ T.2 q k))
      rw [ih, e4, e2]
  unfold mf_fl; rw [e1, e3]
/-- which place a key is -/
def mf_ix (P : Nat → Nat) : Nat → Nat → Nat
  | 0, _ => 0
  | n + 1, p => if P n = p then n else mf_ix P n p
theorem mf_ix_eq {P : Nat → Nat} : ∀ m k, ml_inc m P → k < m → mf_ix P m (P k) = k := by
  intro m
  induction m with
  | zero => intro k _ hk; omega
  | succ m ih =>
    intro k hi hk
    simp only [mf_ix]
    by_cases e : P m = P k
    · rw [if_pos e]; exact ml_inj hi _ _ (by omega) hk e
    · rw [if_neg e]
      have : k ≠ m := fun z => e (by rw [z])
      exact ih k (fun i j a b => hi i j a (by omega)) (by omega)
abbrev mf_isM (g : md_C) (m : Nat) (P : Nat → Nat) (t : Nat) : Prop := 11 ≤ t ∧ t - 11 < m ∧ mc_o g (P (t - 11) % 24) = 8
def mf_mc (g : md_C) (P : Nat → Nat) (t : Nat) : Nat := mc_a g (P (t - 11) % 24)
/-- what the instruction of place k needs of a frame with d values -/
abbrev mf_nd (g : md_C) (m : Nat) (P : Nat → Nat) (k d : Nat) (f : Nat → Nat) : Prop :=
  (mc_o g (P k % 24) = 2 → f (mc_a g (P k % 24)) ≠ 0 ∧ f (mc_a g (P k % 24)) < 51) ∧
  (mc_o g (P k % 24) = 7 → f (3 + d) = 1 ∧ f (2 + d) = 1) ∧
  (mc_o g (P k % 24) = 8 → ∀ i, i < d → f (4 + i) ≠ 11 + k) ∧
  (mc_o g (P k % 24) = 9 → mf_isM g m P (f (3 + d))) ∧
  (mc_o g (P k % 24) = 10 ∨ mc_o g (P k % 24) = 14 ∨ mc_o g (P k % 24) = 19 → 2 ≤ f (3 + d) ∧ f (3 + d) ≤ 10) ∧
  (mc_o g (P k % 24) = 11 ∨ mc_o g (P k % 24) = 18 → mt_fit g (f (3 + d)) (3 + mc_a g (P k % 24))) ∧
  (mc_o g (P k % 24) = 13 → f (3 + d) = 1) ∧
  (mc_o g (P k % 24) = 16 → f (mc_a g (P k % 24)) = 51 + mf_ix P m (md_cl (P k)))
def mf_up (f : Nat → Nat) (i v : Nat) : Nat → Nat := fun s => if s = i then v else f s
/-- what it makes of the frame -/
def mf_cg (g : md_C) (P : Nat → Nat) (k d : Nat) (f : Nat → Nat) : Nat → Nat :=
  if mc_o g (P k % 24) = 0 then mf_up f (4 + d) 1
  else if mc_o g (P k % 24) = 1 then mf_up f (4 + d) 2
  else if mc_o g (P k % 24) = 2 then mf_up f (4 + d) (f (mc_a g (P k % 24)))
  else if mc_o g (P k % 24) = 3 then mf_up f (mc_a g (P k % 24)) (f (3 + d))
  else if mc_o g (P k % 24) = 5 then mf_up f (4 + d) (f (3 + d))
  else if mc_o g (P k % 24) = 6 then mf_up (mf_up f (3 + d) (f (2 + d))) (2 + d) (f (3 + d))
  else if mc_o g (P k % 24) = 8 then mf_up (fun s => if f s = 11 + k then 0 else f s) (4 + d) (11 + k)
  else if mc_o g (P k % 24) = 9 then fun s => if f s = f (3 + d) then 3 + mf_mc g P (f (3 + d)) else f s
  else if mc_o g (P k % 24) = 10 then mf_up f (3 + d) (3 + mc_a g (P k % 24))
  else if mc_o g (P k % 24) = 15 then mf_up f (4 + d) (51 + k)
  else f
abbrev mf_Z : Type := mf_T × Bool
def mf_g1 (g : md_C) (z : mf_Z) (p n : Nat) (f : Nat → Nat) : mf_Z := (mf_gv g z.1 p n f, z.2 || mf_fl g z.1 p n f)
/-- the frame that a handler is given -/
def mf_hf (g : md_C) (f : Nat → Nat) (x : Nat) : Nat → Nat := mf_up f 4 (3 + mc_k g x)
def mf_hs (g : md_C) (m : Nat) (P : Nat → Nat) (k : Nat) (f : Nat → Nat) : Nat → mf_Z → mf_Z
  | 0, z => z
  | x + 1, z => if md_cv g x (P k) then mf_g1 g (mf_hs g m P k f x z) (mf_ix P m (md_at (P k) (mc_g g x))) 5 (mf_hf g f x) else mf_hs g m P k f x z
/-- giving on behind the handlers: behind, then the jump -/
def mf_gb (g : md_C) (P : Nat → Nat) (k n : Nat) (f : Nat → Nat) (z : mf_Z) : mf_Z := if md_gb (mc_o g (P k % 24)) then mf_g1 g z (k + 1) n f else z
def mf_gj (g : md_C) (m : Nat) (P : Nat → Nat) (k n : Nat) (f : Nat → Nat) (z : mf_Z) : mf_Z := match md_L g (P k) with
  | some p => mf_g1 g z (mf_ix P m p) n f
  | none => z
theorem mf_g1_comm {g : md_C} {z : mf_Z} {p q n : Nat} {f : Nat → Nat} : mf_g1 g (mf_g1 g z p n f) q n f = mf_g1 g (mf_g1 g z q n f) p n f := by
  by_cases e : p = q
  · subst e; rfl
  · unfold mf_g1
    dsimp only
    rw [mf_gv_comm e, mf_fl_other e, mf_fl_other (fun h => e h.symm), Bool.or_assoc, Bool.or_assoc, Bool.or_comm (mf_fl g z.1 p n f)]
theorem mf_jb {g : md_C} {m : Nat} {P : Nat → Nat} {k n : Nat} {f : Nat → Nat} {z : mf_Z} : mf_gb g P k n f (mf_gj g m P k n f z) = mf_gj g m P k n f (mf_gb g P k n f z) := by
  unfold mf_gb mf_gj
  cases md_L g (P k) with
  | none => rfl
  | some p =>
    dsimp only
    by_cases b : md_gb (mc_o g (P k % 24))
    · rw [if_pos b, if_pos b]; exact mf_g1_comm
    · rw [if_neg b, if_neg b]
def mf_st (g : md_C) (m : Nat) (P D : Nat → Nat) (k : Nat) (z : mf_Z) : Option mf_Z :=
  if mf_nd g m P k (D k) ((mf_hs g m P k (z.1.2 k) (mc_hc g) z).1.2 k) then
    some (mf_gj g m P k (4 + md_th g (P k) (D k)) (mf_cg g P k (D k) ((mf_hs g m P k (z.1.2 k) (mc_hc g) z).1.2 k)) (mf_gb g P k (4 + md_th g (P k) (D k)) (mf_cg g P k (D k) ((mf_hs g m P k (z.1.2 k) (mc_hc g) z).1.2 k)) (mf_hs g m P k (z.1.2 k) (mc_hc g) z)))
  else none
def mf_rd (g : md_C) (m : Nat) (P D : Nat → Nat) : Nat → mf_Z → Option mf_Z
  | 0, z => some z
  | k + 1, z => match mf_rd g m P D k z with
    | none => none
    | some y => if y.1.1 k = true then mf_st g m P D k y else some y
def mf_it (g : md_C) (m : Nat) (P D : Nat → Nat) : Nat → mf_T → Option mf_T
  | 0, T => some T
  | n + 1, T => match mf_rd g m P D m (T, false) with
    | none => none
    | some y => if y.2 = true then mf_it g m P D n y.1 else some y.1
end
end
section
/-! ===== what a right layout keeps; the measure of a round ===== -/
section
variable {g : md_C} {m : Nat} {P D : Nat → Nat}
theorem mg_R (Y : ml_Y g m P D) {k : Nat} (hk : k < m) : md_R g (P k) (D k) := (Y.2.2.1 _ _).mpr ⟨k, hk, rfl, rfl⟩
theorem mg_V (hG : md_G g) (hM : md_M g) (Y : ml_Y g m P D) {k : Nat} (hk : k < m) : md_V g (P k) := (md_RV hG hM (mg_R Y hk)).1
theorem mg_D (hG : md_G g) (hM : md_M g) (Y : ml_Y g m P D) {k : Nat} (hk : k < m) : D k ≤ 6 := (md_RV hG hM (mg_R Y hk)).2
theorem mg_to (Y : ml_Y g m P D) {k p h : Nat} (hk : k < m) (t : md_T g (P k) (D k) p h) : ∃ j, j < m ∧ P j = p ∧ D j = h :=
  (Y.2.2.1 _ _).mp (md_Rs (mg_R Y hk) ⟨Y.2.2.2 k hk, t⟩)
theorem mg_0 (Y : ml_Y g m P D) : 0 < m ∧ P 0 = 0 ∧ D 0 = 0 := by
  obtain ⟨j, hj, e1, e2⟩ := (Y.2.2.1 _ _).mp (md_R0 g)
  have : j = 0 := by
    apply Classical.byContradiction
    intro c
    have := Y.2.1 0 j (by omega) hj
    omega
  subst this
  exact ⟨hj, e1, e2⟩
theorem mg_next (Y : ml_Y g m P D) {k j : Nat} (hk : k < m) (hj : j < m) (e : P j = P k + 1) : j = k + 1 := by
  rcases Nat.lt_trichotomy j (k + 1) with c | c | c
  · rcases Nat.lt_or_eq_of_le (show j ≤ k by omega) with d | d
    · have := Y.2.1 j k d hk; omega
    · subst d; omega
  · exact c
  · have := Y.2.1 k (k + 1) (by omega) (by omega)
    have := Y.2.1 (k + 1) j c hj
    omega
theorem mg_b (Y : ml_Y g m P D) {k : Nat} (hk : k < m) (b : md_gb (mc_o g (P k % 24))) : k + 1 < m ∧ P (k + 1) = P k + 1 ∧ D (k + 1) = md_th g (P k) (D k) := by
  obtain ⟨j, hj, e1, e2⟩ := mg_to Y hk (Or.inl ⟨b, rfl, rfl⟩)
  have := mg_next Y hk hj e1
  subst this
  exact ⟨hj, e1, e2⟩
theorem mg_j (Y : ml_Y g m P D) {k p : Nat} (hk : k < m) (l : md_L g (P k) = some p) : ∃ j, j < m ∧ P j = p ∧ D j = md_th g (P k) (D k) := mg_to Y hk (Or.inr (Or.inl ⟨l, rfl⟩))
theorem mg_h (Y : ml_Y g m P D) {k x : Nat} (hk : k < m) (hx : x < mc_hc g) (c : md_cv g x (P k)) : ∃ j, j < m ∧ P j = md_at (P k) (mc_g g x) ∧ D j = 1 := mg_to Y hk (Or.inr (Or.inr ⟨x, hx, c, rfl, rfl⟩))
theorem mg_W (Y : ml_Y g m P D) {k : Nat} (hk : k < m) : ¬ md_f1 g (P k) ∧ ¬ md_f2 g (P k) (D k) ∧ ¬ md_f3 g (P k) (D k) ∧ ¬ md_f4 g (P k) ∧ ¬ md_f5 g (P k) := md_W0 (Y.2.2.2 k hk)
theorem mg_th (Y : ml_Y g m P D) {k : Nat} (hk : k < m) : md_tk (mc_o g (P k % 24)) ≤ D k ∧ md_th g (P k) (D k) ≤ 6 := by
  obtain ⟨_, b, c, _, _⟩ := mg_W Y hk
  unfold md_th
  exact ⟨by omega, by omega⟩
theorem mg_cl (hG : md_G g) (hM : md_M g) (Y : ml_Y g m P D) {k : Nat} (hk : k < m) (hn : 0 < md_n (P k)) : ∃ j, j < m ∧ P j = md_cl (P k) := by
  obtain ⟨h', r⟩ := md_Rcl hG hM (mg_R Y hk) hn
  obtain ⟨j, hj, e, _⟩ := (Y.2.2.1 _ _).mp r
  exact ⟨j, hj, e⟩
/-- place k is come to otherwise than from the place ahead of it -/
def mg_hit (g : md_C) (P : Nat → Nat) (j k : Nat) : Prop := md_L g (P j) = some (P k) ∨ ∃ x, x < mc_hc g ∧ md_cv g x (P j) ∧ md_at (P j) (mc_g g x) = P k
theorem mg_mapped (Y : ml_Y g m P D) {k : Nat} (hk : k + 1 < m) (b : ¬ md_gb (mc_o g (P k % 24))) : ∃ j, j < m ∧ mg_hit g P j (k + 1) := by
  have r := mg_R Y hk
  obtain ⟨h0, p0, _⟩ := mg_0 Y
  have lt := Y.2.1 0 (k + 1) (by omega) hk
  rcases md_Rpre r with ⟨e, _⟩ | ⟨q, h, rq, s⟩
  · omega
  · obtain ⟨j, hj, e1, e2⟩ := (Y.2.2.1 _ _).mp rq
    subst e1 e2
    rcases s.2 with ⟨b', e, _⟩ | ⟨l, _⟩ | ⟨x, hx, c, e, _⟩
    · have := mg_next Y hj hk e
      have : j = k := by omega
      subst this
      exact absurd b' b
    · exact ⟨j, hj, Or.inl l⟩
    · exact ⟨j, hj, Or.inr ⟨x, hx, c, e.symm⟩⟩
theorem mf_ix_lt : ∀ m p, 0 < m → mf_ix P m p < m := by
  intro m
  induction m with
  | zero => intro p h; omega
  | succ m ih =>
    intro p _
    simp only [mf_ix]
    split
    · omega
    · cases m with
      | zero => simp [mf_ix]
      | succ m => have := ih p (by omega); omega
/-- a step never raises the measure, and lowers it where it raises the flag -/
def mg_Q (m : Nat) (z y : mf_Z) : Prop := mf_mu m y.1 ≤ mf_mu m z.1 ∧ (y.2 = true → z.2 = true ∨ mf_mu m y.1 < mf_mu m z.1)
theorem mg_Qr (m : Nat) (z : mf_Z) : mg_Q m z z := ⟨Nat.le_refl _, fun h => Or.inl h⟩
theorem mg_Qt {m : Nat} {z y x : mf_Z} (a : mg_Q m z y) (b : mg_Q m y x) : mg_Q m z x := by
  obtain ⟨a1, a2⟩ := a
  obtain ⟨b1, b2⟩ := b
  refine ⟨by omega, fun h => ?_⟩
  rcases b2 h with c | c
  · rcases a2 c with d | d
    · exact Or.inl d
    · right; omega
  · right; omega
theorem mg_Q1 (hp : ∀ c, mc_p g c ≤ c - 1) {z : mf_Z} {p n : Nat} {f : Nat → Nat} (hm : p < m) (hn : n ≤ 10) : mg_Q m z (mf_g1 g z p n f) := by
  unfold mf_g1
  refine ⟨mf_mu_gv hp m z.1 p n f, fun h => ?_⟩
  dsimp only at h ⊢
  rw [Bool.or_eq_true] at h
  rcases h with h | h
  · exact Or.inl h
  · exact Or.inr (mf_mu_fl hp hm hn h)
theorem mg_Qh (hp : ∀ c, mc_p g c ≤ c - 1) (hm : 0 < m) (k : Nat) (f : Nat → Nat) (z : mf_Z) : ∀ x, mg_Q m z (mf_hs g m P k f x z) := by
  intro x
  induction x with
  | zero => exact mg_Qr m z
  | succ x ih =>
    simp only [mf_hs]
    split
    · exact mg_Qt ih (mg_Q1 hp (mf_ix_lt _ _ hm) (by omega))
    · exact ih
theorem mg_Qs (hp : ∀ c, mc_p g c ≤ c - 1) (Y : ml_Y g m P D) {k : Nat} (hk : k < m) {z y : mf_Z} (h : mf_st g m P D k z = some y) : mg_Q m z y := by
  have hm : 0 < m := by omega
  have ht := (mg_th Y hk).2
  unfold mf_st at h
  split at h
  · cases h
    refine mg_Qt (mg_Qh (P := P) hp hm k (z.1.2 k) z (mc_hc g)) ?_
    generalize mf_hs g m P k (z.1.2 k) (mc_hc g) z = w
    generalize mf_cg g P k (D k) (w.1.2 k) = f
    have a : mg_Q m w (mf_gb g P k (4 + md_th g (P k) (D k)) f w) := by
      unfold mf_gb
      split
      · rename_i b
        exact mg_Q1 hp (mg_b Y hk b).1 (by omega)
      · exact mg_Qr m w
    refine mg_Qt a ?_
    unfold mf_gj
    split
    · exact mg_Q1 hp (mf_ix_lt _ _ hm) (by omega)
    · exact mg_Qr m _
  · cases h
theorem mg_Qrd (hp : ∀ c, mc_p g c ≤ c - 1) (Y : ml_Y g m P D) : ∀ k z y, k ≤ m → mf_rd g m P D k z = some y → mg_Q m z y := by
  intro k
  induction k with
  | zero => intro z y _ h; cases h; exact mg_Qr m z
  | succ k ih =>
    intro z y hk h
    simp only [mf_rd] at h
    cases e : mf_rd g m P D k z with
    | none => rw [e] at h; cases h
    | some w =>
      rw [e] at h
      dsimp only at h
      have a := ih z w (by omega) e
      split at h
      · exact mg_Qt a (mg_Qs hp Y (by omega) h)
      · cases h; exact a
end
end
section
/-! ===== at the end every place is known; types stay types; the one pass ===== -/
section
variable {g : md_C} {m : Nat} {P D : Nat → Nat}
/-- nothing new: the flag stays down only if no place became known -/
def mn_N (z y : mf_Z) : Prop := y.2 = false → z.2 = false ∧ y.1.1 = z.1.1
theorem mn_Nr (z : mf_Z) : mn_N z z := fun h => ⟨h, rfl⟩
theorem mn_Nt {z y x : mf_Z} (a : mn_N z y) (b : mn_N y x) : mn_N z x := fun h => ⟨(a (b h).1).1, (b h).2.trans (a (b h).1).2⟩
theorem mn_N1 {z : mf_Z} {p n : Nat} {f : Nat → Nat} (h : (mf_g1 g z p n f).2 = false) : z.2 = false ∧ z.1.1 p = true ∧ (mf_g1 g z p n f).1.1 = z.1.1 := by
  unfold mf_g1 at h ⊢
  dsimp only at h ⊢
  rw [Bool.or_eq_false_iff] at h
  obtain ⟨h1, h2⟩ := h
  unfold mf_fl at h2
  rw [Bool.or_eq_false_iff] at h2
  have k : z.1.1 p = true := by
    have := h2.1
    cases e : z.1.1 p
    · rw [e] at this; cases this
    · rfl
  refine ⟨h1, k, ?_⟩
  funext q
  unfold mf_gv
  dsimp only
  by_cases e : q = p
  · subst e; rw [if_pos rfl, k]
  · rw [if_neg e]
theorem mn_N1' {z : mf_Z} {p n : Nat} {f : Nat → Nat} : mn_N z (mf_g1 g z p n f) := fun h => ⟨(mn_N1 h).1, (mn_N1 h).2.2⟩
theorem mn_Nh (k : Nat) (f : Nat → Nat) (z : mf_Z) : ∀ x, mn_N z (mf_hs g m P k f x z) ∧ ((mf_hs g m P k f x z).2 = false → ∀ i, i < x → md_cv g i (P k) → z.1.1 (mf_ix P m (md_at (P k) (mc_g g i))) = true) := by
  intro x
  induction x with
  | zero => exact ⟨mn_Nr z, fun _ i hi => by omega⟩
  | succ x ih =>
    simp only [mf_hs]
    split
    · rename_i c
      refine ⟨mn_Nt ih.1 mn_N1', fun h i hi ci => ?_⟩
      have a := mn_N1 h
      by_cases e : i = x
      · subst e
        rw [(ih.1 a.1).2] at a
        exact a.2.1
      · exact ih.2 a.1 i (by omega) ci
    · rename_i c
      refine ⟨ih.1, fun h i hi ci => ?_⟩
      by_cases e : i = x
      · subst e; exact absurd ci c
      · exact ih.2 h i (by omega) ci
/-- what place k leads to is known -/
def mn_K (g : md_C) (m : Nat) (P : Nat → Nat) (k : Nat) (kn : Nat → Bool) : Prop := (∀ i, i < mc_hc g → md_cv g i (P k) → kn (mf_ix P m (md_at (P k) (mc_g g i))) = true) ∧ (md_gb (mc_o g (P k % 24)) → kn (k + 1) = true) ∧ (∀ p, md_L g (P k) = some p → kn (mf_ix P m p) = true)
theorem mn_Ns {k : Nat} {z y : mf_Z} (h : mf_st g m P D k z = some y) : mn_N z y ∧ (y.2 = false → mn_K g m P k z.1.1) := by
  unfold mf_st at h
  split at h
  · cases h
    have hh := mn_Nh (g := g) (m := m) (P := P) k (z.1.2 k) z (mc_hc g)
    generalize mf_hs g m P k (z.1.2 k) (mc_hc g) z = w at hh ⊢
    generalize mf_cg g P k (D k) (w.1.2 k) = f
    generalize 4 + md_th g (P k) (D k) = n
    have a : mn_N w (mf_gb g P k n f w) ∧ ((mf_gb g P k n f w).2 = false → md_gb (mc_o g (P k % 24)) → w.1.1 (k + 1) = true) := by
      unfold mf_gb
      split
      · exact ⟨mn_N1', fun h _ => (mn_N1 h).2.1⟩
      · rename_i c
        exact ⟨mn_Nr w, fun _ b => absurd b c⟩
    generalize mf_gb g P k n f w = v at a ⊢
    have b : mn_N v (mf_gj g m P k n f v) ∧ ((mf_gj g m P k n f v).2 = false → ∀ p, md_L g (P k) = some p → v.1.1 (mf_ix P m p) = true) := by
      unfold mf_gj
      cases e : md_L g (P k) with
      | none => exact ⟨mn_Nr v, fun _ p hp => by cases hp⟩
      | some q => exact ⟨mn_N1', fun h p hp => by cases hp; exact (mn_N1 h).2.1⟩
    refine ⟨mn_Nt hh.1 (mn_Nt a.1 b.1), fun h => ?_⟩
    have v2 := b.1 h
    have w2 := a.1 v2.1
    have z2 := hh.1 w2.1
    refine ⟨fun i hi ci => hh.2 w2.1 i hi ci, fun c => ?_, fun p hp => ?_⟩
    · have := a.2 v2.1 c
      rw [z2.2] at this; exact this
    · have := b.2 h p hp
      rw [w2.2, z2.2] at this; exact this
  · cases h
theorem mn_Nrd : ∀ k z y, mf_rd g m P D k z = some y → mn_N z y ∧ (y.2 = false → ∀ i, i < k → z.1.1 i = true → mn_K g m P i z.1.1) := by
  intro k
  induction k with
  | zero => intro z y h; cases h; exact ⟨mn_Nr z, fun _ i hi => by omega⟩
  | succ k ih =>
    intro z y h
    simp only [mf_rd] at h
    cases e : mf_rd g m P D k z with
    | none => rw [e] at h; cases h
    | some w =>
      rw [e] at h
      dsimp only at h
      obtain ⟨a1, a2⟩ := ih z w e
      split at h
      · obtain ⟨b1, b2⟩ := mn_Ns h
        refine ⟨mn_Nt a1 b1, fun hf i hi ki => ?_⟩
        have wf := (b1 hf).1
        by_cases c : i = k
        · subst c
          have := b2 hf
          rw [(a1 wf).2] at this; exact this
        · exact a2 wf i (by omega) ki
      · rename_i nk
        cases h
        refine ⟨a1, fun hf i hi ki => ?_⟩
        by_cases c : i = k
        · subst c
          rw [(a1 hf).2] at nk
          exact absurd ki nk
        · exact a2 hf i (by omega) ki
theorem mn_g1k {z : mf_Z} {p n q : Nat} {f : Nat → Nat} (h : z.1.1 q = true) : (mf_g1 g z p n f).1.1 q = true := by
  unfold mf_g1 mf_gv
  dsimp only
  split
  · rfl
  · exact h
theorem mn_hsk {k q : Nat} {f : Nat → Nat} {z : mf_Z} (h : z.1.1 q = true) : ∀ x, (mf_hs g m P k f x z).1.1 q = true := by
  intro x
  induction x with
  | zero => exact h
  | succ x ih =>
    simp only [mf_hs]
    split
    · exact mn_g1k ih
    · exact ih
theorem mn_stk {k q : Nat} {z y : mf_Z} (h : mf_st g m P D k z = some y) (hq : z.1.1 q = true) : y.1.1 q = true := by
  unfold mf_st at h
  split at h
  · cases h
    have a := mn_hsk (g := g) (m := m) (P := P) (k := k) (f := z.1.2 k) hq (mc_hc g)
    generalize mf_hs g m P k (z.1.2 k) (mc_hc g) z = w at a ⊢
    unfold mf_gj mf_gb
    split
    · split
      · exact mn_g1k (mn_g1k a)
      · exact mn_g1k a
    · split
      · exact mn_g1k a
      · exact a
  · cases h
theorem mn_rdk {q : Nat} : ∀ k z y, mf_rd g m P D k z = some y → z.1.1 q = true → y.1.1 q = true := by
  intro k
  induction k with
  | zero => intro z y h hq; cases h; exact hq
  | succ k ih =>
    intro z y h hq
    simp only [mf_rd] at h
    cases e : mf_rd g m P D k z with
    | none => rw [e] at h; cases h
    | some w =>
      rw [e] at h
      dsimp only at h
      have := ih z w e hq
      split at h
      · exact mn_stk h this
      · cases h; exact this
/-- closed and begun: every place is known -/
theorem mn_all (Y : ml_Y g m P D) {kn : Nat → Bool} (h0 : kn 0 = true) (hK : ∀ k, k < m → kn k = true → mn_K g m P k kn) : ∀ k, k < m → kn k = true := by
  have key : ∀ p h, md_R g p h → ∀ k, k < m → P k = p → kn k = true := by
    intro p h r
    refine md_Ri r (fun p _ => ∀ k, k < m → P k = p → kn k = true) ?_ ?_
    · intro k hk e
      obtain ⟨a, b, _⟩ := mg_0 Y
      have : k = 0 := ml_inj Y.2.1 _ _ hk a (e.trans b.symm)
      subst this; exact h0
    · intro q d q' d' rq I s k hk e
      obtain ⟨j, hj, e1, e2⟩ := (Y.2.2.1 _ _).mp rq
      have kj := I j hj e1
      have K := hK j hj kj
      subst e1
      rcases s.2 with ⟨b, e3, _⟩ | ⟨l, _⟩ | ⟨x, hx, c, e3, _⟩
      · have := mg_next Y hj hk (e.trans e3)
        subst this
        exact K.2.1 b
      · have := K.2.2 _ l
        rw [← e, mf_ix_eq m k Y.2.1 hk] at this
        exact this
      · have := K.1 x hx c
        rw [← e3, ← e, mf_ix_eq m k Y.2.1 hk] at this
        exact this
  intro k hk
  exact key _ _ (mg_R Y hk) k hk rfl
/-- types stay types -/
def mn_90 (T : mf_T) : Prop := ∀ p s, T.2 p s ≤ 90
theorem mn_g90 (hp : ∀ c, mc_p g c ≤ c - 1) {z : mf_Z} {p n : Nat} {f : Nat → Nat} (h : mn_90 z.1) (hf : ∀ s, f s ≤ 90) : mn_90 (mf_g1 g z p n f).1 := by
  intro q s
  unfold mf_g1 mf_gv mf_nw
  dsimp only
  split
  · split
    · exact mt_j90 hp (h _ _) (hf _)
    · exact hf _
  · exact h _ _
theorem mn_up90 {f : Nat → Nat} {i v : Nat} (hf : ∀ s, f s ≤ 90) (hv : v ≤ 90) : ∀ s, mf_up f i v s ≤ 90 := by
  intro s; unfold mf_up; split
  · exact hv
  · exact hf s
theorem mn_h90 (hG : md_G g) {f : Nat → Nat} (hf : ∀ s, f s ≤ 90) (x : Nat) : ∀ s, mf_hf g f x s ≤ 90 := by
  have := (hG.2.2.2.2.1 x).2.2.2
  exact mn_up90 hf (by omega)
theorem mn_hs90 (hG : md_G g) {k : Nat} {f : Nat → Nat} {z : mf_Z} (h : mn_90 z.1) (hf : ∀ s, f s ≤ 90) : ∀ x, mn_90 (mf_hs g m P k f x z).1 := by
  intro x
  induction x with
  | zero => exact h
  | succ x ih =>
    simp only [mf_hs]
    split
    · exact mn_g90 hG.2.2.2.2.2.1 ih (mn_h90 hG hf x)
    · exact ih
theorem mn_lim8 (hG : md_G g) {i : Nat} (h : mc_o g i = 8 ∨ mc_o g i = 10 ∨ mc_o g i = 11 ∨ mc_o g i = 18) : mc_a g i < 8 ∧ mc_r g i = nI (mc_a g i) := by
  have := hG.2.2.2.1 i
  have e : md_lim (mc_o g i) = 8 := by
    unfold md_lim
    rw [if_neg (by omega), if_pos h]
  rw [e] at this
  exact this (by omega)
theorem mn_lim4 (hG : md_G g) {i : Nat} (h : mc_o g i = 2 ∨ mc_o g i = 3 ∨ mc_o g i = 16) : mc_a g i < 4 ∧ mc_r g i = nI (mc_a g i) := by
  have := hG.2.2.2.1 i
  have e : md_lim (mc_o g i) = 4 := by
    unfold md_lim
    rw [if_pos h]
  rw [e] at this
  exact this (by omega)
theorem mn_lim24 (hG : md_G g) {i : Nat} (h : 12 ≤ mc_o g i ∧ mc_o g i ≤ 15) : mc_a g i < 24 ∧ mc_r g i = nI (mc_a g i) := by
  have := hG.2.2.2.1 i
  have e : md_lim (mc_o g i) = 24 := by
    unfold md_lim
    rw [if_neg (by omega), if_neg (by omega), if_pos h]
  rw [e] at this
  exact this (by omega)
theorem mn_cg90 (hG : md_G g) {k d : Nat} {f : Nat → Nat} (hk : k < 40) (hf : ∀ s, f s ≤ 90) (nd : mf_nd g m P k d f) : ∀ s, mf_cg g P k d f s ≤ 90 := by
  unfold mf_cg
  split
  · exact mn_up90 hf (by omega)
  split
  · exact mn_up90 hf (by omega)
  split
  · exact mn_up90 hf (hf _)
  split
  · exact mn_up90 hf (hf _)
  split
  · exact mn_up90 hf (hf _)
  split
  · exact mn_up90 (mn_up90 hf (hf _)) (hf _)
  split
  · refine mn_up90 (fun s => ?_) (by omega)
    split
    · omega
    · exact hf s
  split
  · rename_i o9
    intro s
    have m9 := nd.2.2.2.1 o9
    have := (mn_lim8 hG (i := P (f (3 + d) - 11) % 24) (Or.inl m9.2.2)).1
    unfold mf_mc
    dsimp only
    split
    · omega
    · exact hf s
  split
  · rename_i o10
    have := (mn_lim8 hG (Or.inr (Or.inl o10))).1
    exact mn_up90 hf (by omega)
  split
  · exact mn_up90 hf (by omega)
  · exact hf
theorem mn_st90 (hG : md_G g) {k : Nat} (hk : k < 40) {z y : mf_Z} (h : mf_st g m P D k z = some y) (hz : mn_90 z.1) : mn_90 y.1 := by
  unfold mf_st at h
  split at h
  · rename_i nd
    cases h
    have a := mn_hs90 (m := m) (P := P) (k := k) hG hz (hz k) (mc_hc g)
    have c := mn_cg90 (P := P) hG hk (a k) nd
    generalize mf_hs g m P k (z.1.2 k) (mc_hc g) z = w at a c ⊢
    generalize mf_cg g P k (D k) (w.1.2 k) = f at c ⊢
    have b : mn_90 (mf_gb g P k (4 + md_th g (P k) (D k)) f w).1 := by
      unfold mf_gb
      split
      · exact mn_g90 hG.2.2.2.2.2.1 a c
      · exact a
    unfold mf_gj
    split
    · exact mn_g90 hG.2.2.2.2.2.1 b c
    · exact b
  · cases h
/-- the one pass -/
def mk_fr (M : Nat → Bool) (K : Nat → Nat → Nat) (k : Nat) (f : Nat → Nat) : Nat → Nat := if M k = true then K k else f
abbrev mk_ft (g : md_C) (K : Nat → Nat → Nat) (j n : Nat) (f : Nat → Nat) : Prop := ∀ s, s < n → mt_fit g (f s) (K j s)
def mk_hok (g : md_C) (m : Nat) (P : Nat → Nat) (K : Nat → Nat → Nat) (k : Nat) (f : Nat → Nat) : Prop := ∀ x, x < mc_hc g → md_cv g x (P k) → mk_ft g K (mf_ix P m (md_at (P k) (mc_g g x))) 5 (mf_hf g f x)
noncomputable def mk_rs (g : md_C) (m : Nat) (P D : Nat → Nat) (M : Nat → Bool) (K : Nat → Nat → Nat) (k : Nat) (b : Bool) (f : Nat → Nat) : Nat :=
  if M k = true ∧ b = true ∧ ¬ mk_ft g K k (4 + D k) f then 1
  else @ite Nat (¬ mk_hok g m P K k (mk_fr M K k f)) (Classical.propDecidable _) 2 (if ¬ mf_nd g m P k (D k) (mk_fr M K k f) then 3
  else match md_L g (P k) with
    | some p => if mk_ft g K (mf_ix P m p) (4 + md_th g (P k) (D k)) (mf_cg g P k (D k) (mk_fr M K k f)) then 0 else 4
    | none => 0)
noncomputable def mk_ck (g : md_C) (m : Nat) (P D : Nat → Nat) (M : Nat → Bool) (K : Nat → Nat → Nat) : Nat → Nat → Bool → (Nat → Nat) → Option (Nat × Nat)
  | 0, _, _, _ => none
  | r + 1, k, b, f => if mk_rs g m P D M K k b f = 0 then mk_ck g m P D M K r (k + 1) (decide (md_gb (mc_o g (P k % 24)))) (mf_cg g P k (D k) (mk_fr M K k f)) else some (k, mk_rs g m P D M K k b f)
end
end
section
/-! ===== coming to places: what holds along the way, whichever way is taken ===== -/
section
variable {g : md_C} {c m m' : Nat} {ov ov' : Prop} {E E' : Nat → Nat → Prop} {K w l D K' w' l' D' : Nat → Nat}
def me_at (m : Nat) (K w : Nat → Nat) (p h : Nat) : Prop := ∃ j, j < m ∧ K j = p ∧ (w j).testBit h = true
def me_I (g : md_C) (c : Nat) (ov : Prop) (E : Nat → Nat → Prop) (m : Nat) (K w l D : Nat → Nat) : Prop :=
  m ≤ c ∧ (∀ k, k < m → w k < 128 ∧ l k < 128) ∧ (∀ i j, i < m → j < m → K i = K j → i = j) ∧
  (∀ k d, k < m → (w k).testBit d = true → md_R g (K k) d) ∧
  (∀ k d, k < m → (l k).testBit d = true → (w k).testBit d = true) ∧
  (∀ k d, k < m → (l k).testBit d = true → md_W g (K k) d = 0 → ¬ E k d → ∀ p h, md_T g (K k) d p h → ov ∨ me_at m K w p h) ∧
  me_at m K w 0 0 ∧ (∀ k, k < m → (w k).testBit (D k) = true)
theorem me_old (I : me_I g c ov E m K w l D) {j p h : Nat} (hj : j < m) (e : K j = p) (r : md_R g p h) (hh : h ≤ 6) (hw : ∀ k, k < m → k ≠ j → w' k = w k) (hwj : w' j = w j ||| 2 ^ h) : me_I g c ov E m K w' l D ∧ me_at m K w' p h ∧ ∀ q d, me_at m K w q d → me_at m K w' q d := by
  obtain ⟨i1, i2, i3, i4, i5, i6, i7, i8⟩ := I
  have grow : ∀ k d, k < m → (w k).testBit d = true → (w' k).testBit d = true := by
    intro k d hk hb
    by_cases ek : k = j
    · subst ek; rw [hwj, mb_tb]; exact Or.inl hb
    · rw [hw k hk ek]; exact hb
  have up : ∀ q d, me_at m K w q d → me_at m K w' q d := by
    rintro q d ⟨i, hi, e1, e2⟩
    exact ⟨i, hi, e1, grow i d hi e2⟩
  refine ⟨⟨i1, ?_, i3, ?_, ?_, ?_, up _ _ i7, fun k hk => grow k _ hk (i8 k hk)⟩, ⟨j, hj, e, ?_⟩, up⟩
  · intro k hk
    by_cases ek : k = j
    · subst ek; rw [hwj]; exact ⟨mb_lt (i2 k hk).1 (by omega), (i2 k hk).2⟩
    · rw [hw k hk ek]; exact i2 k hk
  · intro k d hk hb
    by_cases ek : k = j
    · subst ek
      rw [hwj, mb_tb] at hb
      rcases hb with hb | hb
      · exact i4 k d hk hb
      · subst hb; rw [e]; exact r
    · rw [hw k hk ek] at hb; exact i4 k d hk hb
  · intro k d hk hb; exact grow k d hk (i5 k d hk hb)
  · intro k d hk hb hW hE p' h' t
    rcases i6 k d hk hb hW hE p' h' t with x | x
    · exact Or.inl x
    · exact Or.inr (up _ _ x)
  · rw [hwj, mb_tb]; exact Or.inr rfl
theorem me_new (I : me_I g c ov E m K w l D) {p h : Nat} (hm : m < c) (hn : ∀ j, j < m → K j ≠ p) (r : md_R g p h) (hh : h ≤ 6) (hs : ∀ k, k < m → K' k = K k ∧ w' k = w k ∧ l' k = l k ∧ D' k = D k) (h1 : K' m = p) (h2 : w' m = 2 ^ h) (h3 : l' m = 0) (h4 : D' m = h) (hE : ∀ d, ¬ E m d) : me_I g c ov E (m + 1) K' w' l' D' ∧ me_at (m + 1) K' w' p h ∧ ∀ q d, me_at m K w q d → me_at (m + 1) K' w' q d := by
  obtain ⟨i1, i2, i3, i4, i5, i6, i7, i8⟩ := I
  have up : ∀ q d, me_at m K w q d → me_at (m + 1) K' w' q d := by
    rintro q d ⟨i, hi, e1, e2⟩
    obtain ⟨a, b, _, _⟩ := hs i hi
    exact ⟨i, by omega, a.trans e1, by rw [b]; exact e2⟩
  have b2 : 2 ^ h < 2 ^ 7 := Nat.pow_lt_pow_right (by omega) (by omega)
  have tb : ∀ d, (2 ^ h).testBit d = true ↔ h = d := by
    intro d; rw [Nat.testBit_two_pow]; simp
  refine ⟨⟨by omega, ?_, ?_, ?_, ?_, ?_, up _ _ i7, ?_⟩, ⟨m, by omega, h1, ?_⟩, up⟩
  · intro k hk
    by_cases ek : k = m
    · subst ek; rw [h2, h3]; exact ⟨b2, by omega⟩
    · obtain ⟨_, b, d, _⟩ := hs k (by omega)
      rw [b, d]; exact i2 k (by omega)
  · intro i j hi hj e
    by_cases ei : i = m
    · by_cases ej : j = m
      · omega
      · subst ei
        rw [h1, (hs j (by omega)).1] at e
        exact absurd e.symm (hn j (by omega))
    · by_cases ej : j = m
      · subst ej
        rw [h1, (hs i (by omega)).1] at e
        exact absurd e (hn i (by omega))
      · rw [(hs i (by omega)).1, (hs j (by omega)).1] at e
        exact i3 i j (by omega) (by omega) e
  · intro k d hk hb
    by_cases ek : k = m
    · subst ek
      rw [h2, tb] at hb
      subst hb; rw [h1]; exact r
    · obtain ⟨a, b, _, _⟩ := hs k (by omega)
      rw [b] at hb; rw [a]; exact i4 k d (by omega) hb
  · intro k d hk hb
    by_cases ek : k = m
    · subst ek; rw [h3, Nat.zero_testBit] at hb; cases hb
    · obtain ⟨_, b, e, _⟩ := hs k (by omega)
      rw [e] at hb; rw [b]; exact i5 k d (by omega) hb
  · intro k d hk hb hW hE' p' h' t
    by_cases ek : k = m
    · subst ek; rw [h3, Nat.zero_testBit] at hb; cases hb
    · obtain ⟨a, b, e, _⟩ := hs k (by omega)
      rw [e] at hb; rw [a] at hW t
      rcases i6 k d (by omega) hb hW hE' p' h' t with x | x
      · exact Or.inl x
      · exact Or.inr (up _ _ x)
  · intro k hk
    by_cases ek : k = m
    · subst ek; rw [h2, h4, tb]
    · obtain ⟨_, b, _, e⟩ := hs k (by omega)
      rw [b, e]; exact i8 k (by omega)
  · rw [h2, tb]
theorem me_ov (I : me_I g c ov E m K w l D) (h : ov → ov') : me_I g c ov' E m K w l D := by
  obtain ⟨i1, i2, i3, i4, i5, i6, i7, i8⟩ := I
  refine ⟨i1, i2, i3, i4, i5, fun k d hk hb hW hE p' h' t => ?_, i7, i8⟩
  rcases i6 k d hk hb hW hE p' h' t with x | x
  · exact Or.inl (h x)
  · exact Or.inr x
theorem me_mark (I : me_I g c ov (fun _ _ => False) m K w l D) {k0 d0 : Nat} (hk : k0 < m) (hb : (w k0).testBit d0 = true) (hl : ∀ k, k < m → k ≠ k0 → l' k = l k) (hl0 : l' k0 = l k0 ||| 2 ^ d0) : me_I g c ov (fun k d => k = k0 ∧ d = d0) m K w l' D := by
  obtain ⟨i1, i2, i3, i4, i5, i6, i7, i8⟩ := I
  have hd : d0 < 7 := mb_ext (i2 k0 hk).1 hb
  refine ⟨i1, ?_, i3, i4, ?_, ?_, i7, i8⟩
  · intro k h
    by_cases ek : k = k0
    · subst ek; rw [hl0]; exact ⟨(i2 k h).1, mb_lt (i2 k h).2 hd⟩
    · rw [hl k h ek]; exact i2 k h
  · intro k d h hb'
    by_cases ek : k = k0
    · subst ek
      rw [hl0, mb_tb] at hb'
      rcases hb' with x | x
      · exact i5 k d h x
      · subst x; exact hb
    · rw [hl k h ek] at hb'; exact i5 k d h hb'
  · intro k d h hb' hW hE p' h' t
    by_cases ek : k = k0
    · subst ek
      rw [hl0, mb_tb] at hb'
      rcases hb' with x | x
      · exact i6 k d h x hW (fun z => z) p' h' t
      · exact absurd ⟨rfl, x.symm⟩ hE
    · rw [hl k h ek] at hb'; exact i6 k d h hb' hW (fun z => z) p' h' t
theorem me_close {k0 d0 : Nat} (I : me_I g c ov (fun k d => k = k0 ∧ d = d0) m K w l D) (h : md_W g (K k0) d0 = 0 → ∀ p h, md_T g (K k0) d0 p h → ov ∨ me_at m K w p h) : me_I g c ov (fun _ _ => False) m K w l D := by
  obtain ⟨i1, i2, i3, i4, i5, i6, i7, i8⟩ := I
  refine ⟨i1, i2, i3, i4, i5, ?_, i7, i8⟩
  intro k d hk hb hW _ p' h' t
  by_cases e : k = k0 ∧ d = d0
  · obtain ⟨rfl, rfl⟩ := e
    exact h hW p' h' t
  · exact i6 k d hk hb hW e p' h' t
/-- the end: all that came led on, nothing left out -/
theorem me_fin (I : me_I g c ov (fun _ _ => False) m K w l D) (ho : ¬ ov) (hl : ∀ k d, k < m → (w k).testBit d = true → (l k).testBit d = true) (p h : Nat) : md_R g p h ↔ me_at m K w p h := by
  obtain ⟨i1, i2, i3, i4, i5, i6, i7, i8⟩ := I
  constructor
  · intro r
    refine md_Ri r (fun p h => me_at m K w p h) i7 ?_
    rintro q d q' d' rq ⟨j, hj, rfl, hb⟩ s
    rcases i6 j d hj (hl j d hj hb) s.1 (fun z => z) q' d' s.2 with x | x
    · exact absurd x ho
    · exact x
  · rintro ⟨j, hj, rfl, hb⟩
    exact i4 j h hj hb
/-- how many pairs have not led on -/
def me_c1 (x : Nat) : Nat := mf_sum (fun d => if x.testBit d = true then 0 else 1) 7
def me_mu (c m : Nat) (l : Nat → Nat) : Nat := mf_sum (fun k => if k < m then me_c1 (l k) else 7) c
theorem me_c1_7 (x : Nat) : me_c1 x ≤ 7 := by
  have := mf_sum_c (f := fun d => if x.testBit d = true then 0 else 1) (c := 1) 7 (fun s _ => by
    split <;> omega)
  unfold me_c1; omega
theorem me_c1_0 : me_c1 0 = 7 := by decide
theorem me_c1_lt {x d : Nat} (hd : d < 7) (h : ¬ x.testBit d = true) : me_c1 (x ||| 2 ^ d) < me_c1 x := by
  unfold me_c1
  refine mf_sum_lt 7 (fun s _ => ?_) ⟨d, hd, ?_⟩
  · by_cases a : x.testBit s = true
    · have : (x ||| 2 ^ d).testBit s = true := mb_tb.mpr (Or.inl a)
      rw [if_pos this]; omega
    · rw [if_neg a]; split <;> omega
  · rw [if_pos (mb_tb.mpr (Or.inr rfl)), if_neg h]; omega
theorem me_mu_b (c m : Nat) (l : Nat → Nat) : me_mu c m l ≤ c * 7 := by
  refine mf_sum_c c (fun k _ => ?_)
  split
  · exact me_c1_7 _
  · omega
theorem me_mu_new {c m : Nat} {l l' : Nat → Nat} (hs : ∀ k, k < m → l' k = l k) (h0 : l' m = 0) : me_mu c (m + 1) l' ≤ me_mu c m l := by
  refine mf_sum_le c (fun k _ => ?_)
  by_cases a : k < m
  · rw [if_pos (by omega), if_pos a, hs k a]; exact Nat.le_refl _
  · rw [if_neg a]
    split
    · exact me_c1_7 _
    · omega
theorem me_mu_mark {c m : Nat} {l l' : Nat → Nat} {k0 d0 : Nat} (hc : m ≤ c) (hk : k0 < m) (hd : d0 < 7) (h : ¬ (l k0).testBit d0 = true) (hl : ∀ k, k < m → k ≠ k0 → l' k = l k) (hl0 : l' k0 = l k0 ||| 2 ^ d0) : me_mu c m l' < me_mu c m l := by
  refine mf_sum_lt c (fun k _ => ?_) ⟨k0, by omega, ?_⟩
  · by_cases a : k < m
    · rw [if_pos a, if_pos a]
      by_cases e : k = k0
      · subst e; rw [hl0]; exact Nat.le_of_lt (me_c1_lt hd h)
      · rw [hl k a e]; exact Nat.le_refl _
    · rw [if_neg a, if_neg a]; exact Nat.le_refl _
  · rw [if_pos hk, if_pos hk, hl0]
    exact me_c1_lt hd h
end
end
section
/-! ===== running: one pure step ===== -/
section
/-- sorts of the slots (0 none, 1 number, 2 null, 3 link, 4 + j object j), ints, classes, ready, height, objects, line -/
abbrev mr_Q : Type := (Nat → Nat) × (Nat → Int32) × (Nat → Nat) × (Nat → Bool) × Nat × Nat × Nat
def rq_S (q : mr_Q) : Nat → Nat := q.1
def rq_I (q : mr_Q) : Nat → Int32 := q.2.1
def rq_C (q : mr_Q) : Nat → Nat := q.2.2.1
def rq_R (q : mr_Q) : Nat → Bool := q.2.2.2.1
def rq_h (q : mr_Q) : Nat := q.2.2.2.2.1
def rq_n (q : mr_Q) : Nat := q.2.2.2.2.2.1
def rq_l (q : mr_Q) : Nat := q.2.2.2.2.2.2
def mr_uB (f : Nat → Bool) (i : Nat) (v : Bool) : Nat → Bool := fun s => if s = i then v else f s
abbrev mr_ref (q : mr_Q) (t : Nat) : Prop := t = 2 ∨ (4 ≤ t ∧ rq_R q (t - 4) = true)
abbrev mr_of (g : md_C) (q : mr_Q) (t a : Nat) : Prop := t = 2 ∨ (4 ≤ t ∧ rq_R q (t - 4) = true ∧ mt_ab g a (rq_C q (t - 4)))
/-- instruction, operand at the line, the sort on top -/
def mr_o (g : md_C) (q : mr_Q) : Nat := mc_o g (rq_l q)
def mr_a (g : md_C) (q : mr_Q) : Nat := mc_a g (rq_l q)
def mr_t (q : mr_Q) : Nat := rq_S q (3 + rq_h q)
abbrev mr_gd (g : md_C) (q : mr_Q) : Prop :=
  (md_tk (mr_o g q) ≤ rq_h q ∧ rq_h q + md_pu (mr_o g q) ≤ 6 + md_tk (mr_o g q)) ∧
  (mr_o g q = 2 → rq_S q (mr_a g q) ≠ 0 ∧ rq_S q (mr_a g q) ≠ 3) ∧
  (mr_o g q = 7 → mr_t q = 1 ∧ rq_S q (2 + rq_h q) = 1) ∧
  (mr_o g q = 9 → 4 ≤ mr_t q ∧ rq_R q (mr_t q - 4) = false) ∧
  (mr_o g q = 10 ∨ mr_o g q = 14 ∨ mr_o g q = 19 → mr_ref q (mr_t q)) ∧
  (mr_o g q = 11 ∨ mr_o g q = 18 → mr_of g q (mr_t q) (mr_a g q)) ∧
  (mr_o g q = 13 → mr_t q = 1) ∧
  (mr_o g q = 16 → rq_S q (mr_a g q) = 3)
def mr_fd (g : md_C) (i c : Nat) : Nat → Nat → Option Nat
  | 0, _ => none
  | r + 1, x => if (mc_f g x ≤ i ∧ i < mc_t g x) ∧ mt_ab g (mc_k g x) c then some x else mr_fd g i c r (x + 1)
def mr_obj (q : mr_Q) (c : Nat) (b : Bool) : mr_Q := (rq_S q, rq_I q, mf_up (rq_C q) (rq_n q) c, mr_uB (rq_R q) (rq_n q) b, rq_h q, rq_n q + 1, rq_l q)
/-- how: 0 going on, else one more than the answer; last: 0 none, else one more than the class -/
def mr_rz (g : md_C) (q : mr_Q) (ob : Nat) : mr_Q × Nat × Nat := match mr_fd g (rq_l q) (rq_C q ob) (mc_hc g) 0 with
  | some x => ((mf_up (rq_S q) 4 (4 + ob), rq_I q, rq_C q, rq_R q, 1, rq_n q, mc_g g x), 0, 0)
  | none => (q, 3, rq_C q ob + 1)
/-- the object that is raised, if one is, and the state in which it is there -/
def mr_rs (g : md_C) (q : mr_Q) : Option (Nat × mr_Q) :=
  if mr_o g q = 10 ∧ ¬ mr_of g q (mr_t q) (mr_a g q) then some (rq_n q, mr_obj q 1 true)
  else if (mr_o g q = 11 ∨ mr_o g q = 19) ∧ mr_t q = 2 then some (rq_n q, mr_obj q 2 true)
  else if mr_o g q = 19 then some (mr_t q - 4, q) else none
/-- a slot set -/
def mr_set (q : mr_Q) (i s : Nat) (v : Int32) (h l : Nat) : mr_Q := (mf_up (rq_S q) i s, upd (rq_I q) i v, rq_C q, rq_R q, h, rq_n q, l)
def mr_hl (q : mr_Q) (h l : Nat) : mr_Q := (rq_S q, rq_I q, rq_C q, rq_R q, h, rq_n q, l)
def mr_nx (g : md_C) (q : mr_Q) : mr_Q :=
  if mr_o g q = 0 then mr_set q (4 + rq_h q) 1 (mc_r g (rq_l q)) (rq_h q + 1) (rq_l q + 1)
  else if mr_o g q = 1 then mr_set q (4 + rq_h q) 2 0 (rq_h q + 1) (rq_l q + 1)
  else if mr_o g q = 2 then mr_set q (4 + rq_h q) (rq_S q (mr_a g q)) (rq_I q (mr_a g q)) (rq_h q + 1) (rq_l q + 1)
  else if mr_o g q = 3 then mr_set q (mr_a g q) (mr_t q) (rq_I q (3 + rq_h q)) (rq_h q - 1) (rq_l q + 1)
  else if mr_o g q = 5 then mr_set q (4 + rq_h q) (mr_t q) (rq_I q (3 + rq_h q)) (rq_h q + 1) (rq_l q + 1)
  else if mr_o g q = 6 then mr_set (mr_set q (2 + rq_h q) (mr_t q) (rq_I q (3 + rq_h q)) (rq_h q) (rq_l q + 1)) (3 + rq_h q) (rq_S q (2 + rq_h q)) (rq_I q (2 + rq_h q)) (rq_h q) (rq_l q + 1)
  else if mr_o g q = 7 then mr_set q (2 + rq_h q) 1 (rq_I q (2 + rq_h q) + rq_I q (3 + rq_h q)) (rq_h q - 1) (rq_l q + 1)
  else if mr_o g q = 8 then mr_set (mr_obj q (mr_a g q) false) (4 + rq_h q) (4 + rq_n q) 0 (rq_h q + 1) (rq_l q + 1)
  else if mr_o g q = 9 then (rq_S q, rq_I q, rq_C q, mr_uB (rq_R q) (mr_t q - 4) true, rq_h q - 1, rq_n q, rq_l q + 1)
  else if mr_o g q = 10 then mr_hl q (rq_h q) (rq_l q + 1)
  else if mr_o g q = 12 then mr_hl q (rq_h q) (mr_a g q)
  else if mr_o g q = 13 then mr_hl q (rq_h q - 1) (if rq_I q (3 + rq_h q) = 0 then rq_l q + 1 else mr_a g q)
  else if mr_o g q = 14 then mr_hl q (rq_h q - 1) (if mr_t q = 2 then mr_a g q else rq_l q + 1)
  else if mr_o g q = 15 then mr_set q (4 + rq_h q) 3 (nI (rq_l q)) (rq_h q + 1) (mr_a g q)
  else if mr_o g q = 16 then mr_hl q (rq_h q) ((rq_I q (mr_a g q)).toNatClampNeg + 1)
  else mr_hl q (rq_h q - 1) (rq_l q + 1)
/-- one instruction -/
def mr_st (g : md_C) (q : mr_Q) : mr_Q × Nat × Nat :=
  if ¬ mr_gd g q then (q, 5, 0)
  else match mr_rs g q with
    | some r => mr_rz g r.2 r.1
    | none => if mr_o g q = 17 then (q, 1, 0) else if mr_o g q = 18 then (q, 2, if 4 ≤ mr_t q then rq_C q (mr_t q - 4) + 1 else 0) else (mr_nx g q, 0, 0)
/-- the run: b begun, most at most -/
def mr_run (g : md_C) (most : Nat) : Nat → Nat → mr_Q → mr_Q × Nat × Nat × Nat
  | 0, b, q => (q, 0, 0, b)
  | r + 1, b, q => if rq_l q = mc_cc g then (q, 5, 0, b) else if b = most then (q, 4, 0, b) else if (mr_st g q).2.1 = 0 then mr_run g most r (b + 1) (mr_st g q).1 else ((mr_st g q).1, (mr_st g q).2.1, (mr_st g q).2.2, b + 1)
/-- what every state of a run keeps -/
def mr_ok (g : md_C) (q : mr_Q) : Prop := rq_h q ≤ 6 ∧ rq_l q ≤ mc_cc g ∧ (∀ s, s < 4 + rq_h q → (4 ≤ rq_S q s → rq_S q s - 4 < rq_n q) ∧ (rq_S q s = 3 → ∃ l, l < mc_cc g ∧ rq_I q s = nI l)) ∧ (∀ j, j < rq_n q → rq_C q j < 8)
end
end
section
/-! ===== one instruction, case by case ===== -/
section
variable {g : md_C} {q : mr_Q}
theorem mr_nx0 (o : mr_o g q = 0) : mr_nx g q = mr_set q (4 + rq_h q) 1 (mc_r g (rq_l q)) (rq_h q + 1) (rq_l q + 1) := by
  unfold mr_nx; rw [if_pos o]
theorem mr_nx1 (o : mr_o g q = 1) : mr_nx g q = mr_set q (4 + rq_h q) 2 0 (rq_h q + 1) (rq_l q + 1) := by
  unfold mr_nx; rw [if_neg (by omega), if_pos o]
theorem mr_nx2 (o : mr_o g q = 2) : mr_nx g q = mr_set q (4 + rq_h q) (rq_S q (mr_a g q)) (rq_I q (mr_a g q)) (rq_h q + 1) (rq_l q + 1) := by
  unfold mr_nx; rw [if_neg (by omega), if_neg (by omega), if_pos o]
theorem mr_nx3 (o : mr_o g q = 3) : mr_nx g q = mr_set q (mr_a g q) (mr_t q) (rq_I q (3 + rq_h q)) (rq_h q - 1) (rq_l q + 1) := by
  unfold mr_nx; rw [if_neg (by omega), if_neg (by omega), if_neg (by omega), if_pos o]
theorem mr_nx5 (o : mr_o g q = 5) : mr_nx g q = mr_set q (4 + rq_h q) (mr_t q) (rq_I q (3 + rq_h q)) (rq_h q + 1) (rq_l q + 1) := by
  unfold mr_nx; rw [if_neg (by omega), if_neg (by omega), if_neg (by omega), if_neg (by omega), if_pos o]
theorem mr_nx6 (o : mr_o g q = 6) : mr_nx g q = mr_set (mr_set q (2 + rq_h q) (mr_t q) (rq_I q (3 + rq_h q)) (rq_h q) (rq_l q + 1)) (3 + rq_h q) (rq_S q (2 + rq_h q)) (rq_I q (2 + rq_h q)) (rq_h q) (rq_l q + 1) := by
  unfold mr_nx; rw [if_neg (by omega), if_neg (by omega), if_neg (by omega), if_neg (by omega), if_neg (by omega), if_pos o]
theorem mr_nx7 (o : mr_o g q = 7) : mr_nx g q = mr_set q (2 + rq_h q) 1 (rq_I q (2 + rq_h q) + rq_I q (3 + rq_h q)) (rq_h q - 1) (rq_l q + 1) := by
  unfold mr_nx; rw [if_neg (by omega), if_neg (by omega), if_neg (by omega), if_neg (by omega), if_neg (by omega), if_neg (by omega), if_pos o]
theorem mr_nx8 (o : mr_o g q = 8) : mr_nx g q = mr_set (mr_obj q (mr_a g q) false) (4 + rq_h q) (4 + rq_n q) 0 (rq_h q + 1) (rq_l q + 1) := by
  unfold mr_nx; rw [if_neg (by omega), if_neg (by omega), if_neg (by omega), if_neg (by omega), if_neg (by omega), if_neg (by omega), if_neg (by omega), if_pos o]
theorem mr_nx9 (o : mr_o g q = 9) : mr_nx g q = (rq_S q, rq_I q, rq_C q, mr_uB (rq_R q) (mr_t q - 4) true, rq_h q - 1, rq_n q, rq_l q + 1) := by
  unfold mr_nx; rw [if_neg (by omega), if_neg (by omega), if_neg (by omega), if_neg (by omega), if_neg (by omega), if_neg (by omega), if_neg (by omega), if_neg (by omega), if_pos o]
theorem mr_nx10 (o : mr_o g q = 10) : mr_nx g q = mr_hl q (rq_h q) (rq_l q + 1) := by
  unfold mr_nx; rw [if_neg (by omega), if_neg (by omega), if_neg (by omega), if_neg (by omega), if_neg (by omega), if_neg (by omega), if_neg (by omega), if_neg (by omega), if_neg (by omega), if_pos o]
theorem mr_nx12 (o : mr_o g q = 12) : mr_nx g q = mr_hl q (rq_h q) (mr_a g q) := by
  unfold mr_nx; rw [if_neg (by omega), if_neg (by omega), if_neg (by omega), if_neg (by omega), if_neg (by omega), if_neg (by omega), if_neg (by omega), if_neg (by omega), if_neg (by omega), if_neg (by omega), if_pos o]
theorem mr_nx13 (o : mr_o g q = 13) : mr_nx g q = mr_hl q (rq_h q - 1) (if rq_I q (3 + rq_h q) = 0 then rq_l q + 1 else mr_a g q) := by
  unfold mr_nx; rw [if_neg (by omega), if_neg (by omega), if_neg (by omega), if_neg (by omega), if_neg (by omega), if_neg (by omega), if_neg (by omega), if_neg (by omega), if_neg (by omega), if_neg (by omega), if_neg (by omega), if_pos o]
theorem mr_nx14 (o : mr_o g q = 14) : mr_nx g q = mr_hl q (rq_h q - 1) (if mr_t q = 2 then mr_a g q else rq_l q + 1) := by
  unfold mr_nx; rw [if_neg (by omega), if_neg (by omega), if_neg (by omega), if_neg (by omega), if_neg (by omega), if_neg (by omega), if_neg (by omega), if_neg (by omega), if_neg (by omega), if_neg (by omega), if_neg (by omega), if_neg (by omega), if_pos o]
theorem mr_nx15 (o : mr_o g q = 15) : mr_nx g q = mr_set q (4 + rq_h q) 3 (nI (rq_l q)) (rq_h q + 1) (mr_a g q) := by
  unfold mr_nx; rw [if_neg (by omega), if_neg (by omega), if_neg (by omega), if_neg (by omega), if_neg (by omega), if_neg (by omega), if_neg (by omega), if_neg (by omega), if_neg (by omega), if_neg (by omega), if_neg (by omega), if_neg (by omega), if_neg (by omega), if_pos o]
theorem mr_nx16 (o : mr_o g q = 16) : mr_nx g q = mr_hl q (rq_h q) ((rq_I q (mr_a g q)).toNatClampNeg + 1) := by
  unfold mr_nx; rw [if_neg (by omega), if_neg (by omega), if_neg (by omega), if_neg (by omega), if_neg (by omega), if_neg (by omega), if_neg (by omega), if_neg (by omega), if_neg (by omega), if_neg (by omega), if_neg (by omega), if_neg (by omega), if_neg (by omega), if_neg (by omega), if_pos o]
theorem mr_nxd (o : mr_o g q = 4 ∨ mr_o g q = 11 ∨ 17 ≤ mr_o g q) : mr_nx g q = mr_hl q (rq_h q - 1) (rq_l q + 1) := by
  unfold mr_nx; rw [if_neg (by omega), if_neg (by omega), if_neg (by omega), if_neg (by omega), if_neg (by omega), if_neg (by omega), if_neg (by omega), if_neg (by omega), if_neg (by omega), if_neg (by omega), if_neg (by omega), if_neg (by omega), if_neg (by omega), if_neg (by omega), if_neg (by omega)]
end
end
section
/-! ===== arrays of naturals; small differences ===== -/
section
def ar (w : Nat → Nat) : Nat → Int32 := fun k => nI (w k)
theorem ar_ex (a : Nat → Int32) : ∃ w : Nat → Nat, a = ar w := by
  refine ⟨fun k => (a k).toBitVec.toNat, ?_⟩
  funext k
  apply Int32.toBitVec_inj.mp
  apply BitVec.eq_of_toNat_eq
  show _ = (nI (a k).toBitVec.toNat).toBitVec.toNat
  rw [pk_tn (a k).toBitVec.isLt]
theorem ar_at (w : Nat → Nat) {j : Nat} (h : j < 2 ^ 31) : ar w (nI j).toNatClampNeg = nI (w j) := by
  rw [nI_clamp h]; rfl
theorem ar_up (w : Nat → Nat) (k v : Nat) : upd (ar w) k (nI v) = ar (mf_up w k v) := by
  funext j
  unfold upd ar mf_up
  split <;> rfl
theorem ar_ui (w : Nat → Nat) {k : Nat} (v : Nat) (h : k < 2 ^ 31) : upd (ar w) (nI k).toNatClampNeg (nI v) = ar (mf_up w k v) := by
  rw [nI_clamp h, ar_up]
theorem ar_0 : (fun _ => 0 : Nat → Int32) = ar (fun _ => 0) := rfl
theorem up_s {f : Nat → Nat} {i v : Nat} : mf_up f i v i = v := if_pos rfl
theorem up_n {f : Nat → Nat} {i v j : Nat} (h : j ≠ i) : mf_up f i v j = f j := if_neg h
theorem mi_lt0 : ∀ a, a < 7 → ∀ b, b < 3 → (nI a - nI b < 0 ↔ a < b) := by decide +kernel
theorem mi_le6 : ∀ a, a < 7 → ∀ b, b < 3 → ∀ c, c < 3 → (nI a - nI b + nI c ≤ 6 ↔ a + c ≤ 6 + b) := by decide +kernel
theorem mi_add : ∀ a, a < 7 → ∀ b, b < 3 → ∀ c, c < 3 → b ≤ a → nI a - nI b + nI c = nI (a - b + c) := by decide +kernel
theorem mi_n1 : vp_nar .boolean 1 = 1 := by decide
theorem mi_n0 : vp_nar .boolean 0 = 0 := by decide
end
end
section
/-! ===== what every state of a run keeps ===== -/
section
variable {g : md_C}
theorem mr_set_ok {q : mr_Q} {i s h' l' : Nat} {v : Int32} (ok : mr_ok g q) (hh : h' ≤ 6) (hl : l' ≤ mc_cc g) (hs : h' ≤ rq_h q ∨ (i = 4 + rq_h q ∧ h' = rq_h q + 1)) (h4 : 4 ≤ s → s - 4 < rq_n q) (h3 : s = 3 → ∃ l, l < mc_cc g ∧ v = nI l) : mr_ok g (mr_set q i s v h' l') := by
  obtain ⟨o1, o2, o3, o4⟩ := ok
  refine ⟨hh, hl, fun j hj => ?_, o4⟩
  have hj' : j < 4 + h' := hj
  show (4 ≤ mf_up (rq_S q) i s j → mf_up (rq_S q) i s j - 4 < rq_n q) ∧ (mf_up (rq_S q) i s j = 3 → ∃ l, l < mc_cc g ∧ upd (rq_I q) i v j = nI l)
  by_cases e : j = i
  · subst e
    rw [up_s, pk_us]; exact ⟨h4, h3⟩
  · have hj2 : j < 4 + rq_h q := by
      clear h3 h4 o3 o4
      omega
    rw [up_n e, pk_un e]
    exact o3 j hj2
theorem mr_hl_ok {q : mr_Q} {h' l' : Nat} (ok : mr_ok g q) (hh : h' ≤ rq_h q) (hl : l' ≤ mc_cc g) : mr_ok g (mr_hl q h' l') := by
  obtain ⟨o1, o2, o3, o4⟩ := ok
  refine ⟨?_, hl, fun j hj => o3 j ?_, o4⟩
  · show h' ≤ 6; omega
  · have : j < 4 + h' := hj
    omega
theorem mr_obj_ok {q : mr_Q} {c : Nat} {b : Bool} (ok : mr_ok g q) (hc : c < 8) : mr_ok g (mr_obj q c b) := by
  obtain ⟨o1, o2, o3, o4⟩ := ok
  refine ⟨o1, o2, fun j hj => ⟨fun h => ?_, (o3 j hj).2⟩, fun j hj => ?_⟩
  · have := (o3 j hj).1 h
    show rq_S q j - 4 < rq_n q + 1; omega
  · show mf_up (rq_C q) (rq_n q) c j < 8
    by_cases e : j = rq_n q
    · subst e; rw [up_s]; exact hc
    · have hj' : j < rq_n q + 1 := hj
      rw [up_n e]; exact o4 j (by omega)
theorem mr_o20 (hG : md_G g) (q : mr_Q) : mr_o g q < 20 := hG.2.2.1 _
theorem mr_nx_ok (hG : md_G g) (hM : md_M g) {q : mr_Q} (ok : mr_ok g q) (hl : rq_l q < mc_cc g) (gd : mr_gd g q) : mr_ok g (mr_nx g q) ∧ rq_n (mr_nx g q) ≤ rq_n q + 1 := by
  have o1 := ok.1
  have o3 := ok.2.2.1
  have o4 := ok.2.2.2
  have g1 := gd.1.1
  have g2 := gd.1.2
  have gRet := gd.2.2.2.2.2.2.2
  have o20 := mr_o20 hG q
  have t : 0 < rq_h q → _ := fun h => o3 (3 + rq_h q) (by omega)
  have b : 1 < rq_h q → _ := fun h => o3 (2 + rq_h q) (by omega)
  have jmp : 12 ≤ mr_o g q → mr_o g q ≤ 15 → mr_a g q < mc_cc g := fun a b => hM.2.1 _ hl a b
  have tk : ∀ n, mr_o g q = n → md_tk n ≤ rq_h q ∧ rq_h q + md_pu n ≤ 6 + md_tk n := by
    intro n e; rw [e] at g1 g2; exact ⟨g1, g2⟩
  have cs : mr_o g q = 0 ∨ mr_o g q = 1 ∨ mr_o g q = 2 ∨ mr_o g q = 3 ∨ mr_o g q = 5 ∨ mr_o g q = 6 ∨ mr_o g q = 7 ∨ mr_o g q = 8 ∨ mr_o g q = 9 ∨ mr_o g q = 10 ∨ mr_o g q = 12 ∨ mr_o g q = 13 ∨ mr_o g q = 14 ∨ mr_o g q = 15 ∨ mr_o g q = 16 ∨ (mr_o g q = 4 ∨ mr_o g q = 11 ∨ 17 ≤ mr_o g q) := by omega
  rcases cs with o | o | o | o | o | o | o | o | o | o | o | o | o | o | o | o
  · have k := tk _ o; simp [md_tk, md_pu] at k
    rw [mr_nx0 o]
    exact ⟨mr_set_ok ok (by omega) (by omega) (Or.inr ⟨rfl, rfl⟩) (fun h => by omega) (fun h => by omega), Nat.le_succ _⟩
  · have k := tk _ o; simp [md_tk, md_pu] at k
    rw [mr_nx1 o]
    exact ⟨mr_set_ok ok (by omega) (by omega) (Or.inr ⟨rfl, rfl⟩) (fun h => by omega) (fun h => by omega), Nat.le_succ _⟩
  · have k := tk _ o; simp [md_tk, md_pu] at k
    have ha : mr_a g q < 4 := (mn_lim4 hG (i := rq_l q) (Or.inl o)).1
    have a := o3 (mr_a g q) (by omega)
    rw [mr_nx2 o]
    exact ⟨mr_set_ok ok (by omega) (by omega) (Or.inr ⟨rfl, rfl⟩) a.1 a.2, Nat.le_succ _⟩
  · have k := tk _ o; simp [md_tk, md_pu] at k
    have t := t (by omega)
    rw [mr_nx3 o]
    exact ⟨mr_set_ok ok (by omega) (by omega) (Or.inl (by omega)) t.1 t.2, Nat.le_succ _⟩
  · have k := tk _ o; simp [md_tk, md_pu] at k
    have t := t (by omega)
    rw [mr_nx5 o]
    exact ⟨mr_set_ok ok (by omega) (by omega) (Or.inr ⟨rfl, rfl⟩) t.1 t.2, Nat.le_succ _⟩
  · have k := tk _ o; simp [md_tk, md_pu] at k
    have t := t (by omega)
    have b := b (by omega)
    rw [mr_nx6 o]
    exact ⟨mr_set_ok (mr_set_ok ok o1 (by omega) (Or.inl (Nat.le_refl _)) t.1 t.2) o1 (by omega) (Or.inl (Nat.le_refl _)) b.1 b.2, Nat.le_succ _⟩
  · have k := tk _ o; simp [md_tk, md_pu] at k
    rw [mr_nx7 o]
    exact ⟨mr_set_ok ok (by omega) (by omega) (Or.inl (by omega)) (fun h => by omega) (fun h => by omega), Nat.le_succ _⟩
  · have k := tk _ o; simp [md_tk, md_pu] at k
    have ha : mr_a g q < 8 := (mn_lim8 hG (i := rq_l q) (Or.inl o)).1
    rw [mr_nx8 o]
    refine ⟨mr_set_ok (mr_obj_ok ok ha) (by omega) (by omega) (Or.inr ⟨rfl, rfl⟩) (fun _ => ?_) (fun h => by omega), Nat.le_refl _⟩
    show 4 + rq_n q - 4 < rq_n q + 1; omega
  · rw [mr_nx9 o]
    refine ⟨⟨?_, ?_, fun j hj => ?_, o4⟩, Nat.le_succ _⟩
    · show rq_h q - 1 ≤ 6; omega
    · show rq_l q + 1 ≤ _; omega
    · have hj' : j < 4 + (rq_h q - 1) := hj
      exact o3 j (by omega)
  · rw [mr_nx10 o]
    exact ⟨mr_hl_ok ok (Nat.le_refl _) (by omega), Nat.le_succ _⟩
  · rw [mr_nx12 o]
    exact ⟨mr_hl_ok ok (Nat.le_refl _) (Nat.le_of_lt (jmp (by omega) (by omega))), Nat.le_succ _⟩
  · have := jmp (by omega) (by omega)
    rw [mr_nx13 o]
    refine ⟨mr_hl_ok ok (by omega) ?_, Nat.le_succ _⟩
    split
    · omega
    · exact Nat.le_of_lt this
  · have := jmp (by omega) (by omega)
    rw [mr_nx14 o]
    refine ⟨mr_hl_ok ok (by omega) ?_, Nat.le_succ _⟩
    split
    · exact Nat.le_of_lt this
    · omega
  · have k := tk _ o; simp [md_tk, md_pu] at k
    have := jmp (by omega) (by omega)
    rw [mr_nx15 o]
    exact ⟨mr_set_ok ok (by omega) (Nat.le_of_lt this) (Or.inr ⟨rfl, rfl⟩) (fun h => by omega) (fun _ => ⟨_, hl, rfl⟩), Nat.le_succ _⟩
  · have ha : mr_a g q < 4 := (mn_lim4 hG (i := rq_l q) (Or.inr (Or.inr o))).1
    obtain ⟨l, h1, h2⟩ := (o3 (mr_a g q) (by omega)).2 (gRet o)
    rw [mr_nx16 o]
    refine ⟨mr_hl_ok ok (Nat.le_refl _) ?_, Nat.le_succ _⟩
    have := hG.1
    rw [h2, nI_clamp (by omega)]; omega
  · rw [mr_nxd o]
    exact ⟨mr_hl_ok ok (by omega) (by omega), Nat.le_succ _⟩
theorem mr_rz_ok (hM : md_M g) {q : mr_Q} {ob : Nat} (ok : mr_ok g q) (hob : ob < rq_n q) : mr_ok g (mr_rz g q ob).1 ∧ rq_n (mr_rz g q ob).1 = rq_n q := by
  unfold mr_rz
  cases e : mr_fd g (rq_l q) (rq_C q ob) (mc_hc g) 0 with
  | none => exact ⟨ok, rfl⟩
  | some x =>
    dsimp only
    have hx : x < mc_hc g := by
      have : ∀ r y, mr_fd g (rq_l q) (rq_C q ob) r y = some x → x < y + r := by
        intro r
        induction r with
        | zero => intro y h; cases h
        | succ r ih =>
          intro y h
          simp only [mr_fd] at h
          split at h
          · cases h; omega
          · have := ih _ h; omega
      have := this _ _ e
      omega
    obtain ⟨o1, o2, o3, o4⟩ := ok
    refine ⟨⟨?_, ?_, fun j hj => ?_, o4⟩, rfl⟩
    · show 1 ≤ 6; omega
    · exact Nat.le_of_lt (hM.2.2 x hx)
    · have hj' : j < 5 := hj
      show (4 ≤ mf_up (rq_S q) 4 (4 + ob) j → mf_up (rq_S q) 4 (4 + ob) j - 4 < rq_n q) ∧ (mf_up (rq_S q) 4 (4 + ob) j = 3 → ∃ l, l < mc_cc g ∧ rq_I q j = nI l)
      by_cases ej : j = 4
      · subst ej
        rw [up_s]
        exact ⟨fun _ => by omega, fun h => by omega⟩
      · rw [up_n ej]; exact o3 j (by omega)
theorem mr_rs_ok {q : mr_Q} (ok : mr_ok g q) (gd : mr_gd g q) {r : Nat × mr_Q} (h : mr_rs g q = some r) : mr_ok g r.2 ∧ r.1 < rq_n r.2 ∧ rq_n r.2 ≤ rq_n q + 1 ∧ rq_l r.2 = rq_l q := by
  unfold mr_rs at h
  split at h
  · cases h; exact ⟨mr_obj_ok ok (by omega), Nat.lt_succ_self _, Nat.le_refl _, rfl⟩
  split at h
  · cases h; exact ⟨mr_obj_ok ok (by omega), Nat.lt_succ_self _, Nat.le_refl _, rfl⟩
  split at h
  · rename_i n1 n2 o
    cases h
    refine ⟨ok, ?_, Nat.le_succ _, rfl⟩
    have rf := gd.2.2.2.2.1 (Or.inr (Or.inr o))
    have t2 : ¬ mr_t q = 2 := fun e => n2 ⟨Or.inr o, e⟩
    rcases rf with x | ⟨x, _⟩
    · exact absurd x t2
    · have g1 := gd.1.1
      exact (ok.2.2.1 (3 + rq_h q) (by omega)).1 x
  · cases h
theorem mr_st_ok (hG : md_G g) (hM : md_M g) {q : mr_Q} (ok : mr_ok g q) (hl : rq_l q < mc_cc g) : mr_ok g (mr_st g q).1 ∧ rq_n (mr_st g q).1 ≤ rq_n q + 1 := by
  unfold mr_st
  split
  · exact ⟨ok, Nat.le_succ _⟩
  · rename_i gd
    have gd : mr_gd g q := Classical.byContradiction gd
    cases e : mr_rs g q with
    | some r =>
      obtain ⟨a, b, c, _⟩ := mr_rs_ok ok gd e
      obtain ⟨d, f⟩ := mr_rz_ok hM a b
      exact ⟨d, by dsimp only; omega⟩
    | none =>
      dsimp only
      split
      · exact ⟨ok, Nat.le_succ _⟩
      split
      · exact ⟨ok, Nat.le_succ _⟩
      · exact mr_nx_ok hG hM ok hl gd
end
end
section
/-! ===== rows sorted by swaps ===== -/
section
variable {β : Type}
/-- the same rows, in another order -/
def ms_P (m : Nat) (a : Nat → Nat) (b : Nat → β) (a' : Nat → Nat) (b' : Nat → β) : Prop := (∀ i, i < m → ∃ j, j < m ∧ a' i = a j ∧ b' i = b j) ∧ (∀ j, j < m → ∃ i, i < m ∧ a' i = a j ∧ b' i = b j)
theorem ms_Pr (m : Nat) (a : Nat → Nat) (b : Nat → β) : ms_P m a b a b := ⟨fun i hi => ⟨i, hi, rfl, rfl⟩, fun i hi => ⟨i, hi, rfl, rfl⟩⟩
theorem ms_Pt {m : Nat} {a a' a'' : Nat → Nat} {b b' b'' : Nat → β} (x : ms_P m a b a' b') (y : ms_P m a' b' a'' b'') : ms_P m a b a'' b'' := by
  refine ⟨fun i hi => ?_, fun j hj => ?_⟩
  · obtain ⟨k, hk, e1, e2⟩ := y.1 i hi
    obtain ⟨j, hj, e3, e4⟩ := x.1 k hk
    exact ⟨j, hj, e1.trans e3, e2.trans e4⟩
  · obtain ⟨k, hk, e1, e2⟩ := x.2 j hj
    obtain ⟨i, hi, e3, e4⟩ := y.2 k hk
    exact ⟨i, hi, e3.trans e1, e4.trans e2⟩
def ms_s (i j t : Nat) : Nat := if t = j then i else if t = i then j else t
theorem ms_s2 (i j t : Nat) : ms_s i j (ms_s i j t) = t := by
  unfold ms_s
  by_cases a : t = j
  · subst a
    by_cases b : i = t
    · subst b; simp
    · simp [b]
  · by_cases b : t = i
    · subst b; simp [a]
    · simp [a, b]
theorem ms_slt {i j t m : Nat} (hi : i < m) (hj : j < m) (ht : t < m) : ms_s i j t < m := by
  unfold ms_s
  split
  · exact hi
  · split
    · exact hj
    · exact ht
/-- a swap -/
theorem ms_sw {m i j : Nat} {a a' : Nat → Nat} {b b' : Nat → β} (hi : i < m) (hj : j < m) (ha : ∀ t, t < m → a' t = a (ms_s i j t)) (hb : ∀ t, t < m → b' t = b (ms_s i j t)) : ms_P m a b a' b' := by
  refine ⟨fun t ht => ⟨ms_s i j t, ms_slt hi hj ht, ha t ht, hb t ht⟩, fun t ht => ⟨ms_s i j t, ms_slt hi hj ht, ?_, ?_⟩⟩
  · rw [ha _ (ms_slt hi hj ht), ms_s2]
  · rw [hb _ (ms_slt hi hj ht), ms_s2]
def ms_inj (m : Nat) (a : Nat → Nat) : Prop := ∀ i j, i < m → j < m → a i = a j → i = j
theorem ms_swi {m i j : Nat} {a a' : Nat → Nat} (hi : i < m) (hj : j < m) (ha : ∀ t, t < m → a' t = a (ms_s i j t)) (h : ms_inj m a) : ms_inj m a' := by
  intro x y hx hy e
  rw [ha x hx, ha y hy] at e
  have := h _ _ (ms_slt hi hj hx) (ms_slt hi hj hy) e
  have e2 := congrArg (ms_s i j) this
  rw [ms_s2, ms_s2] at e2
  exact e2
theorem ms_upup (a : Nat → Nat) (i j t : Nat) : mf_up (mf_up a i (a j)) j (a i) t = a (ms_s i j t) := by
  unfold mf_up ms_s
  by_cases h : t = j
  · simp [h]
  · by_cases h2 : t = i
    · simp [h, h2]
    · simp [h, h2]
/-- insertion: the row with the held one put where the hole is -/
theorem ms_ins {kr : Nat → Nat} {k key : Nat} (t : Nat) : mf_up (mf_up kr (k + 1) (kr k)) k key t = mf_up kr (k + 1) key (ms_s k (k + 1) t) := by
  unfold mf_up ms_s
  by_cases h : t = k + 1
  · subst h; simp
  · by_cases h2 : t = k
    · subst h2; simp
    · simp [h, h2]
/-- sorted up to e but for the hole at k -/
def ms_H (e k : Nat) (a : Nat → Nat) : Prop := (∀ i j, i < j → j ≤ e → i ≠ k → j ≠ k → a i < a j) ∧ (∀ j, k < j → j ≤ e → a k < a j)
theorem ms_H_step {e k : Nat} {a a' : Nat → Nat} (he : k + 1 ≤ e) (h : ms_H e (k + 1) a) (hs : ∀ t, t ≤ e → a' t = a (ms_s k (k + 1) t)) (lt : a (k + 1) < a k) : ms_H e k a' := by
  obtain ⟨h1, h2⟩ := h
  have e1 : a' (k + 1) = a k := by rw [hs _ he]; unfold ms_s; simp
  have e2 : a' k = a (k + 1) := by rw [hs _ (by omega)]; unfold ms_s; simp
  have e3 : ∀ t, t ≤ e → t ≠ k → t ≠ k + 1 → a' t = a t := by
    intro t ht n1 n2; rw [hs t ht]; unfold ms_s; simp [n1, n2]
  refine ⟨fun i j hij hj ni nj => ?_, fun j hj hje => ?_⟩
  · by_cases c : i = k + 1
    · subst c
      rw [e1, e3 j hj nj (by omega)]
      exact h1 k j (by omega) hj (by omega) (by omega)
    · by_cases d : j = k + 1
      · subst d
        rw [e1, e3 i (by omega) ni c]
        exact h1 i k (by omega) (by omega) c (by omega)
      · rw [e3 i (by omega) ni c, e3 j hj nj d]
        exact h1 i j hij hj c d
  · rw [e2]
    by_cases d : j = k + 1
    · subst d; rw [e1]; exact lt
    · rw [e3 j hje (by omega) d]
      exact h2 j (by omega) hje
theorem ms_H_end {e k : Nat} {a : Nat → Nat} (hk : k ≤ e) (h : ms_H e k a) (lt : k = 0 ∨ a (k - 1) < a k) : ml_inc (e + 1) a := by
  obtain ⟨h1, h2⟩ := h
  intro i j hij hj
  by_cases c : i = k
  · subst c; exact h2 j hij (by omega)
  · by_cases d : j = k
    · subst d
      rcases lt with z | lt
      · omega
      · by_cases e' : i = j - 1
        · subst e'; exact lt
        · have := h1 i (j - 1) (by omega) (by omega) c (by omega)
          omega
    · exact h1 i j hij (by omega) c d
theorem ms_H_0 {e : Nat} {a : Nat → Nat} (h : ml_inc e a) : ms_H e e a := ⟨fun i j hij hj ni nj => h i j hij (by omega), fun j h1 h2 => by omega⟩
end
end
section
/-! ===== the first wrong place, from bits and from least numbers ===== -/
section
variable {g : md_C} {p : Nat}
theorem mw_1 {h : Nat} (a : md_f1 g p) : md_W g p h = 1 := by unfold md_W; rw [if_pos a]
theorem mw_2 {h : Nat} (a : ¬ md_f1 g p) (b : md_f2 g p h) : md_W g p h = 2 := by unfold md_W; rw [if_neg a, if_pos b]
theorem mw_3 {h : Nat} (a : ¬ md_f1 g p) (b : ¬ md_f2 g p h) (c : md_f3 g p h) : md_W g p h = 3 := by unfold md_W; rw [if_neg a, if_neg b, if_pos c]
theorem mw_4 {h : Nat} (a : ¬ md_f1 g p) (b : ¬ md_f2 g p h) (c : ¬ md_f3 g p h) (d : md_f4 g p) : md_W g p h = 4 := by unfold md_W; rw [if_neg a, if_neg b, if_neg c, if_pos d]
theorem mw_5 {h : Nat} (a : ¬ md_f1 g p) (b : ¬ md_f2 g p h) (c : ¬ md_f3 g p h) (d : ¬ md_f4 g p) (e : md_f5 g p) : md_W g p h = 5 := by unfold md_W; rw [if_neg a, if_neg b, if_neg c, if_neg d, if_pos e]
theorem mw_0 {h : Nat} (a : ¬ md_f1 g p) (b : ¬ md_f2 g p h) (c : ¬ md_f3 g p h) (d : ¬ md_f4 g p) (e : ¬ md_f5 g p) : md_W g p h = 0 := by unfold md_W; rw [if_neg a, if_neg b, if_neg c, if_neg d, if_neg e]
theorem mw_g2 {h : Nat} (a : ¬ md_f1 g p) : md_W g p h = 0 ∨ 2 ≤ md_W g p h := by
  unfold md_W; rw [if_neg a]
  repeat' split
  all_goals omega
theorem mw_g3 {h : Nat} (a : ¬ md_f1 g p) (b : ¬ md_f2 g p h) : md_W g p h = 0 ∨ 3 ≤ md_W g p h := by
  unfold md_W; rw [if_neg a, if_neg b]
  repeat' split
  all_goals omega
theorem mw_g4 {h : Nat} (a : ¬ md_f1 g p) (b : ¬ md_f2 g p h) (c : ¬ md_f3 g p h) : md_W g p h = 0 ∨ 4 ≤ md_W g p h := by
  unfold md_W; rw [if_neg a, if_neg b, if_neg c]
  repeat' split
  all_goals omega
theorem mw_g5 {h : Nat} (a : ¬ md_f1 g p) (b : ¬ md_f2 g p h) (c : ¬ md_f3 g p h) (d : ¬ md_f4 g p) : md_W g p h = 0 ∨ 5 ≤ md_W g p h := by
  unfold md_W; rw [if_neg a, if_neg b, if_neg c, if_neg d]
  repeat' split
  all_goals omega
/-- the lowest bit -/
def mw_low (a b c d e : Bool) : Nat := if a = true then 1 else if b = true then 2 else if c = true then 3 else if d = true then 4 else if e = true then 5 else 6
theorem mw_bits {a b c d e : Bool} {d0 : Nat} (r : md_R g p d0) (ha : a = true ↔ ∃ h, md_R g p h ∧ md_f1 g p) (hb : b = true ↔ ∃ h, md_R g p h ∧ md_f2 g p h) (hc : c = true ↔ ∃ h, md_R g p h ∧ md_f3 g p h) (hd : d = true ↔ ∃ h, md_R g p h ∧ md_f4 g p) (he : e = true ↔ ∃ h, md_R g p h ∧ md_f5 g p) (h : (a = true ∨ b = true ∨ c = true ∨ d = true ∨ e = true) ∨ ∃ h h', h ≠ h' ∧ md_R g p h ∧ md_R g p h') : ml_B g p (mw_low a b c d e) := by
  unfold mw_low
  have na : ¬ a = true → ¬ md_f1 g p := fun n f => n (ha.mpr ⟨_, r, f⟩)
  have nb : ¬ b = true → ∀ h, md_R g p h → ¬ md_f2 g p h := fun n h r f => n (hb.mpr ⟨_, r, f⟩)
  have nc : ¬ c = true → ∀ h, md_R g p h → ¬ md_f3 g p h := fun n h r f => n (hc.mpr ⟨_, r, f⟩)
  have nd : ¬ d = true → ¬ md_f4 g p := fun n f => n (hd.mpr ⟨_, r, f⟩)
  have ne : ¬ e = true → ¬ md_f5 g p := fun n f => n (he.mpr ⟨_, r, f⟩)
  by_cases xa : a = true
  · rw [if_pos xa]
    obtain ⟨h, rh, f⟩ := ha.mp xa
    exact Or.inl ⟨h, rh, mw_1 f, by omega, fun h' _ => Or.inr (by rw [mw_1 f]; omega)⟩
  rw [if_neg xa]
  by_cases xb : b = true
  · rw [if_pos xb]
    obtain ⟨h, rh, f⟩ := hb.mp xb
    exact Or.inl ⟨h, rh, mw_2 (na xa) f, by omega, fun h' _ => mw_g2 (na xa)⟩
  rw [if_neg xb]
  by_cases xc : c = true
  · rw [if_pos xc]
    obtain ⟨h, rh, f⟩ := hc.mp xc
    exact Or.inl ⟨h, rh, mw_3 (na xa) (nb xb h rh) f, by omega, fun h' r' => mw_g3 (na xa) (nb xb h' r')⟩
  rw [if_neg xc]
  by_cases xd : d = true
  · rw [if_pos xd]
    obtain ⟨h, rh, f⟩ := hd.mp xd
    exact Or.inl ⟨h, rh, mw_4 (na xa) (nb xb h rh) (nc xc h rh) f, by omega, fun h' r' => mw_g4 (na xa) (nb xb h' r') (nc xc h' r')⟩
  rw [if_neg xd]
  by_cases xe : e = true
  · rw [if_pos xe]
    obtain ⟨h, rh, f⟩ := he.mp xe
    exact Or.inl ⟨h, rh, mw_5 (na xa) (nb xb h rh) (nc xc h rh) (nd xd) f, by omega, fun h' r' => mw_g5 (na xa) (nb xb h' r') (nc xc h' r') (nd xd)⟩
  rw [if_neg xe]
  rcases h with (x | x | x | x | x) | x
  · exact absurd x xa
  · exact absurd x xb
  · exact absurd x xc
  · exact absurd x xd
  · exact absurd x xe
  · exact Or.inr ⟨rfl, fun h r' => mw_0 (na xa) (nb xb h r') (nc xc h r') (nd xd) (ne xe), x⟩
theorem mw_none {a b c d e : Bool} {d0 : Nat} (r : md_R g p d0) (ha : a = true ↔ ∃ h, md_R g p h ∧ md_f1 g p) (hb : b = true ↔ ∃ h, md_R g p h ∧ md_f2 g p h) (hc : c = true ↔ ∃ h, md_R g p h ∧ md_f3 g p h) (hd : d = true ↔ ∃ h, md_R g p h ∧ md_f4 g p) (he : e = true ↔ ∃ h, md_R g p h ∧ md_f5 g p) (h : ¬ ((a = true ∨ b = true ∨ c = true ∨ d = true ∨ e = true) ∨ ∃ h h', h ≠ h' ∧ md_R g p h ∧ md_R g p h')) : ∀ n, ¬ ml_B g p n := by
  intro n
  have xa : ¬ a = true := fun x => h (Or.inl (Or.inl x))
  have xb : ¬ b = true := fun x => h (Or.inl (Or.inr (Or.inl x)))
  have xc : ¬ c = true := fun x => h (Or.inl (Or.inr (Or.inr (Or.inl x))))
  have xd : ¬ d = true := fun x => h (Or.inl (Or.inr (Or.inr (Or.inr (Or.inl x)))))
  have xe : ¬ e = true := fun x => h (Or.inl (Or.inr (Or.inr (Or.inr (Or.inr x)))))
  have na : ¬ md_f1 g p := fun f => xa (ha.mpr ⟨_, r, f⟩)
  have nb : ∀ h, md_R g p h → ¬ md_f2 g p h := fun h r f => xb (hb.mpr ⟨_, r, f⟩)
  have nc : ∀ h, md_R g p h → ¬ md_f3 g p h := fun h r f => xc (hc.mpr ⟨_, r, f⟩)
  have nd : ¬ md_f4 g p := fun f => xd (hd.mpr ⟨_, r, f⟩)
  have ne : ¬ md_f5 g p := fun f => xe (he.mpr ⟨_, r, f⟩)
  rintro (⟨h', r', w, z, _⟩ | ⟨_, _, k⟩)
  · rw [mw_0 na (nb _ r') (nc _ r') nd ne] at w; omega
  · exact h (Or.inr k)
/-- the reference's least number -/
theorem mw_least {w : Nat} (h1 : ∀ h, md_R g p h → md_W g p h = 0 ∨ w ≤ md_W g p h) (h2 : w = 9 ∨ ∃ h, md_R g p h ∧ md_W g p h = w ∧ w ≠ 0) : (w ≠ 9 → ml_B g p w) ∧ (w = 9 → (∃ h h', h ≠ h' ∧ md_R g p h ∧ md_R g p h') → ml_B g p 6) ∧ (w = 9 → ¬ (∃ h h', h ≠ h' ∧ md_R g p h ∧ md_R g p h') → ∀ n, ¬ ml_B g p n) ∧ (w = 9 ∨ w ≤ 5) := by
  have z : w = 9 → ∀ h, md_R g p h → md_W g p h = 0 := by
    intro e h r
    have := h1 h r
    have := ml_W5 g p h
    omega
  refine ⟨fun n => ?_, fun e x => Or.inr ⟨rfl, z e, x⟩, fun e x n => ?_, ?_⟩
  · rcases h2 with x | ⟨h, r, a, b⟩
    · exact absurd x n
    · exact Or.inl ⟨h, r, a, b, h1⟩
  · rintro (⟨h', r', a, b, _⟩ | ⟨_, _, k⟩)
    · rw [z e _ r'] at a; omega
    · exact x k
  · rcases h2 with x | ⟨h, r, a, b⟩
    · exact Or.inl x
    · have := ml_W5 g p h
      right; omega
end
end
