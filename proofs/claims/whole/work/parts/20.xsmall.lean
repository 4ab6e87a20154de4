/-! ===== the class: numbers of instructions, keys ===== -/
section
theorem xb_t {A B : Prop} (h : A) : (¬ (1 : Int32) = 0 → A) ∧ ((1 : Int32) = 0 → B) := ⟨fun _ => h, fun z => absurd z (by decide)⟩
theorem xb_1 {A B : Prop} (h : B) : ((1 : Int32) = 0 → A) ∧ (¬ (1 : Int32) = 0 → B) := ⟨fun z => absurd z (by decide), fun _ => h⟩
theorem xb_0 {A B : Prop} (h : A) : ((0 : Int32) = 0 → A) ∧ (¬ (0 : Int32) = 0 → B) := ⟨fun _ => h, fun z => absurd rfl z⟩
theorem xb_m {A B : Prop} (h : A) : ((-1 : Int32) < 0 → A) ∧ (¬ (-1 : Int32) < 0 → B) := ⟨fun _ => h, fun z => absurd (by decide) z⟩
theorem xb_m' {A B : Prop} (h : B) : (0 ≤ (-1 : Int32) → A) ∧ (¬ 0 ≤ (-1 : Int32) → B) := ⟨fun z => absurd z (by decide), fun _ => h⟩
theorem xb_n {A B : Prop} {n : Nat} (hn : n < 2 ^ 31) (h : B) : (nI n < 0 → A) ∧ (¬ nI n < 0 → B) := ⟨fun z => absurd z (nI_pos hn), fun _ => h⟩
theorem xb_n' {A B : Prop} {n : Nat} (hn : n < 2 ^ 31) (h : A) : (0 ≤ nI n → A) ∧ (¬ 0 ≤ nI n → B) := ⟨fun _ => h, fun z => absurd (nI_pos' hn) z⟩
theorem xa_tk {post : Int32 → Prop} {o : Nat} (ho : o < 20) (h : post (nI (md_tk o))) : wpX_takes post (nI o) := by
  have : o = 0 ∨ o = 1 ∨ o = 2 ∨ o = 3 ∨ o = 4 ∨ o = 5 ∨ o = 6 ∨ o = 7 ∨ o = 8 ∨ o = 9 ∨ o = 10 ∨ o = 11 ∨ o = 12 ∨ o = 13 ∨ o = 14 ∨ o = 15 ∨ o = 16 ∨ o = 17 ∨ o = 18 ∨ o = 19 := by omega
  unfold wpX_takes
  rcases this with rfl | rfl | rfl | rfl | rfl | rfl | rfl | rfl | rfl | rfl | rfl | rfl | rfl | rfl | rfl | rfl | rfl | rfl | rfl | rfl <;> (repeat' (first | exact h | refine br_t (by decide) ?_ | refine br_f (by decide) ?_))
theorem xa_pu {post : Int32 → Prop} {o : Nat} (ho : o < 20) (h : post (nI (md_pu o))) : wpX_puts post (nI o) := by
  have : o = 0 ∨ o = 1 ∨ o = 2 ∨ o = 3 ∨ o = 4 ∨ o = 5 ∨ o = 6 ∨ o = 7 ∨ o = 8 ∨ o = 9 ∨ o = 10 ∨ o = 11 ∨ o = 12 ∨ o = 13 ∨ o = 14 ∨ o = 15 ∨ o = 16 ∨ o = 17 ∨ o = 18 ∨ o = 19 := by omega
  unfold wpX_puts
  rcases this with rfl | rfl | rfl | rfl | rfl | rfl | rfl | rfl | rfl | rfl | rfl | rfl | rfl | rfl | rfl | rfl | rfl | rfl | rfl | rfl <;> (repeat' (first | exact h | refine br_t (by decide) ?_ | refine br_f (by decide) ?_))
theorem xa_gb {post : Int32 → Prop} {o : Nat} (ho : o < 20) (h1 : md_gb o → post 1) (h0 : ¬ md_gb o → post 0) : wpX_goesBehind post (nI o) := by
  unfold wpX_goesBehind
  refine pk_lt o 12 (fun c => h1 (Or.inl c)) (fun c => pk_eq o 13 (fun d => h1 (Or.inr (Or.inl d))) (fun d => pk_eq o 14 (fun e => h1 (Or.inr (Or.inr e))) (fun e => h0 ?_)))
  unfold md_gb; omega
/-- key numbers -/
theorem xk_31 {a : Nat} (h : a < 4194304) : nI a &&& 31 = nI (a % 32) := pk_andN (by omega) 5 (by decide)
theorem xk_20 {a : Nat} (h : a < 4194304) : nI a >>> ((20 : Int32) &&& 31) = nI (a / 1048576) := pk_shrN (by omega) _ 20 (by decide)
theorem xk_s {a s : Nat} (h : a < 4194304) (hs : s < 32) : nI a >>> (nI s &&& 31) = nI (a / 2 ^ s) := pk_shrN (by omega) _ s (s_l s hs)
theorem xk_l {a s : Nat} (hs : s < 32) (h : a * 2 ^ s < 2 ^ 32) : nI a <<< (nI s &&& 31) = nI (a * 2 ^ s) := pk_shlN _ s (s_l s hs) h
theorem xx_n {n a b c i : Nat} (ha : a < 24) (hb : b < 24) (hc : c < 24) (hi : i < 24) : md_x n a b c i / 1048576 = n := by unfold md_x; omega
theorem xx_a {n a b c i : Nat} (ha : a < 24) (hb : b < 24) (hc : c < 24) (hi : i < 24) : md_x n a b c i / 32768 % 32 = a := by unfold md_x; omega
theorem xx_b {n a b c i : Nat} (hb : b < 24) (hc : c < 24) (hi : i < 24) : md_x n a b c i / 1024 % 32 = b := by unfold md_x; omega
theorem xx_c {n a b c i : Nat} (hc : c < 24) (hi : i < 24) : md_x n a b c i / 32 % 32 = c := by unfold md_x; omega
theorem xx_i {n a b c i : Nat} (hi : i < 24) : md_x n a b c i % 32 = i := by unfold md_x; omega
theorem mo_24 (x : Nat) : x % 24 < 24 := Nat.mod_lt x (by omega)
theorem xk_i (p : Nat) : md_kx p % 32 = p % 24 := xx_i (mo_24 _)
theorem xk_n (p : Nat) : md_kx p / 1048576 = md_n p := xx_n (mo_24 _) (mo_24 _) (mo_24 _) (mo_24 _)
theorem xk_c (p j : Nat) (hj : j < 3) : md_kx p / 2 ^ (20 - 5 * (j + 1)) % 32 = md_c p j := by
  have : j = 0 ∨ j = 1 ∨ j = 2 := by omega
  rcases this with rfl | rfl | rfl
  · exact xx_a (mo_24 _) (mo_24 _) (mo_24 _) (mo_24 _)
  · exact xx_b (mo_24 _) (mo_24 _) (mo_24 _)
  · exact xx_c (mo_24 _) (mo_24 _)
theorem xk_e (p : Nat) : md_kx p = 32 * md_e (md_e (md_e (fun x => x))) (p / 24) + p % 24 := md_kx_e p
theorem xk_ge (p : Nat) : p % 24 ≤ md_kx p := by rw [xk_e]; omega
theorem xk_at (p i : Nat) (hi : i < 24) : md_kx (md_at p i) = md_kx p - p % 24 + i := by
  have e : md_at p i % 24 = i := by unfold md_at; omega
  rw [xk_e, xk_e p, md_at24 hi, e]; omega
theorem xk_1 (p : Nat) (hi : p % 24 + 1 < 24) : md_kx (p + 1) = md_kx p + 1 := by
  have e1 : (p + 1) / 24 = p / 24 := by omega
  have e2 : (p + 1) % 24 = p % 24 + 1 := by omega
  rw [xk_e, xk_e p, e1, e2]; omega
end
