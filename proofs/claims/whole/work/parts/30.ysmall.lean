/-! ===== the reference: numbers of instructions, keys ===== -/
section
variable {f_length f_handlers f_many f_there f_typed f_wrongNumber f_wrongPlace f_size f_why f_height f_objects f_line f_begun f_last f_end : Int32} {a_parent a_begin a_op a_arg a_from a_to a_target a_caught a_places a_heights a_gone a_worst a_frames a_maps a_high a_known a_mapped a_now a_sorts a_ints a_classes a_ready : Nat → Int32}
variable {g : md_C} {post : Int32 → Prop}
theorem ya_tk {o : Nat} (ho : o < 20) (h : post (nI (md_tk o))) : wpY_takes post (nI o) := by
  have : o = 0 ∨ o = 1 ∨ o = 2 ∨ o = 3 ∨ o = 4 ∨ o = 5 ∨ o = 6 ∨ o = 7 ∨ o = 8 ∨ o = 9 ∨ o = 10 ∨ o = 11 ∨ o = 12 ∨ o = 13 ∨ o = 14 ∨ o = 15 ∨ o = 16 ∨ o = 17 ∨ o = 18 ∨ o = 19 := by omega
  unfold wpY_takes wY_takes_26 wY_takes_38
  rcases this with rfl | rfl | rfl | rfl | rfl | rfl | rfl | rfl | rfl | rfl | rfl | rfl | rfl | rfl | rfl | rfl | rfl | rfl | rfl | rfl <;> (repeat' (first | exact h | refine br_t (by decide) ?_ | refine br_f (by decide) ?_))
theorem ya_pu {o : Nat} (ho : o < 20) (h : post (nI (md_pu o))) : wpY_puts post (nI o) := by
  have : o = 0 ∨ o = 1 ∨ o = 2 ∨ o = 3 ∨ o = 4 ∨ o = 5 ∨ o = 6 ∨ o = 7 ∨ o = 8 ∨ o = 9 ∨ o = 10 ∨ o = 11 ∨ o = 12 ∨ o = 13 ∨ o = 14 ∨ o = 15 ∨ o = 16 ∨ o = 17 ∨ o = 18 ∨ o = 19 := by omega
  unfold wpY_puts
  rcases this with rfl | rfl | rfl | rfl | rfl | rfl | rfl | rfl | rfl | rfl | rfl | rfl | rfl | rfl | rfl | rfl | rfl | rfl | rfl | rfl <;> (repeat' (first | exact h | refine br_t (by decide) ?_ | refine br_f (by decide) ?_))
theorem ya_gb {o : Nat} (ho : o < 20) (h1 : md_gb o → post 1) (h0 : ¬ md_gb o → post 0) : wpY_goesBehind post (f_length, f_handlers, f_many, f_there, f_typed, f_wrongNumber, f_wrongPlace, f_size, f_why, f_height, f_objects, f_line, f_begun, f_last, f_end, a_parent, a_begin, a_op, a_arg, a_from, a_to, a_target, a_caught, a_places, a_heights, a_gone, a_worst, a_frames, a_maps, a_high, a_known, a_mapped, a_now, a_sorts, a_ints, a_classes, a_ready) (nI o) := by
  unfold wpY_goesBehind
  dsimp only
  refine pk_lt o 12 (fun c => h1 (Or.inl c)) (fun c => pk_eq o 13 (fun d => h1 (Or.inr (Or.inl d))) (fun d => pk_eq o 14 (fun e => h1 (Or.inr (Or.inr e))) (fun e => h0 ?_)))
  unfold md_gb; omega
theorem ya_jp {o : Nat} (ho : o < 20) (h1 : 12 ≤ o ∧ o ≤ 15 → post 1) (h0 : ¬ (12 ≤ o ∧ o ≤ 15) → post 0) : wpY_jumps post (nI o) := by
  unfold wpY_jumps
  exact pk_lt o 12 (fun c => h0 (by omega)) (fun c => pk_lt 15 o (fun d => h0 (by omega)) (fun d => h1 ⟨c, d⟩))
theorem yk_24 {p : Nat} (hp : p < 2 ^ 31) : nI p - nI p / 24 * 24 = nI (p % 24) := pk_rem (d := 24) hp (by omega) (by omega)
theorem ya_ins {p : Nat} (hp : p < 2 ^ 31) (h : post (nI (p % 24))) : wpY_instruction post (nI p) := by
  refine ⟨by decide, ?_⟩
  rw [yk_24 hp]; exact h
theorem ya_calls {p : Nat} (hp : p < 2 ^ 31) (h : post (nI (md_n p))) : wpY_calls post (nI p) := by
  refine ⟨by decide, ?_⟩
  have e : nI p / 331776 = nI (p / 331776) := pk_div (d := 331776) hp (by omega) (by omega)
  rw [e]; exact h
theorem ya_callOf {p j : Nat} (hp : p < 2 ^ 31) (hj : j < 3) (h : post (nI (md_c p j))) : wpY_callOf post (nI p) (nI j) := by
  unfold wpY_callOf
  have e0 : nI p / 13824 = nI (p / 13824) := pk_div (d := 13824) hp (by omega) (by omega)
  have e1 : nI p / 576 = nI (p / 576) := pk_div (d := 576) hp (by omega) (by omega)
  have e2 : nI p / 24 = nI (p / 24) := pk_div (d := 24) hp (by omega) (by omega)
  refine pk_eq j 0 (fun c => ⟨by decide, by decide, ?_⟩) (fun c => pk_eq j 1 (fun d => ⟨by decide, by decide, ?_⟩) (fun d => ⟨by decide, by decide, ?_⟩))
  · subst c
    rw [e0, yk_24 (by omega)]; exact h
  · subst d
    rw [e1, yk_24 (by omega)]; exact h
  · have : j = 2 := by omega
    subst this
    rw [e2, yk_24 (by omega)]; exact h
theorem ya_weight {j : Nat} (hj : j < 2 ^ 31) (h : post (nI (md_w j))) : wpY_weight post (nI j) := by
  unfold wpY_weight
  refine pk_eq j 0 (fun c => ?_) (fun c => pk_eq j 1 (fun d => ?_) (fun d => ?_))
  · subst c; exact h
  · subst d; exact h
  · unfold md_w at h; rw [if_neg c, if_neg d] at h; exact h
theorem yk_at {p i : Nat} (hp : p < 2 ^ 31) : nI p - (nI p - nI p / 24 * 24) + nI i = nI (md_at p i) := by
  rw [yk_24 hp, pk_sub (Nat.mod_le _ _), nI_add]; rfl
theorem ya_at {p i : Nat} (hp : p < 2 ^ 31) (h : post (nI (md_at p i))) : wpY_at post (nI p) (nI i) := by
  refine ⟨by decide, ?_⟩
  rw [yk_at hp]; exact h
theorem ya_dp {p i : Nat} (hp : p < 2 ^ 31) (h : post (nI (md_dp p i))) : wpY_deeper post (nI p) (nI i) := by
  unfold wpY_deeper
  refine ya_calls hp ⟨by decide, ya_ins hp (ya_weight (by unfold md_n; omega) ?_)⟩
  have e : nI p - (nI p - nI p / 24 * 24) + nI i + 331776 + nI (p % 24) * nI (md_w (md_n p)) = nI (md_dp p i) := by
    rw [yk_at hp, pk_mul]
    show nI (md_at p i) + nI 331776 + _ = _
    rw [nI_add, nI_add]; rfl
  rw [e]; exact h
theorem ya_cl {p : Nat} (hG : mc_cc g ≤ 24) (hV : md_V g p) (hn : 0 < md_n p) (h : post (nI (md_cl p))) : wpY_caller post (nI p) := by
  have hp := md_Vlt hG hV
  have hn3 := md_Vn hG hV
  unfold wpY_caller
  refine ya_calls (by omega) (nm_r (e' := nI (md_n p - 1)) (pk_sub (b := 1) hn) ?_)
  refine ya_callOf (by omega) (by omega) (ya_at (by omega) (ya_weight (by omega) ?_))
  have e : nI (md_at p (md_c p (md_n p - 1))) - 331776 - nI (md_c p (md_n p - 1)) * nI (md_w (md_n p - 1)) = nI (md_cl p) := by
    have hle : 331776 + md_c p (md_n p - 1) * md_w (md_n p - 1) ≤ md_at p (md_c p (md_n p - 1)) := by
      rcases md_V4 hV with ⟨i, hi, rfl⟩ | ⟨a, i, ha, hi, rfl⟩ | ⟨a, b, i, ha, hb, hi, rfl⟩ | ⟨a, b, c, i, ha, hb, hc, hi, rfl⟩
      · exact absurd hn (by unfold md_n; rw [my_n (by omega) (by omega) (by omega) (by omega)]; omega)
      · rw [show md_n (md_y 1 a 0 0 i) = 1 from my_n (by omega) (by omega) (by omega) (by omega), md_c1 (by omega) (by omega), my_at (by omega)]
        unfold md_w md_y; simp <;> omega
      · rw [show md_n (md_y 2 a b 0 i) = 2 from my_n (by omega) (by omega) (by omega) (by omega), md_c2 (by omega) (by omega), my_at (by omega)]
        unfold md_w md_y; simp <;> omega
      · rw [show md_n (md_y 3 a b c i) = 3 from my_n (by omega) (by omega) (by omega) (by omega), md_c3 (by omega) (by omega), my_at (by omega)]
        unfold md_w md_y; simp <;> omega
    rw [pk_mul]
    show nI _ - nI 331776 - _ = _
    rw [pk_sub (by omega), pk_sub (by omega)]; rfl
  rw [e]; exact h
theorem ya_bh {p : Nat} (hG : md_G g) (hV : md_V g p) (h1 : md_gb (mc_o g (p % 24)) → post (nI (p + 1))) (h0 : ¬ md_gb (mc_o g (p % 24)) → post (-1)) : wpY_behind post ((nI (mc_cc g)), (nI (mc_hc g)), f_many, f_there, f_typed, f_wrongNumber, f_wrongPlace, f_size, f_why, f_height, f_objects, f_line, f_begun, f_last, f_end, (ar (mc_p g)), (ar (mc_e g)), (ar (mc_o g)), (mc_r g), (ar (mc_f g)), (ar (mc_t g)), (ar (mc_g g)), (ar (mc_k g)), a_places, a_heights, a_gone, a_worst, a_frames, a_maps, a_high, a_known, a_mapped, a_now, a_sorts, a_ints, a_classes, a_ready) (nI p) := by
  have hp := md_Vlt hG.1 hV
  have hi := md_Vi hG.1 hV
  have hcc := hG.1
  unfold wpY_behind
  dsimp only
  refine ya_ins (by omega) ⟨vp_in_nI (by omega) (by omega), ?_⟩
  rw [ar_at _ (by omega)]
  refine ya_gb (hG.2.2.1 _) (fun b => xb_1 ?_) (fun b => xb_0 (h0 b))
  rw [nI_1]; exact h1 b
theorem ya_led {p : Nat} (hG : md_G g) (hV : md_V g p) (n0 : mc_o g (p % 24) = 16 → 0 < md_n p) (hs : ∀ q, md_L g p = some q → post (nI q)) (hn : md_L g p = none → post (-1)) : wpY_led post ((nI (mc_cc g)), (nI (mc_hc g)), f_many, f_there, f_typed, f_wrongNumber, f_wrongPlace, f_size, f_why, f_height, f_objects, f_line, f_begun, f_last, f_end, (ar (mc_p g)), (ar (mc_e g)), (ar (mc_o g)), (mc_r g), (ar (mc_f g)), (ar (mc_t g)), (ar (mc_g g)), (ar (mc_k g)), a_places, a_heights, a_gone, a_worst, a_frames, a_maps, a_high, a_known, a_mapped, a_now, a_sorts, a_ints, a_classes, a_ready) (nI p) := by
  have hp := md_Vlt hG.1 hV
  have hi := md_Vi hG.1 hV
  have hcc := hG.1
  have h20 := hG.2.2.1 (p % 24)
  unfold wpY_led
  dsimp only
  refine ya_ins (by omega) ⟨vp_in_nI (by omega) (by omega), nm_r (ar_at _ (by omega)) ?_⟩
  refine pk_eq (mc_o g (p % 24)) 15 (fun c => ⟨vp_in_nI (by omega) (by omega), ?_⟩) (fun c => pk_eq (mc_o g (p % 24)) 16 (fun d => ?_) (fun d => ?_))
  · rw [nI_clamp (by omega), (mn_lim24 hG (i := p % 24) (by omega)).2]
    refine ya_dp (by omega) (hs _ ?_)
    unfold md_L; rw [if_pos c]
  · refine ya_cl hcc hV (n0 d) ?_
    rw [nI_1]
    refine hs _ ?_
    unfold md_L; rw [if_neg c, if_pos d]
  · refine ya_jp h20 (fun e => xb_1 ⟨vp_in_nI (by omega) (by omega), ?_⟩) (fun e => xb_0 (hn ?_))
    · rw [nI_clamp (by omega), (mn_lim24 hG (i := p % 24) (by omega)).2]
      refine ya_at (by omega) (hs _ ?_)
      unfold md_L; rw [if_neg c, if_neg d, if_pos (by omega)]
    · unfold md_L; rw [if_neg c, if_neg d, if_neg (by omega)]
theorem ya_cov {x p : Nat} (hG : md_G g) (hx : x < 4) (hp : p < 2 ^ 31) (h1 : md_cv g x p → post 1) (h0 : ¬ md_cv g x p → post 0) : wpY_covers post ((nI (mc_cc g)), (nI (mc_hc g)), f_many, f_there, f_typed, f_wrongNumber, f_wrongPlace, f_size, f_why, f_height, f_objects, f_line, f_begun, f_last, f_end, (ar (mc_p g)), (ar (mc_e g)), (ar (mc_o g)), (mc_r g), (ar (mc_f g)), (ar (mc_t g)), (ar (mc_g g)), (ar (mc_k g)), a_places, a_heights, a_gone, a_worst, a_frames, a_maps, a_high, a_known, a_mapped, a_now, a_sorts, a_ints, a_classes, a_ready) (nI x) (nI p) := by
  have hb := hG.2.2.2.2.1 x
  unfold wpY_covers
  dsimp only
  refine ⟨vp_in_nI (by omega) (by omega), ya_ins hp ?_⟩
  rw [ar_at _ (by omega)]
  refine pk_lt (p % 24) (mc_f g x) (fun c => h0 (by unfold md_cv; omega)) (fun c => ya_ins hp ⟨vp_in_nI (by omega) (by omega), ?_⟩)
  rw [ar_at _ (by omega)]
  exact pk_le (mc_t g x) (p % 24) (fun d => h0 (by unfold md_cv; omega)) (fun d => h1 ⟨c, d⟩)
theorem ya_number {m : Nat} {K : Nat → Nat} {x : Int32} (hm : m ≤ 41) (h1 : ∀ k, k < m → nI (K k) = x → (∀ j, j < k → ¬ nI (K j) = x) → post (nI k)) (h0 : (∀ j, j < m → ¬ nI (K j) = x) → post (-1)) : wpY_number post (f_length, f_handlers, (nI m), f_there, f_typed, f_wrongNumber, f_wrongPlace, f_size, f_why, f_height, f_objects, f_line, f_begun, f_last, f_end, a_parent, a_begin, a_op, a_arg, a_from, a_to, a_target, a_caught, (ar K), a_heights, a_gone, a_worst, a_frames, a_maps, a_high, a_known, a_mapped, a_now, a_sorts, a_ints, a_classes, a_ready) x := by
  have L : ∀ d k, k + d = m → (∀ j, j < k → ¬ nI (K j) = x) → wY_number_2 post x f_length f_handlers (nI m) f_there f_typed f_wrongNumber f_wrongPlace f_size f_why f_height f_objects f_line f_begun f_last f_end a_parent a_begin a_op a_arg a_from a_to a_target a_caught (ar K) a_heights a_gone a_worst a_frames a_maps a_high a_known a_mapped a_now a_sorts a_ints a_classes a_ready (d + 1) (nI k) := by
    intro d
    induction d with
    | zero =>
      intro k hk hno
      exact pk_le m k (fun _ => h0 (fun j hj => hno j (by omega))) (fun c => by omega)
    | succ d ih =>
      intro k hk hno
      refine pk_le m k (fun c => by omega) (fun c => ⟨vp_in_nI (by omega) (by omega), ?_⟩)
      rw [ar_at K (by omega)]
      refine br_c (fun e => h1 k c e hno) (fun e => nm_r (nI_1 k) (ih (k + 1) (by omega) (fun j hj => ?_)))
      by_cases q : j = k
      · subst q; exact e
      · exact hno j (by omega)
  exact ⟨m + 1, L m 0 (by omega) (fun j hj => by omega)⟩
theorem ya_num {m p : Nat} {K : Nat → Nat} (hm : m ≤ 41) (hK : ∀ k, k < m → K k < 1327104) (hp : p < 1327104) (h1 : ∀ k, k < m → K k = p → post (nI k)) (h0 : (∀ j, j < m → K j ≠ p) → post (-1)) : wpY_number post (f_length, f_handlers, (nI m), f_there, f_typed, f_wrongNumber, f_wrongPlace, f_size, f_why, f_height, f_objects, f_line, f_begun, f_last, f_end, a_parent, a_begin, a_op, a_arg, a_from, a_to, a_target, a_caught, (ar K), a_heights, a_gone, a_worst, a_frames, a_maps, a_high, a_known, a_mapped, a_now, a_sorts, a_ints, a_classes, a_ready) (nI p) := by
  have I : ∀ k, k < m → (nI (K k) = nI p ↔ K k = p) := by
    intro k hk
    have a := hK k hk
    rw [nI_eq (by omega) (by omega)]
  refine ya_number hm (fun k hk e _ => h1 k hk ((I k hk).mp e)) (fun h => h0 (fun j hj e => h j hj ((I j hj).mpr e)))
end
