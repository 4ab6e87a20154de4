/-! ===== what is wrong, and what is reached ===== -/
section
/-- what is wrong with h values, and the least number -/
abbrev md_f1 (g : md_C) (p : Nat) : Prop := (md_gb (mc_o g (p % 24)) ∧ p % 24 + 1 = mc_cc g) ∨ (mc_o g (p % 24) = 16 ∧ 0 < md_n p ∧ md_c p (md_n p - 1) + 1 = mc_cc g)
abbrev md_f2 (g : md_C) (p h : Nat) : Prop := h < md_tk (mc_o g (p % 24))
abbrev md_f3 (g : md_C) (p h : Nat) : Prop := 6 + md_tk (mc_o g (p % 24)) < h + md_pu (mc_o g (p % 24))
abbrev md_ag (p : Nat) : Prop := md_n p = 3 ∨ (1 ≤ md_n p ∧ md_c p 0 = p % 24) ∨ (2 ≤ md_n p ∧ md_c p 1 = p % 24) ∨ (3 ≤ md_n p ∧ md_c p 2 = p % 24)
abbrev md_f4 (g : md_C) (p : Nat) : Prop := mc_o g (p % 24) = 15 ∧ md_ag p
abbrev md_f5 (g : md_C) (p : Nat) : Prop := mc_o g (p % 24) = 16 ∧ md_n p = 0
def md_W (g : md_C) (p h : Nat) : Nat := if md_f1 g p then 1 else if md_f2 g p h then 2 else if md_f3 g p h then 3 else if md_f4 g p then 4 else if md_f5 g p then 5 else 0
theorem md_W0 {g : md_C} {p h : Nat} (w : md_W g p h = 0) : ¬ md_f1 g p ∧ ¬ md_f2 g p h ∧ ¬ md_f3 g p h ∧ ¬ md_f4 g p ∧ ¬ md_f5 g p := by
  unfold md_W at w
  split at w
  · omega
  · split at w
    · omega
    · split at w
      · omega
      · split at w
        · omega
        · split at w
          · omega
          · refine ⟨?_, ?_, ?_, ?_, ?_⟩ <;> assumption
/-- where a place leads by its jump -/
def md_L (g : md_C) (p : Nat) : Option Nat := if mc_o g (p % 24) = 15 then some (md_dp p (mc_a g (p % 24))) else if mc_o g (p % 24) = 16 then some (md_cl p + 1) else if mc_o g (p % 24) = 12 ∨ mc_o g (p % 24) = 13 ∨ mc_o g (p % 24) = 14 then some (md_at p (mc_a g (p % 24))) else none
abbrev md_cv (g : md_C) (x p : Nat) : Prop := mc_f g x ≤ p % 24 ∧ p % 24 < mc_t g x
def md_th (g : md_C) (p h : Nat) : Nat := h - md_tk (mc_o g (p % 24)) + md_pu (mc_o g (p % 24))
def md_T (g : md_C) (p h p' h' : Nat) : Prop := (md_gb (mc_o g (p % 24)) ∧ p' = p + 1 ∧ h' = md_th g p h) ∨ (md_L g p = some p' ∧ h' = md_th g p h) ∨ (∃ x, x < mc_hc g ∧ md_cv g x p ∧ p' = md_at p (mc_g g x) ∧ h' = 1)
def md_S (g : md_C) (p h p' h' : Nat) : Prop := md_W g p h = 0 ∧ md_T g p h p' h'
def md_R (g : md_C) (p h : Nat) : Prop := ∀ S : Nat → Nat → Prop, S 0 0 → (∀ q k q' k', S q k → md_S g q k q' k' → S q' k') → S p h
theorem md_R0 (g : md_C) : md_R g 0 0 := fun _ h _ => h
theorem md_Rs {g : md_C} {p h p' h' : Nat} (r : md_R g p h) (s : md_S g p h p' h') : md_R g p' h' := fun S h0 hs => hs _ _ _ _ (r S h0 hs) s
theorem md_Ri {g : md_C} {p h : Nat} (r : md_R g p h) (I : Nat → Nat → Prop) (h0 : I 0 0) (hs : ∀ q k q' k', md_R g q k → I q k → md_S g q k q' k' → I q' k') : I p h := by
  have := r (fun q k => md_R g q k ∧ I q k) ⟨md_R0 g, h0⟩ (fun q k q' k' a s => ⟨md_Rs a.1 s, hs _ _ _ _ a.1 a.2 s⟩)
  exact this.2
/-- the key of the caller, in digits -/
theorem md_Vcl {g : md_C} {p : Nat} (hG : mc_cc g ≤ 24) (h : md_V g p) (hn : 0 < md_n p) : md_V g (md_cl p) ∧ md_cl p % 24 = md_c p (md_n p - 1) ∧ md_n (md_cl p) + 1 = md_n p := by
  rcases md_V4 h with ⟨i, hi, rfl⟩ | ⟨a, i, ha, hi, rfl⟩ | ⟨a, b, i, ha, hb, hi, rfl⟩ | ⟨a, b, c, i, ha, hb, hc, hi, rfl⟩
  · unfold md_n at hn; rw [my_n (by omega) (by omega) (by omega) (by omega)] at hn; omega
  · rw [md_cl1 (by omega) (by omega)]
    have e : md_n (md_y 1 a 0 0 i) = 1 := my_n (by omega) (by omega) (by omega) (by omega)
    have e' : md_n (md_y 0 0 0 0 a) = 0 := my_n (by omega) (by omega) (by omega) (by omega)
    rw [e, e', md_c1 (by omega) (by omega), my_i (by omega)]
    exact ⟨md_V0 ha, rfl, rfl⟩
  · rw [md_cl2 (by omega) (by omega) (by omega)]
    have e : md_n (md_y 2 a b 0 i) = 2 := my_n (by omega) (by omega) (by omega) (by omega)
    have e' : md_n (md_y 1 a 0 0 b) = 1 := my_n (by omega) (by omega) (by omega) (by omega)
    rw [e, e', md_c2 (by omega) (by omega), my_i (by omega)]
    exact ⟨md_V1 ha hb, rfl, rfl⟩
  · rw [md_cl3 (by omega) (by omega) (by omega) (by omega)]
    have e : md_n (md_y 3 a b c i) = 3 := my_n (by omega) (by omega) (by omega) (by omega)
    have e' : md_n (md_y 2 a b 0 c) = 2 := my_n (by omega) (by omega) (by omega) (by omega)
    rw [e, e', md_c3 (by omega) (by omega), my_i (by omega)]
    exact ⟨md_V2 ha hb hc, rfl, rfl⟩
theorem md_Vdp {g : md_C} {p j : Nat} (hG : mc_cc g ≤ 24) (h : md_V g p) (hn : ¬ md_n p = 3) (hj : j < mc_cc g) : md_V g (md_dp p j) ∧ md_cl (md_dp p j) = p ∧ md_n (md_dp p j) = md_n p + 1 := by
  rcases md_V4 h with ⟨i, hi, rfl⟩ | ⟨a, i, ha, hi, rfl⟩ | ⟨a, b, i, ha, hb, hi, rfl⟩ | ⟨a, b, c, i, ha, hb, hc, hi, rfl⟩
  · rw [md_dp0 (by omega), md_cl1 (by omega) (by omega)]
    unfold md_n; rw [my_n (by omega) (by omega) (by omega) (by omega), my_n (by omega) (by omega) (by omega) (by omega)]
    exact ⟨md_V1 hi hj, rfl, rfl⟩
  · rw [md_dp1 (by omega) (by omega), md_cl2 (by omega) (by omega) (by omega)]
    unfold md_n; rw [my_n (by omega) (by omega) (by omega) (by omega), my_n (by omega) (by omega) (by omega) (by omega)]
    exact ⟨md_V2 ha hi hj, rfl, rfl⟩
  · rw [md_dp2 (by omega) (by omega) (by omega), md_cl3 (by omega) (by omega) (by omega) (by omega)]
    unfold md_n; rw [my_n (by omega) (by omega) (by omega) (by omega), my_n (by omega) (by omega) (by omega) (by omega)]
    exact ⟨md_V3 ha hb hi hj, rfl, rfl⟩
  · exact absurd (my_n (by omega) (by omega) (by omega) (by omega)) hn
theorem md_at24 {p j : Nat} (hj : j < 24) : md_at p j / 24 = p / 24 := by unfold md_at; omega
theorem md_nat {p j : Nat} (hj : j < 24) : md_n (md_at p j) = md_n p := by
  unfold md_n; rw [← md_d4, ← md_d4, md_at24 hj]
theorem md_cat {p j : Nat} (k : Nat) (hj : j < 24) : md_c (md_at p j) k = md_c p k := by
  unfold md_c
  rw [← md_d3, ← md_d3 p, ← md_d2, ← md_d2 p, md_at24 hj]
theorem md_clat {p j : Nat} (hj : j < 24) : md_cl (md_at p j) = md_cl p := by
  unfold md_cl
  rw [md_nat hj, md_cat _ hj]
  have : md_at (md_at p j) (md_c p (md_n p - 1)) = md_at p (md_c p (md_n p - 1)) := by unfold md_at; omega
  rw [this]
/-- one step from a valid place leads to a valid place -/
theorem md_VS {g : md_C} {p h p' h' : Nat} (hG : md_G g) (hM : md_M g) (hV : md_V g p) (hh : h ≤ 6) (s : md_S g p h p' h') : md_V g p' ∧ h' ≤ 6 := by
  obtain ⟨w, t⟩ := s
  obtain ⟨f1, f2, f3, f4, f5⟩ := md_W0 w
  obtain ⟨hcc, hhc, ho, ha, hx, -, -⟩ := hG
  have hi := md_Vi hcc hV
  have hth : md_th g p h ≤ 6 := by unfold md_th; omega
  rcases t with ⟨b, rfl, rfl⟩ | ⟨l, rfl⟩ | ⟨x, hx1, -, rfl, rfl⟩
  · refine ⟨md_V_1 hcc hV ?_, hth⟩
    have : ¬ p % 24 + 1 = mc_cc g := fun e => f1 (Or.inl ⟨b, e⟩)
    omega
  · refine ⟨?_, hth⟩
    unfold md_L at l
    split at l
    · rename_i o15
      cases l
      have : mc_a g (p % 24) < mc_cc g := hM.2.1 _ hi (by omega) (by omega)
      refine (md_Vdp hcc hV (fun n3 => f4 ⟨o15, Or.inl n3⟩) this).1
    · split at l
      · rename_i o16
        cases l
        have hn : 0 < md_n p := Nat.pos_of_ne_zero (fun z => f5 ⟨o16, z⟩)
        obtain ⟨v, e, -⟩ := md_Vcl hcc hV hn
        have hlt := md_Vi hcc v
        refine md_V_1 hcc v ?_
        have : ¬ md_c p (md_n p - 1) + 1 = mc_cc g := fun z => f1 (Or.inr ⟨o16, hn, z⟩)
        omega
      · split at l
        · rename_i o3
          cases l
          exact md_V_at hcc hV (hM.2.1 _ hi (by omega) (by omega))
        · cases l
  · exact ⟨md_V_at hcc hV (hM.2.2 _ hx1), by omega⟩
theorem md_RV {g : md_C} {p h : Nat} (hG : md_G g) (hM : md_M g) (r : md_R g p h) : md_V g p ∧ h ≤ 6 :=
  md_Ri r (fun p h => md_V g p ∧ h ≤ 6) ⟨md_V0 (i := 0) hM.1, by omega⟩ (fun _ _ _ _ _ I s => md_VS hG hM I.1 I.2 s)
/-- a reached place other than the first was come to -/
theorem md_Rpre {g : md_C} {p h : Nat} (r : md_R g p h) : (p = 0 ∧ h = 0) ∨ ∃ q k, md_R g q k ∧ md_S g q k p h :=
  md_Ri r (fun p h => (p = 0 ∧ h = 0) ∨ ∃ q k, md_R g q k ∧ md_S g q k p h) (Or.inl ⟨rfl, rfl⟩) (fun q k _ _ r' _ s => Or.inr ⟨q, k, r', s⟩)
/-- the callers of a reached place are reached -/
def md_A (g : md_C) (p : Nat) : Prop := (1 ≤ md_n p → ∃ h, md_R g (md_cl p) h) ∧ (2 ≤ md_n p → ∃ h, md_R g (md_cl (md_cl p)) h) ∧ (3 ≤ md_n p → ∃ h, md_R g (md_cl (md_cl (md_cl p))) h)
theorem md_Aat {g : md_C} {p j : Nat} (hj : j < 24) (h : md_A g p) : md_A g (md_at p j) := by
  unfold md_A; rw [md_nat hj, md_clat hj]; exact h
theorem md_RA {g : md_C} {p h : Nat} (hG : md_G g) (hM : md_M g) (r : md_R g p h) : md_A g p := by
  refine md_Ri r (fun p _ => md_A g p) ⟨fun h => ?_, fun h => ?_, fun h => ?_⟩ (fun q k q' k' rq I s => ?_)
  · unfold md_n at h; omega
  · unfold md_n at h; omega
  · unfold md_n at h; omega
  · obtain ⟨vq, hk⟩ := md_RV hG hM rq
    obtain ⟨w, t⟩ := s
    obtain ⟨f1, f2, f3, f4, f5⟩ := md_W0 w
    obtain ⟨hcc, hhc, ho, ha, hx, -, -⟩ := hG
    have hi := md_Vi hcc vq
    rcases t with ⟨b, rfl, rfl⟩ | ⟨l, rfl⟩ | ⟨x, hx1, -, rfl, rfl⟩
    · have hlt : q % 24 + 1 < mc_cc g := by
        have : ¬ q % 24 + 1 = mc_cc g := fun e => f1 (Or.inl ⟨b, e⟩)
        omega
      have e : q + 1 = md_at q (q % 24 + 1) := by unfold md_at; omega
      rw [e]; exact md_Aat (by omega) I
    · unfold md_L at l
      split at l
      · rename_i o15
        cases l
        have : mc_a g (q % 24) < mc_cc g := hM.2.1 _ hi (by omega) (by omega)
        obtain ⟨-, e1, e2⟩ := md_Vdp hcc vq (fun n3 => f4 ⟨o15, Or.inl n3⟩) this
        unfold md_A; rw [e1, e2]
        exact ⟨fun _ => ⟨_, rq⟩, fun h => I.1 (by omega), fun h => I.2.1 (by omega)⟩
      · split at l
        · rename_i o16
          cases l
          have hq : 0 < md_n q := Nat.pos_of_ne_zero (fun z => f5 ⟨o16, z⟩)
          obtain ⟨v, e, en⟩ := md_Vcl hcc vq hq
          have hlt : md_cl q % 24 + 1 < mc_cc g := by
            have : ¬ md_c q (md_n q - 1) + 1 = mc_cc g := fun z => f1 (Or.inr ⟨o16, hq, z⟩)
            have := md_Vi hcc v
            omega
          have e3 : md_cl q + 1 = md_at (md_cl q) (md_cl q % 24 + 1) := by unfold md_at; omega
          rw [e3]
          refine md_Aat (by omega) ⟨fun h => I.2.1 (by omega), fun h => I.2.2 (by omega), fun h => ?_⟩
          have := md_Vn hcc vq
          omega
        · split at l
          · rename_i o3
            cases l
            have : mc_a g (q % 24) < mc_cc g := hM.2.1 _ hi (by omega) (by omega)
            exact md_Aat (by omega) I
          · cases l
    · have := hM.2.2 _ hx1
      exact md_Aat (by omega) I
theorem md_Rcl {g : md_C} {p h : Nat} (hG : md_G g) (hM : md_M g) (r : md_R g p h) (hn : 0 < md_n p) : ∃ h', md_R g (md_cl p) h' := (md_RA hG hM r).1 hn
end
