/-! ===== what every state of a run keeps ===== -/
section
variable {g : md_C}
theorem mr_set_ok {q : mr_Q} {i s h' l' : Nat} {v : Int32} (ok : mr_ok g q) (hh : h' ≤ 6) (hl : l' ≤ mc_cc g) (hs : h' ≤ rq_h q ∨ (i = 4 + rq_h q ∧ h' = rq_h q + 1)) (h4 : 4 ≤ s → s - 4 < rq_n q) (h3 : s = 3 → ∃ l, l < mc_cc g ∧ v = nI l) : mr_ok g (mr_set q i s v h' l') := by
  obtain ⟨o1, o2, o3, o4⟩ := ok
  refine ⟨hh, hl, fun j hj => ?_, o4⟩
  have hj' : j < 4 + h' := hj
  show (4 ≤ mf_up (rq_S q) i s j → mf_up (rq_S q) i s j - 4 < rq_n q) ∧ (mf_up (rq_S q) i s j = 3 → ∃ l, l < mc_cc g ∧ upd (rq_I q) i v j = nI l)
  by_cases e : j = i
  · subst e
    rw [up_s, pk_us]; exact ⟨h4, h3⟩
  · have hj2 : j < 4 + rq_h q := by
      clear h3 h4 o3 o4
      omega
    rw [up_n e, pk_un e]
    exact o3 j hj2
theorem mr_hl_ok {q : mr_Q} {h' l' : Nat} (ok : mr_ok g q) (hh : h' ≤ rq_h q) (hl : l' ≤ mc_cc g) : mr_ok g (mr_hl q h' l') := by
  obtain ⟨o1, o2, o3, o4⟩ := ok
  refine ⟨?_, hl, fun j hj => o3 j ?_, o4⟩
  · show h' ≤ 6; omega
  · have : j < 4 + h' := hj
    omega
theorem mr_obj_ok {q : mr_Q} {c : Nat} {b : Bool} (ok : mr_ok g q) (hc : c < 8) : mr_ok g (mr_obj q c b) := by
  obtain ⟨o1, o2, o3, o4⟩ := ok
  refine ⟨o1, o2, fun j hj => ⟨fun h => ?_, (o3 j hj).2⟩, fun j hj => ?_⟩
  · have := (o3 j hj).1 h
    show rq_S q j - 4 < rq_n q + 1; omega
  · show mf_up (rq_C q) (rq_n q) c j < 8
    by_cases e : j = rq_n q
    · subst e; rw [up_s]; exact hc
    · have hj' : j < rq_n q + 1 := hj
      rw [up_n e]; exact o4 j (by omega)
theorem mr_o20 (hG : md_G g) (q : mr_Q) : mr_o g q < 20 := hG.2.2.1 _
theorem mr_nx_ok (hG : md_G g) (hM : md_M g) {q : mr_Q} (ok : mr_ok g q) (hl : rq_l q < mc_cc g) (gd : mr_gd g q) : mr_ok g (mr_nx g q) ∧ rq_n (mr_nx g q) ≤ rq_n q + 1 := by
  have o1 := ok.1
  have o3 := ok.2.2.1
  have o4 := ok.2.2.2
  have g1 := gd.1.1
  have g2 := gd.1.2
  have gRet := gd.2.2.2.2.2.2.2
  have o20 := mr_o20 hG q
  have t : 0 < rq_h q → _ := fun h => o3 (3 + rq_h q) (by omega)
  have b : 1 < rq_h q → _ := fun h => o3 (2 + rq_h q) (by omega)
  have jmp : 12 ≤ mr_o g q → mr_o g q ≤ 15 → mr_a g q < mc_cc g := fun a b => hM.2.1 _ hl a b
  have tk : ∀ n, mr_o g q = n → md_tk n ≤ rq_h q ∧ rq_h q + md_pu n ≤ 6 + md_tk n := by
    intro n e; rw [e] at g1 g2; exact ⟨g1, g2⟩
  have cs : mr_o g q = 0 ∨ mr_o g q = 1 ∨ mr_o g q = 2 ∨ mr_o g q = 3 ∨ mr_o g q = 5 ∨ mr_o g q = 6 ∨ mr_o g q = 7 ∨ mr_o g q = 8 ∨ mr_o g q = 9 ∨ mr_o g q = 10 ∨ mr_o g q = 12 ∨ mr_o g q = 13 ∨ mr_o g q = 14 ∨ mr_o g q = 15 ∨ mr_o g q = 16 ∨ (mr_o g q = 4 ∨ mr_o g q = 11 ∨ 17 ≤ mr_o g q) := by omega
  rcases cs with o | o | o | o | o | o | o | o | o | o | o | o | o | o | o | o
  · have k := tk _ o; simp [md_tk, md_pu] at k
    rw [mr_nx0 o]
    exact ⟨mr_set_ok ok (by omega) (by omega) (Or.inr ⟨rfl, rfl⟩) (fun h => by omega) (fun h => by omega), Nat.le_succ _⟩
  · have k := tk _ o; simp [md_tk, md_pu] at k
    rw [mr_nx1 o]
    exact ⟨mr_set_ok ok (by omega) (by omega) (Or.inr ⟨rfl, rfl⟩) (fun h => by omega) (fun h => by omega), Nat.le_succ _⟩
  · have k := tk _ o; simp [md_tk, md_pu] at k
    have ha : mr_a g q < 4 := (mn_lim4 hG (i := rq_l q) (Or.inl o)).1
    have a := o3 (mr_a g q) (by omega)
    rw [mr_nx2 o]
    exact ⟨mr_set_ok ok (by omega) (by omega) (Or.inr ⟨rfl, rfl⟩) a.1 a.2, Nat.le_succ _⟩
  · have k := tk _ o; simp [md_tk, md_pu] at k
    have t := t (by omega)
    rw [mr_nx3 o]
    exact ⟨mr_set_ok ok (by omega) (by omega) (Or.inl (by omega)) t.1 t.2, Nat.le_succ _⟩
  · have k := tk _ o; simp [md_tk, md_pu] at k
    have t := t (by omega)
    rw [mr_nx5 o]
    exact ⟨mr_set_ok ok (by omega) (by omega) (Or.inr ⟨rfl, rfl⟩) t.1 t.2, Nat.le_succ _⟩
  · have k := tk _ o; simp [md_tk, md_pu] at k
    have t := t (by omega)
    have b := b (by omega)
    rw [mr_nx6 o]
    exact ⟨mr_set_ok (mr_set_ok ok o1 (by omega) (Or.inl (Nat.le_refl _)) t.1 t.2) o1 (by omega) (Or.inl (Nat.le_refl _)) b.1 b.2, Nat.le_succ _⟩
  · have k := tk _ o; simp [md_tk, md_pu] at k
    rw [mr_nx7 o]
    exact ⟨mr_set_ok ok (by omega) (by omega) (Or.inl (by omega)) (fun h => by omega) (fun h => by omega), Nat.le_succ _⟩
  · have k := tk _ o; simp [md_tk, md_pu] at k
    have ha : mr_a g q < 8 := (mn_lim8 hG (i := rq_l q) (Or.inl o)).1
    rw [mr_nx8 o]
    refine ⟨mr_set_ok (mr_obj_ok ok ha) (by omega) (by omega) (Or.inr ⟨rfl, rfl⟩) (fun _ => ?_) (fun h => by omega), Nat.le_refl _⟩
    show 4 + rq_n q - 4 < rq_n q + 1; omega
  · rw [mr_nx9 o]
    refine ⟨⟨?_, ?_, fun j hj => ?_, o4⟩, Nat.le_succ _⟩
    · show rq_h q - 1 ≤ 6; omega
    · show rq_l q + 1 ≤ _; omega
    · have hj' : j < 4 + (rq_h q - 1) := hj
      exact o3 j (by omega)
  · rw [mr_nx10 o]
    exact ⟨mr_hl_ok ok (Nat.le_refl _) (by omega), Nat.le_succ _⟩
  · rw [mr_nx12 o]
    exact ⟨mr_hl_ok ok (Nat.le_refl _) (Nat.le_of_lt (jmp (by omega) (by omega))), Nat.le_succ _⟩
  · have := jmp (by omega) (by omega)
    rw [mr_nx13 o]
    refine ⟨mr_hl_ok ok (by omega) ?_, Nat.le_succ _⟩
    split
    · omega
    · exact Nat.le_of_lt this
  · have := jmp (by omega) (by omega)
    rw [mr_nx14 o]
    refine ⟨mr_hl_ok ok (by omega) ?_, Nat.le_succ _⟩
    split
    · exact Nat.le_of_lt this
    · omega
  · have k := tk _ o; simp [md_tk, md_pu] at k
    have := jmp (by omega) (by omega)
    rw [mr_nx15 o]
    exact ⟨mr_set_ok ok (by omega) (Nat.le_of_lt this) (Or.inr ⟨rfl, rfl⟩) (fun h => by omega) (fun _ => ⟨_, hl, rfl⟩), Nat.le_succ _⟩
  · have ha : mr_a g q < 4 := (mn_lim4 hG (i := rq_l q) (Or.inr (Or.inr o))).1
    obtain ⟨l, h1, h2⟩ := (o3 (mr_a g q) (by omega)).2 (gRet o)
    rw [mr_nx16 o]
    refine ⟨mr_hl_ok ok (Nat.le_refl _) ?_, Nat.le_succ _⟩
    have := hG.1
    rw [h2, nI_clamp (by omega)]; omega
  · rw [mr_nxd o]
    exact ⟨mr_hl_ok ok (by omega) (by omega), Nat.le_succ _⟩
theorem mr_rz_ok (hM : md_M g) {q : mr_Q} {ob : Nat} (ok : mr_ok g q) (hob : ob < rq_n q) : mr_ok g (mr_rz g q ob).1 ∧ rq_n (mr_rz g q ob).1 = rq_n q := by
  unfold mr_rz
  cases e : mr_fd g (rq_l q) (rq_C q ob) (mc_hc g) 0 with
  | none => exact ⟨ok, rfl⟩
  | some x =>
    dsimp only
    have hx : x < mc_hc g := by
      have : ∀ r y, mr_fd g (rq_l q) (rq_C q ob) r y = some x → x < y + r := by
        intro r
        induction r with
        | zero => intro y h; cases h
        | succ r ih =>
          intro y h
          simp only [mr_fd] at h
          split at h
          · cases h; omega
          · have := ih _ h; omega
      have := this _ _ e
      omega
    obtain ⟨o1, o2, o3, o4⟩ := ok
    refine ⟨⟨?_, ?_, fun j hj => ?_, o4⟩, rfl⟩
    · show 1 ≤ 6; omega
    · exact Nat.le_of_lt (hM.2.2 x hx)
    · have hj' : j < 5 := hj
      show (4 ≤ mf_up (rq_S q) 4 (4 + ob) j → mf_up (rq_S q) 4 (4 + ob) j - 4 < rq_n q) ∧ (mf_up (rq_S q) 4 (4 + ob) j = 3 → ∃ l, l < mc_cc g ∧ rq_I q j = nI l)
      by_cases ej : j = 4
      · subst ej
        rw [up_s]
        exact ⟨fun _ => by omega, fun h => by omega⟩
      · rw [up_n ej]; exact o3 j (by omega)
theorem mr_rs_ok {q : mr_Q} (ok : mr_ok g q) (gd : mr_gd g q) {r : Nat × mr_Q} (h : mr_rs g q = some r) : mr_ok g r.2 ∧ r.1 < rq_n r.2 ∧ rq_n r.2 ≤ rq_n q + 1 ∧ rq_l r.2 = rq_l q := by
  unfold mr_rs at h
  split at h
  · cases h; exact ⟨mr_obj_ok ok (by omega), Nat.lt_succ_self _, Nat.le_refl _, rfl⟩
  split at h
  · cases h; exact ⟨mr_obj_ok ok (by omega), Nat.lt_succ_self _, Nat.le_refl _, rfl⟩
  split at h
  · rename_i n1 n2 o
    cases h
    refine ⟨ok, ?_, Nat.le_succ _, rfl⟩
    have rf := gd.2.2.2.2.1 (Or.inr (Or.inr o))
    have t2 : ¬ mr_t q = 2 := fun e => n2 ⟨Or.inr o, e⟩
    rcases rf with x | ⟨x, _⟩
    · exact absurd x t2
    · have g1 := gd.1.1
      exact (ok.2.2.1 (3 + rq_h q) (by omega)).1 x
  · cases h
theorem mr_st_ok (hG : md_G g) (hM : md_M g) {q : mr_Q} (ok : mr_ok g q) (hl : rq_l q < mc_cc g) : mr_ok g (mr_st g q).1 ∧ rq_n (mr_st g q).1 ≤ rq_n q + 1 := by
  unfold mr_st
  split
  · exact ⟨ok, Nat.le_succ _⟩
  · rename_i gd
    have gd : mr_gd g q := Classical.byContradiction gd
    cases e : mr_rs g q with
    | some r =>
      obtain ⟨a, b, c, _⟩ := mr_rs_ok ok gd e
      obtain ⟨d, f⟩ := mr_rz_ok hM a b
      exact ⟨d, by dsimp only; omega⟩
    | none =>
      dsimp only
      split
      · exact ⟨ok, Nat.le_succ _⟩
      split
      · exact ⟨ok, Nat.le_succ _⟩
      · exact mr_nx_ok hG hM ok hl gd
end
