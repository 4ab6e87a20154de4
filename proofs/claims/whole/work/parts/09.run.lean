/-! ===== running: one pure step ===== -/
section
/-- sorts of the slots (0 none, 1 number, 2 null, 3 link, 4 + j object j), ints, classes, ready, height, objects, line -/
abbrev mr_Q : Type := (Nat → Nat) × (Nat → Int32) × (Nat → Nat) × (Nat → Bool) × Nat × Nat × Nat
def rq_S (q : mr_Q) : Nat → Nat := q.1
def rq_I (q : mr_Q) : Nat → Int32 := q.2.1
def rq_C (q : mr_Q) : Nat → Nat := q.2.2.1
def rq_R (q : mr_Q) : Nat → Bool := q.2.2.2.1
def rq_h (q : mr_Q) : Nat := q.2.2.2.2.1
def rq_n (q : mr_Q) : Nat := q.2.2.2.2.2.1
def rq_l (q : mr_Q) : Nat := q.2.2.2.2.2.2
def mr_uB (f : Nat → Bool) (i : Nat) (v : Bool) : Nat → Bool := fun s => if s = i then v else f s
abbrev mr_ref (q : mr_Q) (t : Nat) : Prop := t = 2 ∨ (4 ≤ t ∧ rq_R q (t - 4) = true)
abbrev mr_of (g : md_C) (q : mr_Q) (t a : Nat) : Prop := t = 2 ∨ (4 ≤ t ∧ rq_R q (t - 4) = true ∧ mt_ab g a (rq_C q (t - 4)))
/-- instruction, operand at the line, the sort on top -/
def mr_o (g : md_C) (q : mr_Q) : Nat := mc_o g (rq_l q)
def mr_a (g : md_C) (q : mr_Q) : Nat := mc_a g (rq_l q)
def mr_t (q : mr_Q) : Nat := rq_S q (3 + rq_h q)
abbrev mr_gd (g : md_C) (q : mr_Q) : Prop :=
  (md_tk (mr_o g q) ≤ rq_h q ∧ rq_h q + md_pu (mr_o g q) ≤ 6 + md_tk (mr_o g q)) ∧
  (mr_o g q = 2 → rq_S q (mr_a g q) ≠ 0 ∧ rq_S q (mr_a g q) ≠ 3) ∧
  (mr_o g q = 7 → mr_t q = 1 ∧ rq_S q (2 + rq_h q) = 1) ∧
  (mr_o g q = 9 → 4 ≤ mr_t q ∧ rq_R q (mr_t q - 4) = false) ∧
  (mr_o g q = 10 ∨ mr_o g q = 14 ∨ mr_o g q = 19 → mr_ref q (mr_t q)) ∧
  (mr_o g q = 11 ∨ mr_o g q = 18 → mr_of g q (mr_t q) (mr_a g q)) ∧
  (mr_o g q = 13 → mr_t q = 1) ∧
  (mr_o g q = 16 → rq_S q (mr_a g q) = 3)
def mr_fd (g : md_C) (i c : Nat) : Nat → Nat → Option Nat
  | 0, _ => none
  | r + 1, x => if (mc_f g x ≤ i ∧ i < mc_t g x) ∧ mt_ab g (mc_k g x) c then some x else mr_fd g i c r (x + 1)
def mr_obj (q : mr_Q) (c : Nat) (b : Bool) : mr_Q := (rq_S q, rq_I q, mf_up (rq_C q) (rq_n q) c, mr_uB (rq_R q) (rq_n q) b, rq_h q, rq_n q + 1, rq_l q)
/-- how: 0 going on, else one more than the answer; last: 0 none, else one more than the class -/
def mr_rz (g : md_C) (q : mr_Q) (ob : Nat) : mr_Q × Nat × Nat := match mr_fd g (rq_l q) (rq_C q ob) (mc_hc g) 0 with
  | some x => ((mf_up (rq_S q) 4 (4 + ob), rq_I q, rq_C q, rq_R q, 1, rq_n q, mc_g g x), 0, 0)
  | none => (q, 3, rq_C q ob + 1)
/-- the object that is raised, if one is, and the state in which it is there -/
def mr_rs (g : md_C) (q : mr_Q) : Option (Nat × mr_Q) :=
  if mr_o g q = 10 ∧ ¬ mr_of g q (mr_t q) (mr_a g q) then some (rq_n q, mr_obj q 1 true)
  else if (mr_o g q = 11 ∨ mr_o g q = 19) ∧ mr_t q = 2 then some (rq_n q, mr_obj q 2 true)
  else if mr_o g q = 19 then some (mr_t q - 4, q) else none
/-- a slot set -/
def mr_set (q : mr_Q) (i s : Nat) (v : Int32) (h l : Nat) : mr_Q := (mf_up (rq_S q) i s, upd (rq_I q) i v, rq_C q, rq_R q, h, rq_n q, l)
def mr_hl (q : mr_Q) (h l : Nat) : mr_Q := (rq_S q, rq_I q, rq_C q, rq_R q, h, rq_n q, l)
def mr_nx (g : md_C) (q : mr_Q) : mr_Q :=
  if mr_o g q = 0 then mr_set q (4 + rq_h q) 1 (mc_r g (rq_l q)) (rq_h q + 1) (rq_l q + 1)
  else if mr_o g q = 1 then mr_set q (4 + rq_h q) 2 0 (rq_h q + 1) (rq_l q + 1)
  else if mr_o g q = 2 then mr_set q (4 + rq_h q) (rq_S q (mr_a g q)) (rq_I q (mr_a g q)) (rq_h q + 1) (rq_l q + 1)
  else if mr_o g q = 3 then mr_set q (mr_a g q) (mr_t q) (rq_I q (3 + rq_h q)) (rq_h q - 1) (rq_l q + 1)
  else if mr_o g q = 5 then mr_set q (4 + rq_h q) (mr_t q) (rq_I q (3 + rq_h q)) (rq_h q + 1) (rq_l q + 1)
  else if mr_o g q = 6 then mr_set (mr_set q (2 + rq_h q) (mr_t q) (rq_I q (3 + rq_h q)) (rq_h q) (rq_l q + 1)) (3 + rq_h q) (rq_S q (2 + rq_h q)) (rq_I q (2 + rq_h q)) (rq_h q) (rq_l q + 1)
  else if mr_o g q = 7 then mr_set q (2 + rq_h q) 1 (rq_I q (2 + rq_h q) + rq_I q (3 + rq_h q)) (rq_h q - 1) (rq_l q + 1)
  else if mr_o g q = 8 then mr_set (mr_obj q (mr_a g q) false) (4 + rq_h q) (4 + rq_n q) 0 (rq_h q + 1) (rq_l q + 1)
  else if mr_o g q = 9 then (rq_S q, rq_I q, rq_C q, mr_uB (rq_R q) (mr_t q - 4) true, rq_h q - 1, rq_n q, rq_l q + 1)
  else if mr_o g q = 10 then mr_hl q (rq_h q) (rq_l q + 1)
  else if mr_o g q = 12 then mr_hl q (rq_h q) (mr_a g q)
  else if mr_o g q = 13 then mr_hl q (rq_h q - 1) (if rq_I q (3 + rq_h q) = 0 then rq_l q + 1 else mr_a g q)
  else if mr_o g q = 14 then mr_hl q (rq_h q - 1) (if mr_t q = 2 then mr_a g q else rq_l q + 1)
  else if mr_o g q = 15 then mr_set q (4 + rq_h q) 3 (nI (rq_l q)) (rq_h q + 1) (mr_a g q)
  else if mr_o g q = 16 then mr_hl q (rq_h q) ((rq_I q (mr_a g q)).toNatClampNeg + 1)
  else mr_hl q (rq_h q - 1) (rq_l q + 1)
/-- one instruction -/
def mr_st (g : md_C) (q : mr_Q) : mr_Q × Nat × Nat :=
  if ¬ mr_gd g q then (q, 5, 0)
  else match mr_rs g q with
    | some r => mr_rz g r.2 r.1
    | none => if mr_o g q = 17 then (q, 1, 0) else if mr_o g q = 18 then (q, 2, if 4 ≤ mr_t q then rq_C q (mr_t q - 4) + 1 else 0) else (mr_nx g q, 0, 0)
/-- the run: b begun, most at most -/
def mr_run (g : md_C) (most : Nat) : Nat → Nat → mr_Q → mr_Q × Nat × Nat × Nat
  | 0, b, q => (q, 0, 0, b)
  | r + 1, b, q => if rq_l q = mc_cc g then (q, 5, 0, b) else if b = most then (q, 4, 0, b) else if (mr_st g q).2.1 = 0 then mr_run g most r (b + 1) (mr_st g q).1 else ((mr_st g q).1, (mr_st g q).2.1, (mr_st g q).2.2, b + 1)
/-- what every state of a run keeps -/
def mr_ok (g : md_C) (q : mr_Q) : Prop := rq_h q ≤ 6 ∧ rq_l q ≤ mc_cc g ∧ (∀ s, s < 4 + rq_h q → (4 ≤ rq_S q s → rq_S q s - 4 < rq_n q) ∧ (rq_S q s = 3 → ∃ l, l < mc_cc g ∧ rq_I q s = nI l)) ∧ (∀ j, j < rq_n q → rq_C q j < 8)
end
