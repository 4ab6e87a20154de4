/-! ===== one instruction, case by case ===== -/
section
variable {g : md_C} {q : mr_Q}
theorem mr_nx0 (o : mr_o g q = 0) : mr_nx g q = mr_set q (4 + rq_h q) 1 (mc_r g (rq_l q)) (rq_h q + 1) (rq_l q + 1) := by
  unfold mr_nx; rw [if_pos o]
theorem mr_nx1 (o : mr_o g q = 1) : mr_nx g q = mr_set q (4 + rq_h q) 2 0 (rq_h q + 1) (rq_l q + 1) := by
  unfold mr_nx; rw [if_neg (by omega), if_pos o]
theorem mr_nx2 (o : mr_o g q = 2) : mr_nx g q = mr_set q (4 + rq_h q) (rq_S q (mr_a g q)) (rq_I q (mr_a g q)) (rq_h q + 1) (rq_l q + 1) := by
  unfold mr_nx; rw [if_neg (by omega), if_neg (by omega), if_pos o]
theorem mr_nx3 (o : mr_o g q = 3) : mr_nx g q = mr_set q (mr_a g q) (mr_t q) (rq_I q (3 + rq_h q)) (rq_h q - 1) (rq_l q + 1) := by
  unfold mr_nx; rw [if_neg (by omega), if_neg (by omega), if_neg (by omega), if_pos o]
theorem mr_nx5 (o : mr_o g q = 5) : mr_nx g q = mr_set q (4 + rq_h q) (mr_t q) (rq_I q (3 + rq_h q)) (rq_h q + 1) (rq_l q + 1) := by
  unfold mr_nx; rw [if_neg (by omega), if_neg (by omega), if_neg (by omega), if_neg (by omega), if_pos o]
theorem mr_nx6 (o : mr_o g q = 6) : mr_nx g q = mr_set (mr_set q (2 + rq_h q) (mr_t q) (rq_I q (3 + rq_h q)) (rq_h q) (rq_l q + 1)) (3 + rq_h q) (rq_S q (2 + rq_h q)) (rq_I q (2 + rq_h q)) (rq_h q) (rq_l q + 1) := by
  unfold mr_nx; rw [if_neg (by omega), if_neg (by omega), if_neg (by omega), if_neg (by omega), if_neg (by omega), if_pos o]
theorem mr_nx7 (o : mr_o g q = 7) : mr_nx g q = mr_set q (2 + rq_h q) 1 (rq_I q (2 + rq_h q) + rq_I q (3 + rq_h q)) (rq_h q - 1) (rq_l q + 1) := by
  unfold mr_nx; rw [if_neg (by omega), if_neg (by omega), if_neg (by omega), if_neg (by omega), if_neg (by omega), if_neg (by omega), if_pos o]
theorem mr_nx8 (o : mr_o g q = 8) : mr_nx g q = mr_set (mr_obj q (mr_a g q) false) (4 + rq_h q) (4 + rq_n q) 0 (rq_h q + 1) (rq_l q + 1) := by
  unfold mr_nx; rw [if_neg (by omega), if_neg (by omega), if_neg (by omega), if_neg (by omega), if_neg (by omega), if_neg (by omega), if_neg (by omega), if_pos o]
theorem mr_nx9 (o : mr_o g q = 9) : mr_nx g q = (rq_S q, rq_I q, rq_C q, mr_uB (rq_R q) (mr_t q - 4) true, rq_h q - 1, rq_n q, rq_l q + 1) := by
  unfold mr_nx; rw [if_neg (by omega), if_neg (by omega), if_neg (by omega), if_neg (by omega), if_neg (by omega), if_neg (by omega), if_neg (by omega), if_neg (by omega), if_pos o]
theorem mr_nx10 (o : mr_o g q = 10) : mr_nx g q = mr_hl q (rq_h q) (rq_l q + 1) := by
  unfold mr_nx; rw [if_neg (by omega), if_neg (by omega), if_neg (by omega), if_neg (by omega), if_neg (by omega), if_neg (by omega), if_neg (by omega), if_neg (by omega), if_neg (by omega), if_pos o]
theorem mr_nx12 (o : mr_o g q = 12) : mr_nx g q = mr_hl q (rq_h q) (mr_a g q) := by
  unfold mr_nx; rw [if_neg (by omega), if_neg (by omega), if_neg (by omega), if_neg (by omega), if_neg (by omega), if_neg (by omega), if_neg (by omega), if_neg (by omega), if_neg (by omega), if_neg (by omega), if_pos o]
theorem mr_nx13 (o : mr_o g q = 13) : mr_nx g q = mr_hl q (rq_h q - 1) (if rq_I q (3 + rq_h q) = 0 then rq_l q + 1 else mr_a g q) := by
  unfold mr_nx; rw [if_neg (by omega), if_neg (by omega), if_neg (by omega), if_neg (by omega), if_neg (by omega), if_neg (by omega), if_neg (by omega), if_neg (by omega), if_neg (by omega), if_neg (by omega), if_neg (by omega), if_pos o]
theorem mr_nx14 (o : mr_o g q = 14) : mr_nx g q = mr_hl q (rq_h q - 1) (if mr_t q = 2 then mr_a g q else rq_l q + 1) := by
  unfold mr_nx; rw [if_neg (by omega), if_neg (by omega), if_neg (by omega), if_neg (by omega), if_neg (by omega), if_neg (by omega), if_neg (by omega), if_neg (by omega), if_neg (by omega), if_neg (by omega), if_neg (by omega), if_neg (by omega), if_pos o]
theorem mr_nx15 (o : mr_o g q = 15) : mr_nx g q = mr_set q (4 + rq_h q) 3 (nI (rq_l q)) (rq_h q + 1) (mr_a g q) := by
  unfold mr_nx; rw [if_neg (by omega), if_neg (by omega), if_neg (by omega), if_neg (by omega), if_neg (by omega), if_neg (by omega), if_neg (by omega), if_neg (by omega), if_neg (by omega), if_neg (by omega), if_neg (by omega), if_neg (by omega), if_neg (by omega), if_pos o]
theorem mr_nx16 (o : mr_o g q = 16) : mr_nx g q = mr_hl q (rq_h q) ((rq_I q (mr_a g q)).toNatClampNeg + 1) := by
  unfold mr_nx; rw [if_neg (by omega), if_neg (by omega), if_neg (by omega), if_neg (by omega), if_neg (by omega), if_neg (by omega), if_neg (by omega), if_neg (by omega), if_neg (by omega), if_neg (by omega), if_neg (by omega), if_neg (by omega), if_neg (by omega), if_neg (by omega), if_pos o]
theorem mr_nxd (o : mr_o g q = 4 ∨ mr_o g q = 11 ∨ 17 ≤ mr_o g q) : mr_nx g q = mr_hl q (rq_h q - 1) (rq_l q + 1) := by
  unfold mr_nx; rw [if_neg (by omega), if_neg (by omega), if_neg (by omega), if_neg (by omega), if_neg (by omega), if_neg (by omega), if_neg (by omega), if_neg (by omega), if_neg (by omega), if_neg (by omega), if_neg (by omega), if_neg (by omega), if_neg (by omega), if_neg (by omega), if_neg (by omega)]
end
