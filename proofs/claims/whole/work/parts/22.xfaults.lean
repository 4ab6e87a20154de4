/-! ===== the class: what is wrong with so many values ===== -/
section
variable {f_codeCount f_coverCount f_placeCount f_tooMany f_layAnswer f_wrongKind f_wrongKey f_grown f_frameDepth f_frameThere f_lastReason f_valueDepth f_objectCount f_hasRun f_begun f_nowAt f_endClass : Int32} {a_parent a_entry a_code a_operand a_coverFrom a_coverTo a_coverTarget a_coverClass a_placeKey a_placeDepth a_cameWith a_ledWith a_faults a_found a_hasFound a_kept a_hasMap a_frame a_kind a_value a_objectClass a_objectReady : Nat → Int32}
variable {g : md_C} {post : Int32 → Prop}
theorem xf_o2 : ∀ a b c d e : Bool, nI (mb_fm a b c d e) ||| 2 = nI (mb_fm true b c d e) := by decide +kernel
theorem xf_o4 : ∀ a b c d e : Bool, nI (mb_fm a b c d e) ||| 4 = nI (mb_fm a true c d e) := by decide +kernel
theorem xf_o8 : ∀ a b c d e : Bool, nI (mb_fm a b c d e) ||| 8 = nI (mb_fm a b true d e) := by decide +kernel
theorem xf_o16 : ∀ a b c d e : Bool, nI (mb_fm a b c d e) ||| 16 = nI (mb_fm a b c true e) := by decide +kernel
theorem xf_o32 : ∀ a b c d e : Bool, nI (mb_fm a b c d e) ||| 32 = nI (mb_fm a b c d true) := by decide +kernel
def md_fb (g : md_C) (p h : Nat) : Nat := mb_fm (decide (md_f1 g p)) (decide (md_f2 g p h)) (decide (md_f3 g p h)) (decide (md_f4 g p)) (decide (md_f5 g p))
theorem xf_145 {p : Nat} {a b c d : Bool} (h20 : mc_o g (p % 24) < 20) (hn : md_n p ≤ 3) (h : post (nI (mb_fm a b c d (decide (md_f5 g p))))) : wX_faultsOf_145 post (nI (mc_o g (p % 24))) (nI (md_n p)) (nI (mb_fm a b c d false)) f_codeCount f_coverCount f_placeCount f_tooMany f_layAnswer f_wrongKind f_wrongKey f_grown f_frameDepth f_frameThere f_lastReason f_valueDepth f_objectCount f_hasRun f_begun f_nowAt f_endClass a_parent a_entry a_code a_operand a_coverFrom a_coverTo a_coverTarget a_coverClass a_placeKey a_placeDepth a_cameWith a_ledWith a_faults a_found a_hasFound a_kept a_hasMap a_frame a_kind a_value a_objectClass a_objectReady := by
  unfold wX_faultsOf_145
  refine pk_eq (mc_o g (p % 24)) 16 (fun c1 => pk_eq (md_n p) 0 (fun c2 => ?_) (fun c2 => ?_)) (fun c1 => ?_)
  · refine nm_r (xf_o32 a b c d false) ?_
    rw [decide_eq_true (show md_f5 g p from ⟨c1, c2⟩)] at h; exact h
  · rw [decide_eq_false (show ¬ md_f5 g p from fun z => c2 z.2)] at h; exact h
  · rw [decide_eq_false (show ¬ md_f5 g p from fun z => c1 z.1)] at h; exact h
theorem xf_117 {p : Nat} {a b c : Bool} (hp : p < 1327104) (h20 : mc_o g (p % 24) < 20) (hn : md_n p ≤ 3) (h : post (nI (mb_fm a b c (decide (md_f4 g p)) (decide (md_f5 g p))))) : wX_faultsOf_117 post (nI (md_kx p)) (nI (p % 24)) (nI (mc_o g (p % 24))) (nI (md_n p)) (nI (mb_fm a b c false false)) f_codeCount f_coverCount f_placeCount f_tooMany f_layAnswer f_wrongKind f_wrongKey f_grown f_frameDepth f_frameThere f_lastReason f_valueDepth f_objectCount f_hasRun f_begun f_nowAt f_endClass a_parent a_entry a_code a_operand a_coverFrom a_coverTo a_coverTarget a_coverClass a_placeKey a_placeDepth a_cameWith a_ledWith a_faults a_found a_hasFound a_kept a_hasMap a_frame a_kind a_value a_objectClass a_objectReady := by
  unfold wX_faultsOf_117
  have yes : md_f4 g p → wX_faultsOf_138 post (nI (mc_o g (p % 24))) (nI (md_n p)) (nI (mb_fm a b c false false)) f_codeCount f_coverCount f_placeCount f_tooMany f_layAnswer f_wrongKind f_wrongKey f_grown f_frameDepth f_frameThere f_lastReason f_valueDepth f_objectCount f_hasRun f_begun f_nowAt f_endClass a_parent a_entry a_code a_operand a_coverFrom a_coverTo a_coverTarget a_coverClass a_placeKey a_placeDepth a_cameWith a_ledWith a_faults a_found a_hasFound a_kept a_hasMap a_frame a_kind a_value a_objectClass a_objectReady := by
    intro f4
    unfold wX_faultsOf_138
    refine nm_r (xf_o16 a b c false false) (xf_145 h20 hn ?_)
    rw [decide_eq_true f4] at h; exact h
  have no : ¬ md_f4 g p → wX_faultsOf_145 post (nI (mc_o g (p % 24))) (nI (md_n p)) (nI (mb_fm a b c false false)) f_codeCount f_coverCount f_placeCount f_tooMany f_layAnswer f_wrongKind f_wrongKey f_grown f_frameDepth f_frameThere f_lastReason f_valueDepth f_objectCount f_hasRun f_begun f_nowAt f_endClass a_parent a_entry a_code a_operand a_coverFrom a_coverTo a_coverTarget a_coverClass a_placeKey a_placeDepth a_cameWith a_ledWith a_faults a_found a_hasFound a_kept a_hasMap a_frame a_kind a_value a_objectClass a_objectReady := by
    intro f4
    refine xf_145 h20 hn ?_
    rw [decide_eq_false f4] at h; exact h
  refine pk_eq (mc_o g (p % 24)) 15 (fun c1 => pk_le 3 (md_n p) (fun c2 => yes ⟨c1, Or.inl (by omega)⟩) (fun c2 => ?_)) (fun c1 => no (fun z => c1 z.1))
  refine xa_isCalled hp (by omega) (fun q => ?_) (fun q => ?_)
  · refine xb_1 (yes ⟨c1, Or.inr ?_⟩)
    obtain ⟨j, hj, e⟩ := q
    have : j = 0 ∨ j = 1 ∨ j = 2 := by omega
    rcases this with rfl | rfl | rfl
    · exact Or.inl ⟨by omega, e⟩
    · exact Or.inr (Or.inl ⟨by omega, e⟩)
    · exact Or.inr (Or.inr ⟨by omega, e⟩)
  · refine xb_0 (no ?_)
    rintro ⟨_, z | ⟨z1, z2⟩ | ⟨z1, z2⟩ | ⟨z1, z2⟩⟩
    · omega
    · exact q ⟨0, by omega, z2⟩
    · exact q ⟨1, by omega, z2⟩
    · exact q ⟨2, by omega, z2⟩
theorem xf_86 {p h : Nat} {a : Bool} (hp : p < 1327104) (h20 : mc_o g (p % 24) < 20) (hn : md_n p ≤ 3) (hh : h ≤ 6) (H : post (nI (mb_fm a (decide (md_f2 g p h)) (decide (md_f3 g p h)) (decide (md_f4 g p)) (decide (md_f5 g p))))) : wX_faultsOf_86 post (nI (md_kx p)) (nI (p % 24)) (nI (mc_o g (p % 24))) (nI (md_n p)) (nI h - nI (md_tk (mc_o g (p % 24)))) (nI (mb_fm a false false false false)) f_codeCount f_coverCount f_placeCount f_tooMany f_layAnswer f_wrongKind f_wrongKey f_grown f_frameDepth f_frameThere f_lastReason f_valueDepth f_objectCount f_hasRun f_begun f_nowAt f_endClass a_parent a_entry a_code a_operand a_coverFrom a_coverTo a_coverTarget a_coverClass a_placeKey a_placeDepth a_cameWith a_ledWith a_faults a_found a_hasFound a_kept a_hasMap a_frame a_kind a_value a_objectClass a_objectReady := by
  have t2 := md_tk2 (mc_o g (p % 24))
  have p2 := md_pu2 (mc_o g (p % 24))
  have P : ∀ b : Bool, b = decide (md_f2 g p h) → wX_faultsOf_97 post (nI (md_kx p)) (nI (p % 24)) (nI (mc_o g (p % 24))) (nI (md_n p)) (nI h - nI (md_tk (mc_o g (p % 24)))) (nI (mb_fm a b false false false)) f_codeCount f_coverCount f_placeCount f_tooMany f_layAnswer f_wrongKind f_wrongKey f_grown f_frameDepth f_frameThere f_lastReason f_valueDepth f_objectCount f_hasRun f_begun f_nowAt f_endClass a_parent a_entry a_code a_operand a_coverFrom a_coverTo a_coverTarget a_coverClass a_placeKey a_placeDepth a_cameWith a_ledWith a_faults a_found a_hasFound a_kept a_hasMap a_frame a_kind a_value a_objectClass a_objectReady := by
    intro b eb
    unfold wX_faultsOf_97
    refine xa_pu h20 ?_
    have I := mi_le6 h (by omega) _ (show md_tk (mc_o g (p % 24)) < 3 by omega) _ (show md_pu (mc_o g (p % 24)) < 3 by omega)
    refine br_c (fun c => ?_) (fun c => ?_)
    · rw [I] at c
      refine xf_117 hp h20 hn ?_
      rw [decide_eq_false (show ¬ md_f3 g p h by unfold md_f3; omega), ← eb] at H; exact H
    · rw [I] at c
      refine nm_r (xf_o8 a b false false false) (xf_117 hp h20 hn ?_)
      rw [decide_eq_true (show md_f3 g p h by unfold md_f3; omega), ← eb] at H; exact H
  unfold wX_faultsOf_86
  have I := mi_lt0 h (by omega) _ (show md_tk (mc_o g (p % 24)) < 3 by omega)
  refine br_c (fun c => ?_) (fun c => ?_)
  · have c' : ¬ nI h - nI (md_tk (mc_o g (p % 24))) < 0 := Int32.not_lt.mpr c
    rw [I] at c'
    exact P false (decide_eq_false c').symm
  · have c' : nI h - nI (md_tk (mc_o g (p % 24))) < 0 := Int32.not_le.mp c
    rw [I] at c'
    exact nm_r (xf_o4 a false false false false) (P true (decide_eq_true c').symm)
theorem xa_fo {p h : Nat} (hG : md_G g) (h0 : 0 < mc_cc g) (hV : md_V g p) (hh : h ≤ 6) (H : post (nI (md_fb g p h))) : wpX_faultsOf post ((nI (mc_cc g)), (nI (mc_hc g)), f_placeCount, f_tooMany, f_layAnswer, f_wrongKind, f_wrongKey, f_grown, f_frameDepth, f_frameThere, f_lastReason, f_valueDepth, f_objectCount, f_hasRun, f_begun, f_nowAt, f_endClass, (ar (mc_p g)), (ar (mc_e g)), (ar (mc_o g)), (mc_r g), (ar (mc_f g)), (ar (mc_t g)), (ar (mc_g g)), (ar (mc_k g)), a_placeKey, a_placeDepth, a_cameWith, a_ledWith, a_faults, a_found, a_hasFound, a_kept, a_hasMap, a_frame, a_kind, a_value, a_objectClass, a_objectReady) (nI (md_kx p)) (nI h) := by
  have hcc := hG.1
  have hp := md_Vlt hcc hV
  have hk := md_kxlt p hp
  have hi := md_Vi hcc hV
  have h20 := hG.2.2.1 (p % 24)
  have hn := md_Vn hcc hV
  unfold wpX_faultsOf
  dsimp only
  refine nm_r (xk_31 hk) ?_
  rw [xk_i]
  refine ⟨vp_in_nI (by omega) (by omega), nm_r (ar_at _ (by omega)) (nm_r (xk_20 hk) ?_)⟩
  rw [xk_n]
  refine xa_tk h20 (nm_e ?_)
  have S : ∀ b : Nat, b < 2 ^ 31 → (mc_cc g ≤ b ↔ md_f1 g p) → wX_faultsOf_71 post (nI (md_kx p)) (nI (p % 24)) (nI (mc_o g (p % 24))) (nI (md_n p)) (nI h - nI (md_tk (mc_o g (p % 24)))) 0 (nI b) (nI (mc_cc g)) (nI (mc_hc g)) f_placeCount f_tooMany f_layAnswer f_wrongKind f_wrongKey f_grown f_frameDepth f_frameThere f_lastReason f_valueDepth f_objectCount f_hasRun f_begun f_nowAt f_endClass (ar (mc_p g)) (ar (mc_e g)) (ar (mc_o g)) (mc_r g) (ar (mc_f g)) (ar (mc_t g)) (ar (mc_g g)) (ar (mc_k g)) a_placeKey a_placeDepth a_cameWith a_ledWith a_faults a_found a_hasFound a_kept a_hasMap a_frame a_kind a_value a_objectClass a_objectReady := by
    intro b hb I
    unfold wX_faultsOf_71
    refine pk_lt b (mc_cc g) (fun c => ?_) (fun c => ?_)
    · refine xf_86 (a := false) hp h20 hn hh ?_
      unfold md_fb at H
      rw [decide_eq_false (show ¬ md_f1 g p from fun z => by have := I.mpr z; omega)] at H; exact H
    · refine nm_r (xf_o2 false false false false false) (xf_86 (a := true) hp h20 hn hh ?_)
      unfold md_fb at H
      rw [decide_eq_true (I.mp c)] at H; exact H
  have T : ∀ b : Nat, b < 2 ^ 31 → (¬ mc_o g (p % 24) = 16 ∨ md_n p = 0 → (mc_cc g ≤ b ↔ md_f1 g p)) → wX_faultsOf_46 post (nI (md_kx p)) (nI (p % 24)) (nI (mc_o g (p % 24))) (nI (md_n p)) (nI h - nI (md_tk (mc_o g (p % 24)))) 0 (nI b) (nI (mc_cc g)) (nI (mc_hc g)) f_placeCount f_tooMany f_layAnswer f_wrongKind f_wrongKey f_grown f_frameDepth f_frameThere f_lastReason f_valueDepth f_objectCount f_hasRun f_begun f_nowAt f_endClass (ar (mc_p g)) (ar (mc_e g)) (ar (mc_o g)) (mc_r g) (ar (mc_f g)) (ar (mc_t g)) (ar (mc_g g)) (ar (mc_k g)) a_placeKey a_placeDepth a_cameWith a_ledWith a_faults a_found a_hasFound a_kept a_hasMap a_frame a_kind a_value a_objectClass a_objectReady := by
    intro b hb I
    unfold wX_faultsOf_46
    refine pk_eq (mc_o g (p % 24)) 16 (fun c => pk_le (md_n p) 0 (fun d => S b hb (I (Or.inr (by omega)))) (fun d => ?_)) (fun c => S b hb (I (Or.inl c)))
    refine xa_ck hcc hV d ?_
    obtain ⟨v, e, _⟩ := md_Vcl hcc hV d
    have hlt := md_Vi hcc v
    have e1 : (nI (md_kx (md_cl p)) &&& 31) + 1 = nI (md_cl p % 24 + 1) := by
      rw [xk_31 (md_kxlt _ (md_Vlt hcc v)), xk_i, nI_1]
    refine nm_r e1 (S _ (by omega) ?_)
    unfold md_f1 md_gb
    constructor
    · intro q; right; exact ⟨c, d, by omega⟩
    · rintro (⟨q1, q2⟩ | ⟨q1, q2, q3⟩)
      · omega
      · omega
  refine xa_gb h20 (fun b => xb_1 ?_) (fun b => xb_0 ?_)
  · rw [nI_1]
    refine T _ (by omega) (fun q => ?_)
    constructor
    · intro z; exact Or.inl ⟨b, by omega⟩
    · rintro (⟨_, q2⟩ | ⟨q1, q2, _⟩)
      · omega
      · omega
  · refine T 0 (by omega) (fun q => ?_)
    constructor
    · intro z; omega
    · rintro (⟨q1, q2⟩ | ⟨q1, q2, _⟩)
      · exact absurd q1 b
      · omega
end
