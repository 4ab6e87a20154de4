/-! ===== the class: one instruction of a run ===== -/
section
variable {f_codeCount f_coverCount f_placeCount f_tooMany f_layAnswer f_wrongKind f_wrongKey f_grown f_frameDepth f_frameThere f_lastReason f_valueDepth f_objectCount f_hasRun f_begun f_nowAt f_endClass : Int32} {a_parent a_entry a_code a_operand a_coverFrom a_coverTo a_coverTarget a_coverClass a_placeKey a_placeDepth a_cameWith a_ledWith a_faults a_found a_hasFound a_kept a_hasMap a_frame a_kind a_value a_objectClass a_objectReady : Nat → Int32}
variable {g : md_C} {q : mr_Q} {kd oc od : Nat → Nat} {vl : Nat → Int32}
def mr_kd (t : Nat) : Nat := if t < 3 then t else if t = 3 then 4 else 3
theorem mr_kd0 {t : Nat} : mr_kd t = 0 ↔ t = 0 := by
  unfold mr_kd
  repeat' split
  all_goals omega
theorem mr_kd1 {t : Nat} : mr_kd t = 1 ↔ t = 1 := by
  unfold mr_kd
  repeat' split
  all_goals omega
theorem mr_kd2 {t : Nat} : mr_kd t = 2 ↔ t = 2 := by
  unfold mr_kd
  repeat' split
  all_goals omega
theorem mr_kd3 {t : Nat} : mr_kd t = 3 ↔ 4 ≤ t := by
  unfold mr_kd
  repeat' split
  all_goals omega
theorem mr_kd4 {t : Nat} : mr_kd t = 4 ↔ t = 3 := by
  unfold mr_kd
  repeat' split
  all_goals omega
theorem mr_kdl (t : Nat) : mr_kd t ≤ 4 := by
  unfold mr_kd
  repeat' split
  all_goals omega
/-- what the class holds of a state of a run -/
def mr_X (q : mr_Q) (kd : Nat → Nat) (vl : Nat → Int32) (oc od : Nat → Nat) : Prop := (∀ s, s < 4 + rq_h q → kd s = mr_kd (rq_S q s) ∧ (rq_S q s = 1 ∨ rq_S q s = 3 → vl s = rq_I q s) ∧ (4 ≤ rq_S q s → vl s = nI (rq_S q s - 4))) ∧ (∀ j, j < rq_n q → oc j = rq_C q j ∧ od j = (rq_R q j).toNat)
theorem mr_X_set {i s h' l' : Nat} {v w : Int32} (R : mr_X q kd vl oc od) (hs : h' ≤ rq_h q ∨ (i = 4 + rq_h q ∧ h' = rq_h q + 1)) (hv : s = 1 ∨ s = 3 → w = v) (ho : 4 ≤ s → w = nI (s - 4)) : mr_X (mr_set q i s v h' l') (mf_up kd i (mr_kd s)) (upd vl i w) oc od := by
  refine ⟨fun j hj => ?_, R.2⟩
  have hj' : j < 4 + h' := hj
  show mf_up kd i (mr_kd s) j = mr_kd (mf_up (rq_S q) i s j) ∧ (mf_up (rq_S q) i s j = 1 ∨ mf_up (rq_S q) i s j = 3 → upd vl i w j = upd (rq_I q) i v j) ∧ (4 ≤ mf_up (rq_S q) i s j → upd vl i w j = nI (mf_up (rq_S q) i s j - 4))
  by_cases e : j = i
  · subst e
    rw [up_s, up_s, pk_us, pk_us]; exact ⟨rfl, hv, ho⟩
  · rw [up_n e, up_n e, pk_un e, pk_un e]
    exact R.1 j (by omega)
theorem mr_X_hl {h' l' : Nat} (R : mr_X q kd vl oc od) (hs : h' ≤ rq_h q) : mr_X (mr_hl q h' l') kd vl oc od := by
  refine ⟨fun j hj => ?_, R.2⟩
  have hj' : j < 4 + h' := hj
  exact R.1 j (by omega)
theorem mr_X_obj {c : Nat} {b : Bool} (R : mr_X q kd vl oc od) : mr_X (mr_obj q c b) kd vl (mf_up oc (rq_n q) c) (mf_up od (rq_n q) b.toNat) := by
  refine ⟨R.1, fun j hj => ?_⟩
  have hj' : j < rq_n q + 1 := hj
  show mf_up oc (rq_n q) c j = mf_up (rq_C q) (rq_n q) c j ∧ mf_up od (rq_n q) b.toNat j = (mr_uB (rq_R q) (rq_n q) b j).toNat
  unfold mr_uB
  by_cases e : j = rq_n q
  · subst e; rw [up_s, up_s, up_s, if_pos rfl]; exact ⟨rfl, rfl⟩
  · rw [up_n e, up_n e, up_n e, if_neg e]; exact R.2 j (by omega)
theorem xr_mo {post : Int32 → SX → Prop} {c : Nat} {b : Bool} (hn : rq_n q ≤ 203) (H : post (nI (rq_n q)) ((nI (mc_cc g)), (nI (mc_hc g)), f_placeCount, f_tooMany, f_layAnswer, f_wrongKind, f_wrongKey, f_grown, f_frameDepth, f_frameThere, f_lastReason, (nI (rq_h (mr_obj q c b))), (nI (rq_n (mr_obj q c b))), f_hasRun, f_begun, f_nowAt, f_endClass, (ar (mc_p g)), (ar (mc_e g)), (ar (mc_o g)), (mc_r g), (ar (mc_f g)), (ar (mc_t g)), (ar (mc_g g)), (ar (mc_k g)), a_placeKey, a_placeDepth, a_cameWith, a_ledWith, a_faults, a_found, a_hasFound, a_kept, a_hasMap, a_frame, (ar kd), vl, (ar (mf_up oc (rq_n q) c)), (ar (mf_up od (rq_n q) b.toNat)))) : wpX_makeObject post ((nI (mc_cc g)), (nI (mc_hc g)), f_placeCount, f_tooMany, f_layAnswer, f_wrongKind, f_wrongKey, f_grown, f_frameDepth, f_frameThere, f_lastReason, (nI (rq_h q)), (nI (rq_n q)), f_hasRun, f_begun, f_nowAt, f_endClass, (ar (mc_p g)), (ar (mc_e g)), (ar (mc_o g)), (mc_r g), (ar (mc_f g)), (ar (mc_t g)), (ar (mc_g g)), (ar (mc_k g)), a_placeKey, a_placeDepth, a_cameWith, a_ledWith, a_faults, a_found, a_hasFound, a_kept, a_hasMap, a_frame, (ar kd), vl, (ar oc), (ar od)) (nI c) (mf_b b) := by
  unfold wpX_makeObject
  dsimp only
  refine pk_lt (rq_n q) 204 (fun _ => ⟨vp_in_nI (by omega) (by omega), nm_r (ar_ui _ _ (by omega)) ⟨vp_in_nI (by omega) (by omega), nm_r (e' := ar (mf_up od (rq_n q) b.toNat)) ?_ (nm_r (nI_1 _) H)⟩⟩) (fun c => by omega)
  have : vp_nar .boolean (mf_b b) = nI b.toNat := by cases b <;> decide
  rw [this]; exact ar_ui _ _ (by omega)
theorem xr_ref {post : Int32 → Prop} {s : Nat} (R : mr_X q kd vl oc od) (ok : mr_ok g q) (hn : rq_n q ≤ 204) (hs : s < 4 + rq_h q) (h1 : mr_ref q (rq_S q s) → post 1) (h0 : ¬ mr_ref q (rq_S q s) → post 0) : wpX_isReference post ((nI (mc_cc g)), (nI (mc_hc g)), f_placeCount, f_tooMany, f_layAnswer, f_wrongKind, f_wrongKey, f_grown, f_frameDepth, f_frameThere, f_lastReason, (nI (rq_h q)), (nI (rq_n q)), f_hasRun, f_begun, f_nowAt, f_endClass, (ar (mc_p g)), (ar (mc_e g)), (ar (mc_o g)), (mc_r g), (ar (mc_f g)), (ar (mc_t g)), (ar (mc_g g)), (ar (mc_k g)), a_placeKey, a_placeDepth, a_cameWith, a_ledWith, a_faults, a_found, a_hasFound, a_kept, a_hasMap, a_frame, (ar kd), vl, (ar oc), (ar od)) (nI s) := by
  obtain ⟨r1, r2, r3⟩ := R.1 s hs
  have h6 := ok.1
  have kl := mr_kdl (rq_S q s)
  unfold wpX_isReference
  dsimp only
  have e1 : ar kd (nI s).toNatClampNeg = nI (mr_kd (rq_S q s)) := by rw [ar_at _ (by omega), r1]
  have e2 : vl (nI s).toNatClampNeg = vl s := by rw [nI_clamp (by omega)]
  rw [e1, e2]
  refine ⟨vp_in_nI (by omega) (by omega), pk_eq (mr_kd (rq_S q s)) 2 (fun c => h1 (Or.inl (mr_kd2.mp c))) (fun c => ⟨vp_in_nI (by omega) (by omega), pk_eq (mr_kd (rq_S q s)) 3 (fun d => ⟨vp_in_nI (by omega) (by omega), ?_⟩) (fun d => h0 ?_)⟩)⟩
  · have d' := mr_kd3.mp d
    have hj := (ok.2.2.1 s hs).1 d'
    rw [r3 d', ar_at _ (by omega), (R.2 _ hj).2]
    refine ⟨vp_in_nI (by omega) (by omega), ?_⟩
    cases e : rq_R q (rq_S q s - 4) with
    | false =>
      refine xb_0 (h0 ?_)
      rintro (z | ⟨_, z⟩)
      · exact c (mr_kd2.mpr z)
      · rw [e] at z; cases z
    | true => exact xb_1 (h1 (Or.inr ⟨d', e⟩))
  · rintro (z | ⟨z, _⟩)
    · exact c (mr_kd2.mpr z)
    · exact d (mr_kd3.mpr z)
theorem xr_of {post : Int32 → Prop} {s a : Nat} (hG : md_G g) (R : mr_X q kd vl oc od) (ok : mr_ok g q) (hn : rq_n q ≤ 204) (hs : s < 4 + rq_h q) (ha : a < 8) (h1 : (4 ≤ rq_S q s → mt_ab g a (rq_C q (rq_S q s - 4))) → post 1) (h0 : ¬ (4 ≤ rq_S q s → mt_ab g a (rq_C q (rq_S q s - 4))) → post 0) : wpX_isOfClass post ((nI (mc_cc g)), (nI (mc_hc g)), f_placeCount, f_tooMany, f_layAnswer, f_wrongKind, f_wrongKey, f_grown, f_frameDepth, f_frameThere, f_lastReason, (nI (rq_h q)), (nI (rq_n q)), f_hasRun, f_begun, f_nowAt, f_endClass, (ar (mc_p g)), (ar (mc_e g)), (ar (mc_o g)), (mc_r g), (ar (mc_f g)), (ar (mc_t g)), (ar (mc_g g)), (ar (mc_k g)), a_placeKey, a_placeDepth, a_cameWith, a_ledWith, a_faults, a_found, a_hasFound, a_kept, a_hasMap, a_frame, (ar kd), vl, (ar oc), (ar od)) (nI s) (nI a) := by
  obtain ⟨r1, r2, r3⟩ := R.1 s hs
  have h6 := ok.1
  have kl := mr_kdl (rq_S q s)
  unfold wpX_isOfClass
  dsimp only
  have e1 : ar kd (nI s).toNatClampNeg = nI (mr_kd (rq_S q s)) := by rw [ar_at _ (by omega), r1]
  have e2 : vl (nI s).toNatClampNeg = vl s := by rw [nI_clamp (by omega)]
  rw [e1, e2]
  refine ⟨vp_in_nI (by omega) (by omega), pk_eq (mr_kd (rq_S q s)) 3 (fun d => ⟨vp_in_nI (by omega) (by omega), ?_⟩) (fun d => h1 (fun z => absurd (mr_kd3.mpr z) d))⟩
  have d' := mr_kd3.mp d
  have hj := (ok.2.2.1 s hs).1 d'
  have hc := ok.2.2.2 _ hj
  rw [r3 d', ar_at _ (by omega), (R.2 _ hj).1]
  refine ⟨vp_in_nI (by omega) (by omega), xa_und hG hc ha (fun z => xb_1 (h1 (fun _ => z))) (fun z => xb_0 (h0 (fun y => z (y d'))))⟩
theorem xr_fn {post : Int32 → Prop} (hG : md_G g) (R : mr_X q kd vl oc od) (ok : mr_ok g q) (hn : rq_n q ≤ 204) (hl : rq_l q < mc_cc g) (h1 : mr_gd g q → post 1) (h0 : ¬ mr_gd g q → post 0) : wpX_findsNeeds post ((nI (mc_cc g)), (nI (mc_hc g)), f_placeCount, f_tooMany, f_layAnswer, f_wrongKind, f_wrongKey, f_grown, f_frameDepth, f_frameThere, f_lastReason, (nI (rq_h q)), (nI (rq_n q)), f_hasRun, f_begun, (nI (rq_l q)), f_endClass, (ar (mc_p g)), (ar (mc_e g)), (ar (mc_o g)), (mc_r g), (ar (mc_f g)), (ar (mc_t g)), (ar (mc_g g)), (ar (mc_k g)), a_placeKey, a_placeDepth, a_cameWith, a_ledWith, a_faults, a_found, a_hasFound, a_kept, a_hasMap, a_frame, (ar kd), vl, (ar oc), (ar od)) (nI (rq_l q)) := by
  have hcc := hG.1
  have h6 := ok.1
  have h20 : mr_o g q < 20 := hG.2.2.1 _
  have t2 := md_tk2 (mr_o g q)
  have p2 := md_pu2 (mr_o g q)
  have ho : mc_o g (rq_l q) = mr_o g q := rfl
  have ha : mc_a g (rq_l q) = mr_a g q := rfl
  unfold wpX_findsNeeds
  dsimp only
  refine ⟨vp_in_nI (by omega) (by omega), nm_r (e' := nI (mr_o g q)) (ar_at _ (by omega)) ⟨vp_in_nI (by omega) (by omega), nm_r (e' := mc_r g (rq_l q)) (by rw [nI_clamp (by omega)]) (xa_tk h20 (nm_e ?_))⟩⟩
  have I1 := mi_lt0 (rq_h q) (by omega) _ (show md_tk (mr_o g q) < 3 by omega)
  have I2 := mi_le6 (rq_h q) (by omega) _ (show md_tk (mr_o g q) < 3 by omega) _ (show md_pu (mr_o g q) < 3 by omega)
  refine br_c (fun c => h0 (fun z => ?_)) (fun c => ?_)
  · rw [I1] at c
    have := z.1.1
    omega
  rw [I1] at c
  refine xa_pu h20 (br_c (fun d => ?_) (fun d => h0 (fun z => ?_)))
  rotate_left
  · rw [I2] at d
    have := z.1.2
    omega
  rw [I2] at d
  have tk : md_tk (mr_o g q) ≤ rq_h q ∧ rq_h q + md_pu (mr_o g q) ≤ 6 + md_tk (mr_o g q) := ⟨by omega, d⟩
  have etop : (4 : Int32) + nI (rq_h q) - 1 = nI (3 + rq_h q) := by
    show nI 4 + nI (rq_h q) - nI 1 = _
    rw [nI_add, pk_sub (by omega)]; exact congrArg nI (by omega)
  refine nm_r etop ?_
  have et : 0 < rq_h q → rq_S q (3 + rq_h q) = mr_t q := fun _ => rfl
  have K : ∀ s, s < 4 + rq_h q → ar kd (nI s).toNatClampNeg = nI (mr_kd (rq_S q s)) := by
    intro s hs; rw [ar_at _ (by omega), (R.1 s hs).1]
  have tkn : ∀ n, mr_o g q = n → md_tk n ≤ rq_h q := by
    intro n e; rw [← e]; exact tk.1
  have T : (mr_o g q < 2 ∨ mr_o g q = 3 ∨ mr_o g q = 4 ∨ mr_o g q = 5 ∨ mr_o g q = 6 ∨ mr_o g q = 8 ∨ mr_o g q = 12 ∨ mr_o g q = 15 ∨ mr_o g q = 17) → post 1 := by
    intro z
    refine h1 ⟨tk, fun y => by omega, fun y => by omega, fun y => by omega, fun y => by omega, fun y => by omega, fun y => by omega, fun y => by omega⟩
  have nb1 : narrow .boolean (.int (1 : Int32)) = .int 1 := rfl
  have nb0 : narrow .boolean (.int (0 : Int32)) = .int 0 := rfl
  have S227 : (mr_o g q = 10 ∨ mr_o g q = 14 ∨ mr_o g q = 19) → 0 < rq_h q → wX_findsNeeds_227 post (nI (3 + rq_h q)) (nI (mc_cc g)) (nI (mc_hc g)) f_placeCount f_tooMany f_layAnswer f_wrongKind f_wrongKey f_grown f_frameDepth f_frameThere f_lastReason (nI (rq_h q)) (nI (rq_n q)) f_hasRun f_begun (nI (rq_l q)) f_endClass (ar (mc_p g)) (ar (mc_e g)) (ar (mc_o g)) (mc_r g) (ar (mc_f g)) (ar (mc_t g)) (ar (mc_g g)) (ar (mc_k g)) a_placeKey a_placeDepth a_cameWith a_ledWith a_faults a_found a_hasFound a_kept a_hasMap a_frame (ar kd) vl (ar oc) (ar od) := by
    intro z hp
    unfold wX_findsNeeds_227
    refine xr_ref R ok hn (by omega) (fun y => ⟨nb1, h1 ?_⟩) (fun y => ⟨nb0, h0 (fun w => y (w.2.2.2.2.1 z))⟩)
    exact ⟨tk, fun y => by omega, fun y => by omega, fun y => by omega, fun _ => y, fun y => by omega, fun y => by omega, fun y => by omega⟩
  have S234 : (mr_o g q = 11 ∨ mr_o g q = 18) → 0 < rq_h q → wX_findsNeeds_234 post (mc_r g (rq_l q)) (nI (3 + rq_h q)) (nI (mc_cc g)) (nI (mc_hc g)) f_placeCount f_tooMany f_layAnswer f_wrongKind f_wrongKey f_grown f_frameDepth f_frameThere f_lastReason (nI (rq_h q)) (nI (rq_n q)) f_hasRun f_begun (nI (rq_l q)) f_endClass (ar (mc_p g)) (ar (mc_e g)) (ar (mc_o g)) (mc_r g) (ar (mc_f g)) (ar (mc_t g)) (ar (mc_g g)) (ar (mc_k g)) a_placeKey a_placeDepth a_cameWith a_ledWith a_faults a_found a_hasFound a_kept a_hasMap a_frame (ar kd) vl (ar oc) (ar od) := by
    intro z hp
    have hla := mn_lim8 hG (i := rq_l q) (by omega)
    unfold wX_findsNeeds_234
    rw [hla.2]
    refine xr_ref R ok hn (by omega) (fun y => xb_1 (xr_of hG R ok hn (by omega) hla.1 (fun w => xb_1 (h1 ?_)) (fun w => xb_0 (h0 (fun v => w ?_))))) (fun y => xb_0 (h0 (fun v => y ?_)))
    · refine ⟨tk, fun y => by omega, fun y => by omega, fun y => by omega, fun y => by omega, fun _ => ?_, fun y => by omega, fun y => by omega⟩
      rcases y with y | ⟨y1, y2⟩
      · exact Or.inl y
      · exact Or.inr ⟨y1, y2, w y1⟩
    · intro y4
      rcases v.2.2.2.2.2.1 z with u | ⟨_, _, u⟩
      · have u' : rq_S q (3 + rq_h q) = 2 := u
        omega
      · exact u
    · rcases v.2.2.2.2.2.1 z with u | ⟨u1, u2, _⟩
      · exact Or.inl u
      · exact Or.inr ⟨u1, u2⟩
  refine pk_lt (mr_o g q) 2 (fun c => T (by omega)) (fun c2 => pk_lt 19 (mr_o g q) (fun c => by omega) (fun c19 => ?_))
  refine pk_eq (mr_o g q) 2 (fun c => ?_) (fun n2 => ?_)
  · have hla := mn_lim4 hG (i := rq_l q) (Or.inl c)
    have kl := mr_kdl (rq_S q (mr_a g q))
    rw [hla.2, ha, K _ (by omega)]
    refine ⟨vp_in_nI (by omega) (by omega), pk_eq (mr_kd (rq_S q (mr_a g q))) 0 (fun z => h0 (fun w => (w.2.1 c).1 (mr_kd0.mp z))) (fun z => ⟨vp_in_nI (by omega) (by omega), pk_eq (mr_kd (rq_S q (mr_a g q))) 4 (fun y => h0 (fun w => (w.2.1 c).2 (mr_kd4.mp y))) (fun y => h1 ?_)⟩)⟩
    exact ⟨tk, fun _ => ⟨fun w => z (mr_kd0.mpr w), fun w => y (mr_kd4.mpr w)⟩, fun y => by omega, fun y => by omega, fun y => by omega, fun y => by omega, fun y => by omega, fun y => by omega⟩
  refine pk_eq (mr_o g q) 3 (fun c => T (by omega)) (fun n3 => pk_eq (mr_o g q) 4 (fun c => T (by omega)) (fun n4 => pk_eq (mr_o g q) 5 (fun c => T (by omega)) (fun n5 => pk_eq (mr_o g q) 6 (fun c => T (by omega)) (fun n6 => ?_))))
  refine pk_eq (mr_o g q) 7 (fun c => ?_) (fun n7 => ?_)
  · have hp : 2 ≤ rq_h q := tkn 7 c
    have k1 := mr_kdl (rq_S q (3 + rq_h q))
    have k2 := mr_kdl (rq_S q (2 + rq_h q))
    have e2 : nI (3 + rq_h q) - 1 = nI (2 + rq_h q) := by
      show nI (3 + rq_h q) - nI 1 = _
      rw [pk_sub (by omega)]; exact congrArg nI (by omega)
    rw [e2, K _ (by omega), K _ (by omega)]
    refine ⟨vp_in_nI (by omega) (by omega), pk_eq (mr_kd (rq_S q (3 + rq_h q))) 1 (fun z => ⟨vp_in_nI (by omega) (by omega), pk_eq (mr_kd (rq_S q (2 + rq_h q))) 1 (fun y => h1 ?_) (fun y => h0 (fun w => y (mr_kd1.mpr (w.2.2.1 c).2)))⟩) (fun z => h0 (fun w => z (mr_kd1.mpr (w.2.2.1 c).1)))⟩
    exact ⟨tk, fun y => by omega, fun _ => ⟨mr_kd1.mp z, mr_kd1.mp y⟩, fun y => by omega, fun y => by omega, fun y => by omega, fun y => by omega, fun y => by omega⟩
  refine pk_eq (mr_o g q) 8 (fun c => T (by omega)) (fun n8 => ?_)
  refine pk_eq (mr_o g q) 9 (fun c => ?_) (fun n9 => ?_)
  · have hp : 1 ≤ rq_h q := tkn 9 c
    have k1 := mr_kdl (rq_S q (3 + rq_h q))
    have e2 : vl (nI (3 + rq_h q)).toNatClampNeg = vl (3 + rq_h q) := by rw [nI_clamp (by omega)]
    rw [K _ (by omega), e2]
    refine ⟨vp_in_nI (by omega) (by omega), pk_eq (mr_kd (rq_S q (3 + rq_h q))) 3 (fun z => ⟨vp_in_nI (by omega) (by omega), ?_⟩) (fun z => h0 (fun w => z (mr_kd3.mpr (w.2.2.2.1 c).1)))⟩
    have z' := mr_kd3.mp z
    have hj := (ok.2.2.1 (3 + rq_h q) (by omega)).1 z'
    rw [(R.1 (3 + rq_h q) (by omega)).2.2 z', ar_at _ (by omega), (R.2 _ hj).2]
    refine ⟨vp_in_nI (by omega) (by omega), ?_⟩
    cases e : rq_R q (rq_S q (3 + rq_h q) - 4) with
    | false => exact xb_0 (h1 ⟨tk, fun y => by omega, fun y => by omega, fun _ => ⟨z', e⟩, fun y => by omega, fun y => by omega, fun y => by omega, fun y => by omega⟩)
    | true =>
      refine xb_1 (h0 (fun w => ?_))
      have := (w.2.2.2.1 c).2
      have e' : rq_R q (mr_t q - 4) = true := e
      rw [e'] at this; cases this
  refine pk_eq (mr_o g q) 10 (fun c => S227 (by omega) (tkn 10 c)) (fun n10 => pk_eq (mr_o g q) 11 (fun c => S234 (by omega) (tkn 11 c)) (fun n11 => pk_eq (mr_o g q) 12 (fun c => T (by omega)) (fun n12 => ?_)))
  refine pk_eq (mr_o g q) 13 (fun c => ?_) (fun n13 => ?_)
  · have hp : 1 ≤ rq_h q := tkn 13 c
    have k1 := mr_kdl (rq_S q (3 + rq_h q))
    rw [K _ (by omega)]
    refine ⟨vp_in_nI (by omega) (by omega), pk_eq (mr_kd (rq_S q (3 + rq_h q))) 1 (fun z => h1 ?_) (fun z => h0 (fun w => z (mr_kd1.mpr (w.2.2.2.2.2.2.1 c))))⟩
    exact ⟨tk, fun y => by omega, fun y => by omega, fun y => by omega, fun y => by omega, fun y => by omega, fun _ => mr_kd1.mp z, fun y => by omega⟩
  refine pk_eq (mr_o g q) 14 (fun c => S227 (by omega) (tkn 14 c)) (fun n14 => pk_eq (mr_o g q) 15 (fun c => T (by omega)) (fun n15 => ?_))
  refine pk_eq (mr_o g q) 16 (fun c => ?_) (fun n16 => ?_)
  · have hla := mn_lim4 hG (i := rq_l q) (Or.inr (Or.inr c))
    have kl := mr_kdl (rq_S q (mr_a g q))
    rw [hla.2, ha, K _ (by omega)]
    refine ⟨vp_in_nI (by omega) (by omega), pk_eq (mr_kd (rq_S q (mr_a g q))) 4 (fun z => h1 ?_) (fun z => h0 (fun w => z (mr_kd4.mpr (w.2.2.2.2.2.2.2 c))))⟩
    exact ⟨tk, fun y => by omega, fun y => by omega, fun y => by omega, fun y => by omega, fun y => by omega, fun y => by omega, fun _ => mr_kd4.mp z⟩
  refine pk_eq (mr_o g q) 17 (fun c => T (by omega)) (fun n17 => pk_eq (mr_o g q) 18 (fun c => S234 (by omega) (tkn 18 c)) (fun n18 => pk_eq (mr_o g q) 19 (fun c => S227 (by omega) (tkn 19 c)) (fun n19 => by omega)))
end
