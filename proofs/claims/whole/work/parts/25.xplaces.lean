/-! ===== the class: all passes of coming to places ===== -/
section
variable {f_codeCount f_coverCount f_placeCount f_tooMany f_layAnswer f_wrongKind f_wrongKey f_grown f_frameDepth f_frameThere f_lastReason f_valueDepth f_objectCount f_hasRun f_begun f_nowAt f_endClass : Int32} {a_parent a_entry a_code a_operand a_coverFrom a_coverTo a_coverTarget a_coverClass a_placeKey a_placeDepth a_cameWith a_ledWith a_faults a_found a_hasFound a_kept a_hasMap a_frame a_kind a_value a_objectClass a_objectReady : Nat → Int32}
variable {g : md_C}
def mx_mu (s : mx_S) : Nat := me_mu 40 (xs_m s) (xs_l s)
def mx_cl (s : mx_S) : Prop := ∀ k d, k < xs_m s → (xs_w s k).testBit d = true → (xs_l s k).testBit d = true
/-- within a pass that began at s: x1 says whether something led on -/
def mx_Q (s : mx_S) (k d : Nat) (x1 : Int32) (z : mx_S) : Prop := (x1 = 1 ∧ mx_mu z < mx_mu s) ∨ (x1 = 0 ∧ z = s ∧ ∀ k' d', k' < xs_m z → (k' < k ∨ k' = k ∧ d' < d) → (xs_w z k').testBit d' = true → (xs_l z k').testBit d' = true)
theorem xe_53 {post : SX → Prop} {s : mx_S} {k : Nat} {x2 : Int32} {J15 : _} {J36 : _} (hG : md_G g) (hM : md_M g) (H : ∀ x1 z, mx_J g (fun _ _ => False) z → mx_Q s (k + 1) 0 x1 z → J36 x1 (nI (k + 1)) (nI (mc_cc g)) (nI (mc_hc g)) (nI (xs_m z)) (nI (xs_t z)) f_layAnswer f_wrongKind f_wrongKey f_grown f_frameDepth f_frameThere f_lastReason f_valueDepth f_objectCount f_hasRun f_begun f_nowAt f_endClass (ar (mc_p g)) (ar (mc_e g)) (ar (mc_o g)) (mc_r g) (ar (mc_f g)) (ar (mc_t g)) (ar (mc_g g)) (ar (mc_k g)) (ar (xs_kr z)) (ar (xs_D z)) (ar (xs_w z)) (ar (xs_l z)) (ar (xs_f z)) a_found a_hasFound a_kept a_hasMap a_frame a_kind a_value a_objectClass a_objectReady) : ∀ e d, d + e = 7 → ∀ x1 z, mx_J g (fun _ _ => False) z → k < xs_m z → mx_Q s k d x1 z → wX_comeToPlaces_53 post J15 J36 x2 (nI k) (e + 1) x1 (nI d) (nI (mc_cc g)) (nI (mc_hc g)) (nI (xs_m z)) (nI (xs_t z)) f_layAnswer f_wrongKind f_wrongKey f_grown f_frameDepth f_frameThere f_lastReason f_valueDepth f_objectCount f_hasRun f_begun f_nowAt f_endClass (ar (mc_p g)) (ar (mc_e g)) (ar (mc_o g)) (mc_r g) (ar (mc_f g)) (ar (mc_t g)) (ar (mc_g g)) (ar (mc_k g)) (ar (xs_kr z)) (ar (xs_D z)) (ar (xs_w z)) (ar (xs_l z)) (ar (xs_f z)) a_found a_hasFound a_kept a_hasMap a_frame a_kind a_value a_objectClass a_objectReady := by
  intro e
  induction e with
  | zero =>
    intro d hd x1 z J hk Q
    refine pk_lt 6 d (fun _ => nm_r (nI_1 k) (H x1 z J ?_)) (fun c => by omega)
    rcases Q with ⟨a, b⟩ | ⟨a, b, c⟩
    · exact Or.inl ⟨a, b⟩
    · refine Or.inr ⟨a, b, fun k' d' hk' o hb => ?_⟩
      rcases o with o | ⟨_, o⟩
      · by_cases ek : k' = k
        · have := mb_ext (J.1.2.1 k' hk').1 hb
          exact c k' d' hk' (Or.inr ⟨ek, by omega⟩) hb
        · exact c k' d' hk' (Or.inl (by omega)) hb
      · omega
  | succ e ih =>
    intro d hd x1 z J hk Q
    have hm := J.1.1
    have hw := J.1.2.1 k hk
    refine pk_lt 6 d (fun c => by omega) (fun _ => nm_e ⟨vp_in_nI (by omega) (by omega), vp_in_nI (by omega) (by omega), ?_⟩)
    rw [ar_at _ (by omega), ar_at _ (by omega)]
    refine br_c (fun c => ?_) (fun c => ?_)
    · rw [mb_open hw.1 (by omega)] at c
      refine nm_r (nI_1 d) (ih (d + 1) (by omega) x1 z J hk ?_)
      rcases Q with ⟨a, b⟩ | ⟨a, b, f⟩
      · exact Or.inl ⟨a, b⟩
      · refine Or.inr ⟨a, b, fun k' d' hk' o hb => ?_⟩
        by_cases q : k' = k ∧ d' = d
        · obtain ⟨rfl, rfl⟩ := q
          exact Classical.byContradiction (fun n => c ⟨hb, n⟩)
        · exact f k' d' hk' (by omega) hb
    · rw [mb_open hw.1 (by omega)] at c
      have c' : (xs_w z k).testBit d = true ∧ ¬ (xs_l z k).testBit d = true := Classical.byContradiction c
      refine ⟨vp_in_nI (by omega) (by omega), vp_in_nI (by omega) (by omega), nm_r (e' := ar (mf_up (xs_l z) k (xs_l z k ||| 2 ^ d))) ?_ ?_⟩
      · rw [mb_or (by omega), ar_ui _ _ (by omega)]
      · refine xe_lead hG hM J hk c'.1 c'.2 (fun y Jy mu le => ?_)
        refine nm_r (nI_1 d) (ih (d + 1) (by omega) 1 y Jy (by omega) (Or.inl ⟨rfl, ?_⟩))
        have mu' : mx_mu y < mx_mu z := mu
        rcases Q with ⟨a, b⟩ | ⟨a, b, f⟩
        · omega
        · rw [b] at mu'; exact mu'
theorem xe_36 {post : SX → Prop} {s : mx_S} {x2 : Nat} {J15 : _} (hG : md_G g) (hM : md_M g) (H : ∀ x1 z, mx_J g (fun _ _ => False) z → (x1 = 1 ∧ mx_mu z < mx_mu s) ∨ (x1 = 0 ∧ z = s ∧ mx_cl z) → J15 x1 (nI (x2 + 1)) (nI (mc_cc g)) (nI (mc_hc g)) (nI (xs_m z)) (nI (xs_t z)) f_layAnswer f_wrongKind f_wrongKey f_grown f_frameDepth f_frameThere f_lastReason f_valueDepth f_objectCount f_hasRun f_begun f_nowAt f_endClass (ar (mc_p g)) (ar (mc_e g)) (ar (mc_o g)) (mc_r g) (ar (mc_f g)) (ar (mc_t g)) (ar (mc_g g)) (ar (mc_k g)) (ar (xs_kr z)) (ar (xs_D z)) (ar (xs_w z)) (ar (xs_l z)) (ar (xs_f z)) a_found a_hasFound a_kept a_hasMap a_frame a_kind a_value a_objectClass a_objectReady) : ∀ e k, k + e = 40 → ∀ x1 z, mx_J g (fun _ _ => False) z → mx_Q s k 0 x1 z → wX_comeToPlaces_36 post J15 (nI x2) (e + 1) x1 (nI k) (nI (mc_cc g)) (nI (mc_hc g)) (nI (xs_m z)) (nI (xs_t z)) f_layAnswer f_wrongKind f_wrongKey f_grown f_frameDepth f_frameThere f_lastReason f_valueDepth f_objectCount f_hasRun f_begun f_nowAt f_endClass (ar (mc_p g)) (ar (mc_e g)) (ar (mc_o g)) (mc_r g) (ar (mc_f g)) (ar (mc_t g)) (ar (mc_g g)) (ar (mc_k g)) (ar (xs_kr z)) (ar (xs_D z)) (ar (xs_w z)) (ar (xs_l z)) (ar (xs_f z)) a_found a_hasFound a_kept a_hasMap a_frame a_kind a_value a_objectClass a_objectReady := by
  have fin : ∀ k x1 z, xs_m z ≤ k → mx_Q s k 0 x1 z → (x1 = 1 ∧ mx_mu z < mx_mu s) ∨ (x1 = 0 ∧ z = s ∧ mx_cl z) := by
    intro k x1 z hk Q
    rcases Q with ⟨a, b⟩ | ⟨a, b, c⟩
    · exact Or.inl ⟨a, b⟩
    · exact Or.inr ⟨a, b, fun k' d' hk' hb => c k' d' hk' (Or.inl (by omega)) hb⟩
  intro e
  induction e with
  | zero =>
    intro k hk x1 z J Q
    have hm := J.1.1
    exact pk_le 40 k (fun _ => nm_r (nI_1 x2) (H x1 z J (fin k x1 z (by omega) Q))) (fun c => by omega)
  | succ e ih =>
    intro k hk x1 z J Q
    have hm := J.1.1
    refine pk_le 40 k (fun c => by omega) (fun _ => pk_le (xs_m z) k (fun c => nm_r (nI_1 x2) (H x1 z J (fin k x1 z c Q))) (fun c => ⟨8, ?_⟩))
    exact xe_53 hG hM (fun x1' z' J' Q' => ih (k + 1) (by omega) x1' z' J' Q') 7 0 rfl x1 z J c Q
theorem xe_15 {post : SX → Prop} (hG : md_G g) (hM : md_M g) (H : ∀ z, mx_J g (fun _ _ => False) z → (xs_t z = 1 ∨ mx_cl z) → post ((nI (mc_cc g)), (nI (mc_hc g)), (nI (xs_m z)), (nI (xs_t z)), f_layAnswer, f_wrongKind, f_wrongKey, f_grown, f_frameDepth, f_frameThere, f_lastReason, f_valueDepth, f_objectCount, f_hasRun, f_begun, f_nowAt, f_endClass, (ar (mc_p g)), (ar (mc_e g)), (ar (mc_o g)), (mc_r g), (ar (mc_f g)), (ar (mc_t g)), (ar (mc_g g)), (ar (mc_k g)), (ar (xs_kr z)), (ar (xs_D z)), (ar (xs_w z)), (ar (xs_l z)), (ar (xs_f z)), a_found, a_hasFound, a_kept, a_hasMap, a_frame, a_kind, a_value, a_objectClass, a_objectReady)) : ∀ n x2 x1 z, mx_J g (fun _ _ => False) z → (x1 = 1 ∧ mx_mu z + 2 ≤ n ∧ x2 + mx_mu z ≤ 500) ∨ (x1 = 0 ∧ mx_cl z ∧ 1 ≤ n ∧ x2 ≤ 501) → wX_comeToPlaces_15 post n x1 (nI x2) (nI (mc_cc g)) (nI (mc_hc g)) (nI (xs_m z)) (nI (xs_t z)) f_layAnswer f_wrongKind f_wrongKey f_grown f_frameDepth f_frameThere f_lastReason f_valueDepth f_objectCount f_hasRun f_begun f_nowAt f_endClass (ar (mc_p g)) (ar (mc_e g)) (ar (mc_o g)) (mc_r g) (ar (mc_f g)) (ar (mc_t g)) (ar (mc_g g)) (ar (mc_k g)) (ar (xs_kr z)) (ar (xs_D z)) (ar (xs_w z)) (ar (xs_l z)) (ar (xs_f z)) a_found a_hasFound a_kept a_hasMap a_frame a_kind a_value a_objectClass a_objectReady := by
  intro n
  induction n with
  | zero => intro x2 x1 z J h; rcases h with ⟨_, h⟩ | ⟨_, _, h⟩ <;> omega
  | succ n ih =>
    intro x2 x1 z J h
    have ht := J.2.2.2
    have hx : x2 ≤ 501 := by rcases h with ⟨_, _, h⟩ | ⟨_, _, _, h⟩ <;> omega
    refine pk_le 1000000 x2 (fun c => by omega) (fun _ => ?_)
    rcases h with ⟨rfl, h⟩ | ⟨rfl, hc, h⟩
    · refine xb_1 ?_
      rcases ht with t0 | ⟨t1, _⟩
      · refine pk_eq (xs_t z) 0 (fun _ => ⟨41, ?_⟩) (fun c => by omega)
        refine xe_36 (s := z) hG hM (fun x1' z' J' h' => ?_) 40 0 rfl 0 z J (Or.inr ⟨rfl, rfl, fun k' d' hk' o => by omega⟩)
        refine ih (x2 + 1) x1' z' J' ?_
        rcases h' with ⟨a, b⟩ | ⟨a, b, c⟩
        · exact Or.inl ⟨a, by omega, by omega⟩
        · exact Or.inr ⟨a, c, by omega, by omega⟩
      · refine pk_eq (xs_t z) 0 (fun c => by omega) (fun c => H z J (Or.inl t1))
    · exact xb_0 (H z J (Or.inr hc))
theorem xe_places {post : SX → Prop} {kr D w l f : Nat → Nat} (hG : md_G g) (hM : md_M g) (H : ∀ z, mx_J g (fun _ _ => False) z → (xs_t z = 1 ∨ mx_cl z) → post ((nI (mc_cc g)), (nI (mc_hc g)), (nI (xs_m z)), (nI (xs_t z)), f_layAnswer, f_wrongKind, f_wrongKey, f_grown, f_frameDepth, f_frameThere, f_lastReason, f_valueDepth, f_objectCount, f_hasRun, f_begun, f_nowAt, f_endClass, (ar (mc_p g)), (ar (mc_e g)), (ar (mc_o g)), (mc_r g), (ar (mc_f g)), (ar (mc_t g)), (ar (mc_g g)), (ar (mc_k g)), (ar (xs_kr z)), (ar (xs_D z)), (ar (xs_w z)), (ar (xs_l z)), (ar (xs_f z)), a_found, a_hasFound, a_kept, a_hasMap, a_frame, a_kind, a_value, a_objectClass, a_objectReady)) : wpX_comeToPlaces post ((nI (mc_cc g)), (nI (mc_hc g)), 0, f_tooMany, f_layAnswer, f_wrongKind, f_wrongKey, f_grown, f_frameDepth, f_frameThere, f_lastReason, f_valueDepth, f_objectCount, f_hasRun, f_begun, f_nowAt, f_endClass, (ar (mc_p g)), (ar (mc_e g)), (ar (mc_o g)), (mc_r g), (ar (mc_f g)), (ar (mc_t g)), (ar (mc_g g)), (ar (mc_k g)), (ar kr), (ar D), (ar w), (ar l), (ar f), a_found, a_hasFound, a_kept, a_hasMap, a_frame, a_kind, a_value, a_objectClass, a_objectReady) := by
  unfold wpX_comeToPlaces
  dsimp only
  unfold wpX_comeTo
  dsimp only
  refine xa_placeOf (m := 0) (kr := kr) (by omega) (fun k hk => by omega) (fun _ => xb_m' ?_)
  refine pk_lt 0 40 (fun _ => ?_) (fun c => by omega)
  refine nm_r (nI_1 0) ⟨vp_in_nI (n := 0) (by omega) (by omega), nm_r (ar_ui kr (k := 0) 0 (by omega)) ⟨vp_in_nI (n := 0) (by omega) (by omega), nm_r (ar_ui D (k := 0) 0 (by omega)) ⟨vp_in_nI (n := 0) (by omega) (by omega), nm_r (ar_ui w (k := 0) 0 (by omega)) ⟨vp_in_nI (n := 0) (by omega) (by omega), nm_r (ar_ui l (k := 0) 0 (by omega)) ⟨vp_in_nI (n := 0) (by omega) (by omega), nm_r (ar_ui f (k := 0) 0 (by omega)) ?_⟩⟩⟩⟩⟩
  refine ⟨vp_in_nI (n := 0) (by omega) (by omega), vp_in_nI (n := 0) (by omega) (by omega), nm_r (e' := ar (mf_up (mf_up w 0 0) 0 1)) ?_ ⟨600, ?_⟩⟩
  · have := mb_or (w := mf_up w 0 0 0) (d := 0) (by omega)
    rw [up_s] at this
    have e2 : ar (mf_up w 0 0) (0 : Int32).toNatClampNeg = nI 0 := rfl
    show upd (ar (mf_up w 0 0)) (nI 0).toNatClampNeg (ar (mf_up w 0 0) (0 : Int32).toNatClampNeg ||| (1 : Int32) <<< (nI 0 &&& 31)) = _
    rw [e2, this]
    exact ar_ui (mf_up w 0 0) (k := 0) 1 (by omega)
  · refine xe_15 hG hM H 600 0 1 (1, mf_up (fun _ => 0) 0 0, 0, mf_up kr 0 0, mf_up D 0 0, mf_up (mf_up w 0 0) 0 1, mf_up l 0 0, mf_up f 0 0) ?_ (Or.inl ⟨rfl, ?_, ?_⟩)
    · have z : ∀ k, k < 1 → k = 0 := fun k hk => by omega
      have b1 : ∀ d, (1 : Nat).testBit d = true → d = 0 := by
        intro d hd
        have : (2 ^ 0).testBit d = true := hd
        rw [Nat.testBit_two_pow] at this
        simp at this; omega
      refine ⟨⟨by show 1 ≤ 40; omega, fun k hk => ?_, fun i j hi hj _ => ?_, fun k d hk hb => ?_, fun k d hk hb => ?_, fun k d hk hb => ?_, ?_, fun k hk => ?_⟩, fun k hk => ?_, fun k hk => ?_, Or.inl rfl⟩
      · cases z k hk
        exact ⟨by show (1 : Nat) < 128; omega, by show (0 : Nat) < 128; omega⟩
      · have := z i hi; have := z j hj; omega
      · cases z k hk
        cases b1 d hb
        exact md_R0 g
      · cases z k hk
        have hb' : (0 : Nat).testBit d = true := hb
        rw [Nat.zero_testBit] at hb'; cases hb'
      · cases z k hk
        have hb' : (0 : Nat).testBit d = true := hb
        rw [Nat.zero_testBit] at hb'; cases hb'
      · exact ⟨0, by show 0 < 1; omega, rfl, by show (1 : Nat).testBit 0 = true; decide⟩
      · cases z k hk; show (1 : Nat).testBit 0 = true; decide
      · cases z k hk; show 0 = md_kx 0; decide
      · cases z k hk
        refine ⟨false, false, false, false, false, rfl, ?_, ?_, ?_, ?_, ?_⟩ <;> (show _ ↔ ∃ h, (0 : Nat).testBit h = true ∧ _) <;> simp
    · have := me_mu_b 40 1 (mf_up l 0 0)
      show me_mu 40 1 (mf_up l 0 0) + 2 ≤ 600; omega
    · have := me_mu_b 40 1 (mf_up l 0 0)
      show 0 + me_mu 40 1 (mf_up l 0 0) ≤ 500; omega
end
