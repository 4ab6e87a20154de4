/-! ===== the class: fitting, joining, frames ===== -/
section
variable {f_codeCount f_coverCount f_placeCount f_tooMany f_layAnswer f_wrongKind f_wrongKey f_grown f_frameDepth f_frameThere f_lastReason f_valueDepth f_objectCount f_hasRun f_begun f_nowAt f_endClass : Int32} {a_parent a_entry a_code a_operand a_coverFrom a_coverTo a_coverTarget a_coverClass a_placeKey a_placeDepth a_cameWith a_ledWith a_faults a_found a_hasFound a_kept a_hasMap a_frame a_kind a_value a_objectClass a_objectReady : Nat → Int32}
variable {g : md_C}
theorem xa_und {post : Int32 → Prop} {c p : Nat} (hG : md_G g) (hc : c < 8) (hp : p < 8) (h1 : mt_ab g p c → post 1) (h0 : ¬ mt_ab g p c → post 0) : wpX_isUnder post ((nI (mc_cc g)), (nI (mc_hc g)), f_placeCount, f_tooMany, f_layAnswer, f_wrongKind, f_wrongKey, f_grown, f_frameDepth, f_frameThere, f_lastReason, f_valueDepth, f_objectCount, f_hasRun, f_begun, f_nowAt, f_endClass, (ar (mc_p g)), (ar (mc_e g)), (ar (mc_o g)), (mc_r g), (ar (mc_f g)), (ar (mc_t g)), (ar (mc_g g)), (ar (mc_k g)), a_placeKey, a_placeDepth, a_cameWith, a_ledWith, a_faults, a_found, a_hasFound, a_kept, a_hasMap, a_frame, a_kind, a_value, a_objectClass, a_objectReady) (nI c) (nI p) := by
  have hpar := hG.2.2.2.2.2.1
  have L : ∀ d k e, k + d = 8 → e < 8 → (mt_cl g d p e = p → post 1) → (¬ mt_cl g d p e = p → post 0) → wX_isUnder_5 post (nI p) (nI (mc_cc g)) (nI (mc_hc g)) f_placeCount f_tooMany f_layAnswer f_wrongKind f_wrongKey f_grown f_frameDepth f_frameThere f_lastReason f_valueDepth f_objectCount f_hasRun f_begun f_nowAt f_endClass (ar (mc_p g)) (ar (mc_e g)) (ar (mc_o g)) (mc_r g) (ar (mc_f g)) (ar (mc_t g)) (ar (mc_g g)) (ar (mc_k g)) a_placeKey a_placeDepth a_cameWith a_ledWith a_faults a_found a_hasFound a_kept a_hasMap a_frame a_kind a_value a_objectClass a_objectReady (d + 1) (nI e) (nI k) := by
    intro d
    induction d with
    | zero =>
      intro k e hk he a b
      refine pk_le 8 k (fun _ => ?_) (fun c => by omega)
      exact pk_eq e p (fun q => a q) (fun q => b q)
    | succ d ih =>
      intro k e hk he a b
      refine pk_le 8 k (fun c => by omega) (fun _ => pk_le e p (fun q => ?_) (fun q => ⟨vp_in_nI (by omega) (by omega), nm_r (ar_at _ (by omega)) (nm_r (nI_1 k) ?_)⟩))
      · have e1 : mt_cl g (d + 1) p e = e := by
          show (if p < e then _ else e) = e
          rw [if_neg (by omega)]
        rw [e1] at a b
        exact pk_eq e p (fun q => a q) (fun q => b q)
      · have e1 : mt_cl g (d + 1) p e = mt_cl g d p (mc_p g e) := by
          show (if p < e then _ else e) = _
          rw [if_pos q]
        rw [e1] at a b
        have := hpar e
        exact ih (k + 1) (mc_p g e) (by omega) (by omega) a b
  unfold wpX_isUnder
  dsimp only
  exact ⟨9, L 8 0 c rfl hc h1 h0⟩
theorem xa_fits {post : Int32 → Prop} {t o : Nat} (hG : md_G g) (ht : t ≤ 90) (ho : o ≤ 90) (h1 : mt_fit g t o → post 1) (h0 : ¬ mt_fit g t o → post 0) : wpX_fits post ((nI (mc_cc g)), (nI (mc_hc g)), f_placeCount, f_tooMany, f_layAnswer, f_wrongKind, f_wrongKey, f_grown, f_frameDepth, f_frameThere, f_lastReason, f_valueDepth, f_objectCount, f_hasRun, f_begun, f_nowAt, f_endClass, (ar (mc_p g)), (ar (mc_e g)), (ar (mc_o g)), (mc_r g), (ar (mc_f g)), (ar (mc_t g)), (ar (mc_g g)), (ar (mc_k g)), a_placeKey, a_placeDepth, a_cameWith, a_ledWith, a_faults, a_found, a_hasFound, a_kept, a_hasMap, a_frame, a_kind, a_value, a_objectClass, a_objectReady) (nI t) (nI o) := by
  unfold wpX_fits
  dsimp only
  refine pk_eq t o (fun c => h1 (Or.inl c)) (fun c1 => pk_eq o 0 (fun c => h1 (Or.inr (Or.inl c))) (fun c2 => pk_lt o 3 (fun c => h0 ?_) (fun c3 => pk_le o 10 (fun c4 => pk_eq t 2 (fun c => h1 (Or.inr (Or.inr ⟨⟨c3, c4⟩, Or.inl c⟩))) (fun c5 => pk_lt t 3 (fun c => h0 ?_) (fun c6 => pk_lt 10 t (fun c => h0 ?_) (fun c7 => ?_)))) (fun c => h0 ?_))))
  · unfold mt_fit mt_C; omega
  · unfold mt_fit mt_C; omega
  · unfold mt_fit mt_C; omega
  · have e1 : nI t - 3 = nI (t - 3) := pk_sub (b := 3) c6
    have e2 : nI o - 3 = nI (o - 3) := pk_sub (b := 3) c3
    rw [e1, e2]
    refine xa_und hG (by omega) (by omega) (fun q => xb_1 (h1 (Or.inr (Or.inr ⟨⟨c3, c4⟩, Or.inr ⟨⟨c6, c7⟩, q⟩⟩)))) (fun q => xb_0 (h0 ?_))
    rintro (z | z | ⟨_, z | ⟨_, z⟩⟩)
    · exact c1 z
    · exact c2 z
    · exact c5 z
    · exact q z
  · unfold mt_fit mt_C; omega
theorem xa_join {post : Int32 → Prop} {t o : Nat} (hG : md_G g) (ht : t ≤ 90) (ho : o ≤ 90) (h : post (nI (mt_j g t o))) : wpX_join post ((nI (mc_cc g)), (nI (mc_hc g)), f_placeCount, f_tooMany, f_layAnswer, f_wrongKind, f_wrongKey, f_grown, f_frameDepth, f_frameThere, f_lastReason, f_valueDepth, f_objectCount, f_hasRun, f_begun, f_nowAt, f_endClass, (ar (mc_p g)), (ar (mc_e g)), (ar (mc_o g)), (mc_r g), (ar (mc_f g)), (ar (mc_t g)), (ar (mc_g g)), (ar (mc_k g)), a_placeKey, a_placeDepth, a_cameWith, a_ledWith, a_faults, a_found, a_hasFound, a_kept, a_hasMap, a_frame, a_kind, a_value, a_objectClass, a_objectReady) (nI t) (nI o) := by
  have hpar := hG.2.2.2.2.2.1
  unfold mt_j at h
  unfold wpX_join
  dsimp only
  refine pk_eq t o (fun c => ?_) (fun c1 => ?_)
  · rw [if_pos c] at h; exact h
  rw [if_neg c1] at h
  -- the two flags
  have S65 : ∀ b1 b2 : Bool, (b1 = true ↔ mt_C t) → (b2 = true ↔ mt_C o) → ¬ (t = 2 ∧ mt_C o) → ¬ (o = 2 ∧ mt_C t) → wX_join_65 post (nI t) (nI o) (mf_b b1) (mf_b b2) (nI (mc_cc g)) (nI (mc_hc g)) f_placeCount f_tooMany f_layAnswer f_wrongKind f_wrongKey f_grown f_frameDepth f_frameThere f_lastReason f_valueDepth f_objectCount f_hasRun f_begun f_nowAt f_endClass (ar (mc_p g)) (ar (mc_e g)) (ar (mc_o g)) (mc_r g) (ar (mc_f g)) (ar (mc_t g)) (ar (mc_g g)) (ar (mc_k g)) a_placeKey a_placeDepth a_cameWith a_ledWith a_faults a_found a_hasFound a_kept a_hasMap a_frame a_kind a_value a_objectClass a_objectReady := by
    intro b1 b2 e1 e2 n1 n2
    rw [if_neg n1, if_neg n2] at h
    unfold wX_join_65
    cases b1 with
    | false =>
      have : ¬ mt_C t := fun z => by have := e1.mpr z; cases this
      rw [if_pos (Or.inl this)] at h
      exact xb_0 h
    | true =>
      refine xb_1 ?_
      cases b2 with
      | false =>
        have : ¬ mt_C o := fun z => by have := e2.mpr z; cases this
        rw [if_pos (Or.inr this)] at h
        exact xb_0 h
      | true =>
        have a1 := e1.mp rfl
        have a2 := e2.mp rfl
        have : ¬ (¬ mt_C t ∨ ¬ mt_C o) := by
          rintro (z | z)
          · exact z a1
          · exact z a2
        rw [if_neg this] at h
        unfold mt_C at a1 a2
        have L : ∀ d k c e, k + d = 16 → c < 8 → e < 8 → post (nI (3 + mt_lca g d c e)) → wX_join_89 post (nI (mc_cc g)) (nI (mc_hc g)) f_placeCount f_tooMany f_layAnswer f_wrongKind f_wrongKey f_grown f_frameDepth f_frameThere f_lastReason f_valueDepth f_objectCount f_hasRun f_begun f_nowAt f_endClass (ar (mc_p g)) (ar (mc_e g)) (ar (mc_o g)) (mc_r g) (ar (mc_f g)) (ar (mc_t g)) (ar (mc_g g)) (ar (mc_k g)) a_placeKey a_placeDepth a_cameWith a_ledWith a_faults a_found a_hasFound a_kept a_hasMap a_frame a_kind a_value a_objectClass a_objectReady (d + 1) (nI c) (nI e) (nI k) := by
          intro d
          induction d with
          | zero =>
            intro k c e hk hc he hp
            refine pk_le 16 k (fun _ => ?_) (fun c => by omega)
            show post (nI 3 + nI c)
            rw [nI_add]; exact hp
          | succ d ih =>
            intro k c e hk hc he hp
            simp only [mt_lca] at hp
            refine pk_le 16 k (fun c => by omega) (fun _ => pk_eq c e (fun q => ?_) (fun q => pk_le c e (fun q2 => ⟨vp_in_nI (by omega) (by omega), nm_r (ar_at _ (by omega)) (nm_r (nI_1 k) ?_)⟩) (fun q2 => ⟨vp_in_nI (by omega) (by omega), nm_r (ar_at _ (by omega)) (nm_r (nI_1 k) ?_)⟩)))
            · rw [if_pos q] at hp
              show post (nI 3 + nI c)
              rw [nI_add]; exact hp
            · rw [if_neg q, if_neg (by omega)] at hp
              have := hpar e
              exact ih (k + 1) c _ (by omega) hc (by omega) hp
            · rw [if_neg q, if_pos (by omega)] at hp
              have := hpar c
              exact ih (k + 1) _ e (by omega) (by omega) he hp
        refine xb_1 (nm_r (pk_sub (b := 3) a1.1) (nm_r (pk_sub (b := 3) a2.1) ⟨17, L 16 0 _ _ rfl (by omega) (by omega) h⟩))
  have S54 : ∀ b1 b2 : Bool, (b1 = true ↔ mt_C t) → (b2 = true ↔ mt_C o) → ¬ (t = 2 ∧ mt_C o) → wX_join_54 post (nI t) (nI o) (mf_b b1) (mf_b b2) (nI (mc_cc g)) (nI (mc_hc g)) f_placeCount f_tooMany f_layAnswer f_wrongKind f_wrongKey f_grown f_frameDepth f_frameThere f_lastReason f_valueDepth f_objectCount f_hasRun f_begun f_nowAt f_endClass (ar (mc_p g)) (ar (mc_e g)) (ar (mc_o g)) (mc_r g) (ar (mc_f g)) (ar (mc_t g)) (ar (mc_g g)) (ar (mc_k g)) a_placeKey a_placeDepth a_cameWith a_ledWith a_faults a_found a_hasFound a_kept a_hasMap a_frame a_kind a_value a_objectClass a_objectReady := by
    intro b1 b2 e1 e2 n1
    unfold wX_join_54
    refine pk_eq o 2 (fun c => ?_) (fun c => S65 b1 b2 e1 e2 n1 (fun z => c z.1))
    cases b1 with
    | false => exact xb_0 (S65 false b2 e1 e2 n1 (fun z => by have := e1.mpr z.2; cases this))
    | true =>
      refine xb_1 ?_
      rw [if_neg n1, if_pos ⟨c, e1.mp rfl⟩] at h; exact h
  have S40 : ∀ b1 b2 : Bool, (b1 = true ↔ mt_C t) → (b2 = true ↔ mt_C o) → wX_join_40 post (nI t) (nI o) (mf_b b1) (mf_b b2) (nI (mc_cc g)) (nI (mc_hc g)) f_placeCount f_tooMany f_layAnswer f_wrongKind f_wrongKey f_grown f_frameDepth f_frameThere f_lastReason f_valueDepth f_objectCount f_hasRun f_begun f_nowAt f_endClass (ar (mc_p g)) (ar (mc_e g)) (ar (mc_o g)) (mc_r g) (ar (mc_f g)) (ar (mc_t g)) (ar (mc_g g)) (ar (mc_k g)) a_placeKey a_placeDepth a_cameWith a_ledWith a_faults a_found a_hasFound a_kept a_hasMap a_frame a_kind a_value a_objectClass a_objectReady := by
    intro b1 b2 e1 e2
    unfold wX_join_40
    refine pk_eq t 2 (fun c => ?_) (fun c => S54 b1 b2 e1 e2 (fun z => c z.1))
    cases b2 with
    | false => exact xb_0 (S54 b1 false e1 e2 (fun z => by have := e2.mpr z.2; cases this))
    | true =>
      refine xb_1 ?_
      rw [if_pos ⟨c, e2.mp rfl⟩] at h; exact h
  have S23 : ∀ b1 : Bool, (b1 = true ↔ mt_C t) → wX_join_23 post (nI t) (nI o) (mf_b b1) (nI (mc_cc g)) (nI (mc_hc g)) f_placeCount f_tooMany f_layAnswer f_wrongKind f_wrongKey f_grown f_frameDepth f_frameThere f_lastReason f_valueDepth f_objectCount f_hasRun f_begun f_nowAt f_endClass (ar (mc_p g)) (ar (mc_e g)) (ar (mc_o g)) (mc_r g) (ar (mc_f g)) (ar (mc_t g)) (ar (mc_g g)) (ar (mc_k g)) a_placeKey a_placeDepth a_cameWith a_ledWith a_faults a_found a_hasFound a_kept a_hasMap a_frame a_kind a_value a_objectClass a_objectReady := by
    intro b1 e1
    unfold wX_join_23 wX_join_39
    refine pk_lt o 3 (fun c => S40 b1 false e1 ?_) (fun c => pk_lt 10 o (fun d => S40 b1 false e1 ?_) (fun d => S40 b1 true e1 ?_))
    · unfold mt_C; exact ⟨fun z => (by cases z), fun z => by omega⟩
    · unfold mt_C; exact ⟨fun z => (by cases z), fun z => by omega⟩
    · exact ⟨fun _ => ⟨c, d⟩, fun _ => rfl⟩
  unfold wX_join_22
  refine pk_lt t 3 (fun c => S23 false ?_) (fun c => pk_lt 10 t (fun d => S23 false ?_) (fun d => S23 true ?_))
  · unfold mt_C; exact ⟨fun z => (by cases z), fun z => by omega⟩
  · unfold mt_C; exact ⟨fun z => (by cases z), fun z => by omega⟩
  · exact ⟨fun _ => ⟨c, d⟩, fun _ => rfl⟩
theorem xa_loadF {post : SX → Prop} {k : Nat} {fd fr D : Nat → Nat} (hk : k < 40) (H : ∀ fr' : Nat → Nat, (∀ s, s < 10 → fr' s = fd (10 * k + s)) → post (f_codeCount, f_coverCount, f_placeCount, f_tooMany, f_layAnswer, f_wrongKind, f_wrongKey, f_grown, (nI (D k)), f_frameThere, f_lastReason, f_valueDepth, f_objectCount, f_hasRun, f_begun, f_nowAt, f_endClass, a_parent, a_entry, a_code, a_operand, a_coverFrom, a_coverTo, a_coverTarget, a_coverClass, a_placeKey, (ar D), a_cameWith, a_ledWith, a_faults, (ar fd), a_hasFound, a_kept, a_hasMap, (ar fr'), a_kind, a_value, a_objectClass, a_objectReady)) : wpX_loadFrame__found post (f_codeCount, f_coverCount, f_placeCount, f_tooMany, f_layAnswer, f_wrongKind, f_wrongKey, f_grown, f_frameDepth, f_frameThere, f_lastReason, f_valueDepth, f_objectCount, f_hasRun, f_begun, f_nowAt, f_endClass, a_parent, a_entry, a_code, a_operand, a_coverFrom, a_coverTo, a_coverTarget, a_coverClass, a_placeKey, (ar D), a_cameWith, a_ledWith, a_faults, (ar fd), a_hasFound, a_kept, a_hasMap, (ar fr), a_kind, a_value, a_objectClass, a_objectReady) (nI k) := by
  have L : ∀ d s, s + d = 10 → ∀ fr : Nat → Nat, (∀ t, t < s → fr t = fd (10 * k + t)) → wX_loadFrame__found_2 post (nI k) f_codeCount f_coverCount f_placeCount f_tooMany f_layAnswer f_wrongKind f_wrongKey f_grown f_frameDepth f_frameThere f_lastReason f_valueDepth f_objectCount f_hasRun f_begun f_nowAt f_endClass (d + 1) (nI s) a_parent a_entry a_code a_operand a_coverFrom a_coverTo a_coverTarget a_coverClass a_placeKey (ar D) a_cameWith a_ledWith a_faults (ar fd) a_hasFound a_kept a_hasMap (ar fr) a_kind a_value a_objectClass a_objectReady := by
    intro d
    induction d with
    | zero =>
      intro s hs fr hf
      exact pk_le 10 s (fun _ => ⟨vp_in_nI (by omega) (by omega), nm_r (ar_at _ (by omega)) (H fr (fun t ht => hf t (by omega)))⟩) (fun c => by omega)
    | succ d ih =>
      intro s hs fr hf
      have e : nI k * 10 + nI s = nI (10 * k + s) := by
        show nI k * nI 10 + nI s = _
        rw [pk_mul, nI_add, Nat.mul_comm]
      refine pk_le 10 s (fun c => by omega) (fun _ => ?_)
      rw [e, ar_at _ (by omega)]
      refine ⟨vp_in_nI (by omega) (by omega), vp_in_nI (by omega) (by omega), nm_r (ar_ui _ _ (by omega)) (nm_r (nI_1 s) (ih (s + 1) (by omega) _ (fun t ht => ?_)))⟩
      by_cases q : t = s
      · subst q; exact up_s
      · rw [up_n q]; exact hf t (by omega)
  unfold wpX_loadFrame__found
  dsimp only
  exact ⟨11, L 10 0 rfl fr (fun t ht => by omega)⟩
theorem xa_loadK {post : SX → Prop} {k : Nat} {fd fr D : Nat → Nat} (hk : k < 40) (H : ∀ fr' : Nat → Nat, (∀ s, s < 10 → fr' s = fd (10 * k + s)) → post (f_codeCount, f_coverCount, f_placeCount, f_tooMany, f_layAnswer, f_wrongKind, f_wrongKey, f_grown, (nI (D k)), f_frameThere, f_lastReason, f_valueDepth, f_objectCount, f_hasRun, f_begun, f_nowAt, f_endClass, a_parent, a_entry, a_code, a_operand, a_coverFrom, a_coverTo, a_coverTarget, a_coverClass, a_placeKey, (ar D), a_cameWith, a_ledWith, a_faults, a_found, a_hasFound, (ar fd), a_hasMap, (ar fr'), a_kind, a_value, a_objectClass, a_objectReady)) : wpX_loadFrame__kept post (f_codeCount, f_coverCount, f_placeCount, f_tooMany, f_layAnswer, f_wrongKind, f_wrongKey, f_grown, f_frameDepth, f_frameThere, f_lastReason, f_valueDepth, f_objectCount, f_hasRun, f_begun, f_nowAt, f_endClass, a_parent, a_entry, a_code, a_operand, a_coverFrom, a_coverTo, a_coverTarget, a_coverClass, a_placeKey, (ar D), a_cameWith, a_ledWith, a_faults, a_found, a_hasFound, (ar fd), a_hasMap, (ar fr), a_kind, a_value, a_objectClass, a_objectReady) (nI k) := by
  have L : ∀ d s, s + d = 10 → ∀ fr : Nat → Nat, (∀ t, t < s → fr t = fd (10 * k + t)) → wX_loadFrame__kept_2 post (nI k) f_codeCount f_coverCount f_placeCount f_tooMany f_layAnswer f_wrongKind f_wrongKey f_grown f_frameDepth f_frameThere f_lastReason f_valueDepth f_objectCount f_hasRun f_begun f_nowAt f_endClass (d + 1) (nI s) a_parent a_entry a_code a_operand a_coverFrom a_coverTo a_coverTarget a_coverClass a_placeKey (ar D) a_cameWith a_ledWith a_faults a_found a_hasFound (ar fd) a_hasMap (ar fr) a_kind a_value a_objectClass a_objectReady := by
    intro d
    induction d with
    | zero =>
      intro s hs fr hf
      exact pk_le 10 s (fun _ => ⟨vp_in_nI (by omega) (by omega), nm_r (ar_at _ (by omega)) (H fr (fun t ht => hf t (by omega)))⟩) (fun c => by omega)
    | succ d ih =>
      intro s hs fr hf
      have e : nI k * 10 + nI s = nI (10 * k + s) := by
        show nI k * nI 10 + nI s = _
        rw [pk_mul, nI_add, Nat.mul_comm]
      refine pk_le 10 s (fun c => by omega) (fun _ => ?_)
      rw [e, ar_at _ (by omega)]
      refine ⟨vp_in_nI (by omega) (by omega), vp_in_nI (by omega) (by omega), nm_r (ar_ui _ _ (by omega)) (nm_r (nI_1 s) (ih (s + 1) (by omega) _ (fun t ht => ?_)))⟩
      by_cases q : t = s
      · subst q; exact up_s
      · rw [up_n q]; exact hf t (by omega)
  unfold wpX_loadFrame__kept
  dsimp only
  exact ⟨11, L 10 0 rfl fr (fun t ht => by omega)⟩
end
