/-! ===== the class: giving a frame ===== -/
section
variable {f_codeCount f_coverCount f_placeCount f_tooMany f_layAnswer f_wrongKind f_wrongKey f_grown f_frameDepth f_frameThere f_lastReason f_valueDepth f_objectCount f_hasRun f_begun f_nowAt f_endClass : Int32} {a_parent a_entry a_code a_operand a_coverFrom a_coverTo a_coverTarget a_coverClass a_placeKey a_placeDepth a_cameWith a_ledWith a_faults a_found a_hasFound a_kept a_hasMap a_frame a_kind a_value a_objectClass a_objectReady : Nat → Int32}
variable {g : md_C}
/-- what is known and found, in arrays -/
def mf_A (m : Nat) (D : Nat → Nat) (T : mf_T) (hf fd : Nat → Nat) : Prop := (∀ q, q < m → hf q = (T.1 q).toNat) ∧ (∀ q, q < m → T.1 q = true → ∀ s, s < 4 + D q → fd (10 * q + s) = T.2 q s)
theorem mf_bn (b : Bool) : mf_b b = nI b.toNat := by cases b <;> rfl
theorem xa_give {post : SX → Prop} {m p : Nat} {gr : Bool} {T : mf_T} {hf fd fr f D : Nat → Nat} (hG : md_G g) (hm : m ≤ 40) (hp : p < m) (hD : ∀ q, q < m → D q ≤ 6) (A : mf_A m D T hf fd) (T90 : mn_90 T) (f90 : ∀ s, f s ≤ 90) (hfr : ∀ s, s < 4 + D p → fr s = f s) (H : ∀ hf' fd' : Nat → Nat, mf_A m D (mf_gv g T p (4 + D p) f) hf' fd' → post ((nI (mc_cc g)), (nI (mc_hc g)), (nI m), f_tooMany, f_layAnswer, f_wrongKind, f_wrongKey, (mf_b (gr || mf_fl g T p (4 + D p) f)), f_frameDepth, f_frameThere, f_lastReason, f_valueDepth, f_objectCount, f_hasRun, f_begun, f_nowAt, f_endClass, (ar (mc_p g)), (ar (mc_e g)), (ar (mc_o g)), (mc_r g), (ar (mc_f g)), (ar (mc_t g)), (ar (mc_g g)), (ar (mc_k g)), a_placeKey, (ar D), a_cameWith, a_ledWith, a_faults, (ar fd'), (ar hf'), a_kept, a_hasMap, (ar fr), a_kind, a_value, a_objectClass, a_objectReady)) : wpX_giveFrame post ((nI (mc_cc g)), (nI (mc_hc g)), (nI m), f_tooMany, f_layAnswer, f_wrongKind, f_wrongKey, (mf_b gr), f_frameDepth, f_frameThere, f_lastReason, f_valueDepth, f_objectCount, f_hasRun, f_begun, f_nowAt, f_endClass, (ar (mc_p g)), (ar (mc_e g)), (ar (mc_o g)), (mc_r g), (ar (mc_f g)), (ar (mc_t g)), (ar (mc_g g)), (ar (mc_k g)), a_placeKey, (ar D), a_cameWith, a_ledWith, a_faults, (ar fd), (ar hf), a_kept, a_hasMap, (ar fr), a_kind, a_value, a_objectClass, a_objectReady) (nI p) := by
  have hDp := hD p hp
  have hfp := A.1 p hp
  -- along the slots
  let I : Nat → (Nat → Nat) → Int32 → Prop := fun s fd' gr' => (∀ q, q < m → q ≠ p → T.1 q = true → ∀ t, t < 4 + D q → fd' (10 * q + t) = T.2 q t) ∧ (∀ t, t < s → fd' (10 * p + t) = mf_nw g T p f t) ∧ (T.1 p = true → ∀ t, s ≤ t → t < 4 + D p → fd' (10 * p + t) = T.2 p t) ∧ (T.1 p = true → gr' = mf_b (gr || mf_ch g T p f s)) ∧ (∃ b, gr' = mf_b b)
  have fin : ∀ fd' gr', I (4 + D p) fd' gr' → wX_giveFrame_112 post (nI p) (nI (mc_cc g)) (nI (mc_hc g)) (nI m) f_tooMany f_layAnswer f_wrongKind f_wrongKey gr' f_frameDepth f_frameThere f_lastReason f_valueDepth f_objectCount f_hasRun f_begun f_nowAt f_endClass (ar (mc_p g)) (ar (mc_e g)) (ar (mc_o g)) (mc_r g) (ar (mc_f g)) (ar (mc_t g)) (ar (mc_g g)) (ar (mc_k g)) a_placeKey (ar D) a_cameWith a_ledWith a_faults (ar fd') (ar hf) a_kept a_hasMap (ar fr) a_kind a_value a_objectClass a_objectReady := by
    intro fd' gr' ⟨i1, i2, i3, i4, i5⟩
    have AA : ∀ hf' : Nat → Nat, hf' p = 1 → (∀ q, q ≠ p → hf' q = hf q) → mf_A m D (mf_gv g T p (4 + D p) f) hf' fd' := by
      intro hf' h1 h2
      refine ⟨fun q hq => ?_, fun q hq kq s hs => ?_⟩
      · show hf' q = (if q = p then true else T.1 q).toNat
        by_cases e : q = p
        · subst e; rw [h1, if_pos rfl]; rfl
        · rw [h2 q e, if_neg e]; exact A.1 q hq
      · show fd' (10 * q + s) = if q = p ∧ s < 4 + D p then mf_nw g T p f s else T.2 q s
        by_cases e : q = p
        · subst e; rw [if_pos ⟨rfl, hs⟩]; exact i2 s hs
        · rw [if_neg (fun z => e z.1)]
          have kq' : T.1 q = true := by
            have : (if q = p then true else T.1 q) = true := kq
            rw [if_neg e] at this; exact this
          exact i1 q hq e kq' s hs
    refine ⟨vp_in_nI (by omega) (by omega), ?_⟩
    rw [ar_at _ (by omega), hfp]
    cases hk : T.1 p with
    | false =>
      refine xb_0 ⟨vp_in_nI (by omega) (by omega), nm_r (e' := ar (mf_up hf p 1)) (by rw [mi_n1]; exact ar_ui hf 1 (by omega)) ?_⟩
      have := H (mf_up hf p 1) fd' (AA _ up_s (fun q e => up_n e))
      have ef : (gr || mf_fl g T p (4 + D p) f) = true := by
        unfold mf_fl; rw [hk]; simp
      rw [ef] at this; exact this
    | true =>
      refine xb_1 ?_
      have hh : hf p = 1 := by rw [hfp, hk]; rfl
      have := H hf fd' (AA hf hh (fun q _ => rfl))
      have ef : (gr || mf_fl g T p (4 + D p) f) = (gr || mf_ch g T p f (4 + D p)) := by
        unfold mf_fl; rw [hk]; simp
      rw [ef, ← i4 hk] at this; exact this
  have L : ∀ d s, s + d = 4 + D p → ∀ fd' gr', I s fd' gr' → wX_giveFrame_24 post (nI p) (nI (4 + D p)) (nI (mc_cc g)) (nI (mc_hc g)) (nI m) f_tooMany f_layAnswer f_wrongKind f_wrongKey f_frameDepth f_frameThere f_lastReason f_valueDepth f_objectCount f_hasRun f_begun f_nowAt f_endClass (d + 1) (nI s) gr' (ar (mc_p g)) (ar (mc_e g)) (ar (mc_o g)) (mc_r g) (ar (mc_f g)) (ar (mc_t g)) (ar (mc_g g)) (ar (mc_k g)) a_placeKey (ar D) a_cameWith a_ledWith a_faults (ar fd') (ar hf) a_kept a_hasMap (ar fr) a_kind a_value a_objectClass a_objectReady := by
    intro d
    induction d with
    | zero =>
      intro s hs fd' gr' i
      have es : s = 4 + D p := by omega
      subst es
      exact pk_le 10 (4 + D p) (fun _ => fin fd' gr' i) (fun _ => pk_le (4 + D p) (4 + D p) (fun _ => fin fd' gr' i) (fun c => by omega))
    | succ d ih =>
      intro s hs fd' gr' i
      obtain ⟨i1, i2, i3, i4, i5⟩ := i
      have e : nI p * 10 + nI s = nI (10 * p + s) := by
        show nI p * nI 10 + nI s = _
        rw [pk_mul, nI_add, Nat.mul_comm]
      refine pk_le 10 s (fun c => by omega) (fun _ => pk_le (4 + D p) s (fun c => by omega) (fun _ => nm_r e ⟨vp_in_nI (by omega) (by omega), nm_r (ar_at _ (by omega)) ⟨vp_in_nI (by omega) (by omega), ?_⟩⟩))
      rw [ar_at _ (by omega), ar_at _ (by omega), hfp, hfr s (by omega)]
      have J : ∀ z : Nat, z = mf_nw g T p f s → z ≤ 90 → wX_giveFrame_88 post (wX_giveFrame_24 post (nI p) (nI (4 + D p)) (nI (mc_cc g)) (nI (mc_hc g)) (nI m) f_tooMany f_layAnswer f_wrongKind f_wrongKey f_frameDepth f_frameThere f_lastReason f_valueDepth f_objectCount f_hasRun f_begun f_nowAt f_endClass (d + 1)) (nI p) (nI (4 + D p)) (nI s) (nI (10 * p + s)) (nI (fd' (10 * p + s))) (nI z) (nI (10 * p + s)) (nI (mc_cc g)) (nI (mc_hc g)) (nI m) f_tooMany f_layAnswer f_wrongKind f_wrongKey gr' f_frameDepth f_frameThere f_lastReason f_valueDepth f_objectCount f_hasRun f_begun f_nowAt f_endClass (ar (mc_p g)) (ar (mc_e g)) (ar (mc_o g)) (mc_r g) (ar (mc_f g)) (ar (mc_t g)) (ar (mc_g g)) (ar (mc_k g)) a_placeKey (ar D) a_cameWith a_ledWith a_faults (ar fd') (ar hf) a_kept a_hasMap (ar fr) a_kind a_value a_objectClass a_objectReady := by
        intro z ez z90
        refine ⟨vp_in_nI (by omega) (by omega), nm_r (ar_ui _ _ (by omega)) ⟨vp_in_nI (by omega) (by omega), ?_⟩⟩
        rw [ar_at _ (by omega), up_s]
        have b1 : ∀ q, q < m → q ≠ p → T.1 q = true → ∀ t, t < 4 + D q → mf_up fd' (10 * p + s) z (10 * q + t) = T.2 q t := by
          intro q hq nq kq t ht
          have := hD q hq
          rw [up_n (by omega)]; exact i1 q hq nq kq t ht
        have b2 : ∀ t, t < s + 1 → mf_up fd' (10 * p + s) z (10 * p + t) = mf_nw g T p f t := by
          intro t ht
          by_cases q : t = s
          · subst q; rw [up_s]; exact ez
          · rw [up_n (by omega)]; exact i2 t (by omega)
        have b3 : T.1 p = true → ∀ t, s + 1 ≤ t → t < 4 + D p → mf_up fd' (10 * p + s) z (10 * p + t) = T.2 p t := by
          intro k t h1 h2
          rw [up_n (by omega)]; exact i3 k t (by omega) h2
        refine br_c (fun q => nm_r (nI_1 s) (ih (s + 1) (by omega) _ gr' ⟨b1, b2, b3, fun k => ?_, i5⟩)) (fun q => nm_r (nI_1 s) (ih (s + 1) (by omega) _ 1 ⟨b1, b2, b3, fun k => ?_, ⟨true, rfl⟩⟩))
        · rw [i4 k]
          have old := i3 k s (Nat.le_refl _) (by omega)
          have t90 := T90 p s
          rw [old] at q
          have : z = T.2 p s := (nI_eq (by omega) (by omega)).mp q
          simp only [mf_ch, ← ez, this]
          simp
        · have old := i3 k s (Nat.le_refl _) (by omega)
          rw [old] at q
          have : z ≠ T.2 p s := fun w => q (by rw [w])
          have dt : decide (mf_nw g T p f s ≠ T.2 p s) = true := by rw [← ez]; exact decide_eq_true this
          show (1 : Int32) = mf_b (gr || (mf_ch g T p f s || decide (mf_nw g T p f s ≠ T.2 p s)))
          rw [dt]; simp [mf_b]
      cases hk : T.1 p with
      | false =>
        refine xb_0 ⟨vp_in_nI (by omega) (by omega), ?_⟩
        refine J (f s) ?_ (f90 s)
        unfold mf_nw; rw [hk]; simp
      | true =>
        refine xb_1 ⟨vp_in_nI (by omega) (by omega), ?_⟩
        have old := i3 hk s (Nat.le_refl _) (by omega)
        have o90 : fd' (10 * p + s) ≤ 90 := by rw [old]; exact T90 p s
        refine xa_join hG o90 (f90 s) (J _ ?_ (mt_j90 hG.2.2.2.2.2.1 o90 (f90 s)))
        unfold mf_nw; rw [if_pos hk, old]
  unfold wpX_giveFrame
  dsimp only
  refine xb_n (by omega) (pk_lt p m (fun _ => ⟨vp_in_nI (by omega) (by omega), nm_r (e' := nI (4 + D p)) ?_ ⟨4 + D p + 1, L (4 + D p) 0 (by omega) fd (mf_b gr) ⟨fun q hq _ kq => A.2 q hq kq, fun t ht => by omega, fun k t _ ht => A.2 p hp k t ht, fun _ => ?_, ⟨gr, rfl⟩⟩⟩⟩) (fun c => by omega))
  · rw [ar_at _ (by omega)]
    show nI 4 + nI (D p) = _
    rw [nI_add]
  · simp [mf_ch]
end
