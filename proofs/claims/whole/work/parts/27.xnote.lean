/-! ===== the class: the first wrong place; methods that lead outside ===== -/
section
variable {f_codeCount f_coverCount f_placeCount f_tooMany f_layAnswer f_wrongKind f_wrongKey f_grown f_frameDepth f_frameThere f_lastReason f_valueDepth f_objectCount f_hasRun f_begun f_nowAt f_endClass : Int32} {a_parent a_entry a_code a_operand a_coverFrom a_coverTo a_coverTarget a_coverClass a_placeKey a_placeDepth a_cameWith a_ledWith a_faults a_found a_hasFound a_kept a_hasMap a_frame a_kind a_value a_objectClass a_objectReady : Nat → Int32}
variable {g : md_C}
def mw_lw (w : Nat) : Nat := if w.testBit 1 = true then 1 else if w.testBit 2 = true then 2 else if w.testBit 3 = true then 3 else if w.testBit 4 = true then 4 else if w.testBit 5 = true then 5 else 6
theorem mw_lwf : ∀ a b c d e : Bool, mw_lw (mb_fm a b c d e) = mw_low a b c d e ∧ mw_lw (mb_fm a b c d e ||| 64) = mw_low a b c d e ∧ mb_fm a b c d e < 64 := by decide +kernel
theorem xa_low {post : Int32 → Prop} {w : Nat} (hw : w < 128) (h : post (nI (mw_lw w))) : wpX_lowestBit post (nI w) := by
  have S : ∀ n d, 1 ≤ d → d ≤ 5 → (w.testBit d = true → post (nI d)) → (¬ w.testBit d = true → wX_lowestBit_2 post (nI w) n (nI (d + 1))) → wX_lowestBit_2 post (nI w) (n + 1) (nI d) := by
    intro n d h1 h5 ht hf
    refine pk_le 6 d (fun c => by omega) (fun _ => ?_)
    have I := mb_bit w hw d (by omega)
    rw [mb_sh d (by omega)]
    refine br_c (fun c => nm_r (nI_1 d) (hf (I.mp c))) (fun c => ht (Classical.byContradiction fun n => c (I.mpr n)))
  unfold mw_lw at h
  refine ⟨6, S 5 1 (by omega) (by omega) (fun t => ?_) (fun f1 => S 4 2 (by omega) (by omega) (fun t => ?_) (fun f2 => S 3 3 (by omega) (by omega) (fun t => ?_) (fun f3 => S 2 4 (by omega) (by omega) (fun t => ?_) (fun f4 => S 1 5 (by omega) (by omega) (fun t => ?_) (fun f5 => ?_)))))⟩
  · rw [if_pos t] at h; exact h
  · rw [if_neg f1, if_pos t] at h; exact h
  · rw [if_neg f1, if_neg f2, if_pos t] at h; exact h
  · rw [if_neg f1, if_neg f2, if_neg f3, if_pos t] at h; exact h
  · rw [if_neg f1, if_neg f2, if_neg f3, if_neg f4, if_pos t] at h; exact h
  · rw [if_neg f1, if_neg f2, if_neg f3, if_neg f4, if_neg f5] at h
    exact pk_le 6 6 (fun _ => h) (fun c => by omega)
/-- what has been noted among the first k places -/
def mx_nt (g : md_C) (s : mx_S) (k : Nat) (wk wy : Int32) : Prop := (wk = 0 ∧ wy = -1 ∧ ∀ j, j < k → ∀ n, ¬ ml_B g (xs_K s j) n) ∨ (∃ j n, j < k ∧ wk = nI n ∧ wy = nI (md_kx (xs_K s j)) ∧ ml_B g (xs_K s j) n ∧ ∀ i n', i < k → ml_B g (xs_K s i) n' → xs_K s j ≤ xs_K s i)
theorem xe_note {post : SX → Prop} {s : mx_S} (hG : md_G g) (hM : md_M g) (J : mx_J g (fun _ _ => False) s) (cl : xs_t s = 1 ∨ mx_cl s) (h7 : xs_t s = 1 → ml_Many g → post ((nI (mc_cc g)), (nI (mc_hc g)), (nI (xs_m s)), (nI (xs_t s)), f_layAnswer, 7, (-1), f_grown, f_frameDepth, f_frameThere, f_lastReason, f_valueDepth, f_objectCount, f_hasRun, f_begun, f_nowAt, f_endClass, (ar (mc_p g)), (ar (mc_e g)), (ar (mc_o g)), (mc_r g), (ar (mc_f g)), (ar (mc_t g)), (ar (mc_g g)), (ar (mc_k g)), (ar (xs_kr s)), (ar (xs_D s)), (ar (xs_w s)), (ar (xs_l s)), (ar (xs_f s)), a_found, a_hasFound, a_kept, a_hasMap, a_frame, a_kind, a_value, a_objectClass, a_objectReady)) (h0 : xs_t s = 0 → mx_cl s → (∀ p h, md_R g p h ↔ me_at (xs_m s) (xs_K s) (xs_w s) p h) → (∀ p n, ¬ ml_B g p n) → post ((nI (mc_cc g)), (nI (mc_hc g)), (nI (xs_m s)), (nI (xs_t s)), f_layAnswer, 0, (-1), f_grown, f_frameDepth, f_frameThere, f_lastReason, f_valueDepth, f_objectCount, f_hasRun, f_begun, f_nowAt, f_endClass, (ar (mc_p g)), (ar (mc_e g)), (ar (mc_o g)), (mc_r g), (ar (mc_f g)), (ar (mc_t g)), (ar (mc_g g)), (ar (mc_k g)), (ar (xs_kr s)), (ar (xs_D s)), (ar (xs_w s)), (ar (xs_l s)), (ar (xs_f s)), a_found, a_hasFound, a_kept, a_hasMap, a_frame, a_kind, a_value, a_objectClass, a_objectReady)) (h1 : xs_t s = 0 → (∀ p h, md_R g p h → ∃ k, k < xs_m s ∧ xs_K s k = p) → ∀ p n, ml_F g p n → md_V g p → post ((nI (mc_cc g)), (nI (mc_hc g)), (nI (xs_m s)), (nI (xs_t s)), f_layAnswer, (nI n), (nI (md_kx p)), f_grown, f_frameDepth, f_frameThere, f_lastReason, f_valueDepth, f_objectCount, f_hasRun, f_begun, f_nowAt, f_endClass, (ar (mc_p g)), (ar (mc_e g)), (ar (mc_o g)), (mc_r g), (ar (mc_f g)), (ar (mc_t g)), (ar (mc_g g)), (ar (mc_k g)), (ar (xs_kr s)), (ar (xs_D s)), (ar (xs_w s)), (ar (xs_l s)), (ar (xs_f s)), a_found, a_hasFound, a_kept, a_hasMap, a_frame, a_kind, a_value, a_objectClass, a_objectReady)) : wpX_noteFirstWrong post ((nI (mc_cc g)), (nI (mc_hc g)), (nI (xs_m s)), (nI (xs_t s)), f_layAnswer, 0, (-1), f_grown, f_frameDepth, f_frameThere, f_lastReason, f_valueDepth, f_objectCount, f_hasRun, f_begun, f_nowAt, f_endClass, (ar (mc_p g)), (ar (mc_e g)), (ar (mc_o g)), (mc_r g), (ar (mc_f g)), (ar (mc_t g)), (ar (mc_g g)), (ar (mc_k g)), (ar (xs_kr s)), (ar (xs_D s)), (ar (xs_w s)), (ar (xs_l s)), (ar (xs_f s)), a_found, a_hasFound, a_kept, a_hasMap, a_frame, a_kind, a_value, a_objectClass, a_objectReady) := by
  have hm := J.1.1
  unfold wpX_noteFirstWrong
  dsimp only
  rcases J.2.2.2 with t0 | ⟨t1, m40, p, h, r, hno⟩
  · have cl : mx_cl s := by
      rcases cl with c | c
      · omega
      · exact c
    have fin : ∀ p h, md_R g p h ↔ me_at (xs_m s) (xs_K s) (xs_w s) p h := me_fin J.1 (by omega) cl
    have reach : ∀ p h, md_R g p h → ∃ k, k < xs_m s ∧ xs_K s k = p := by
      intro p h r
      obtain ⟨k, a, b, _⟩ := (fin p h).mp r
      exact ⟨k, a, b⟩
    have BK : ∀ p n, ml_B g p n → ∃ k, k < xs_m s ∧ xs_K s k = p := by
      rintro p n (⟨h, r, _⟩ | ⟨_, _, h, _, _, r, _⟩)
      · exact reach p h r
      · exact reach p h r
    refine pk_eq (xs_t s) 0 (fun _ => ?_) (fun c => by omega)
    have fi : ∀ wk wy, mx_nt g s (xs_m s) wk wy → post ((nI (mc_cc g)), (nI (mc_hc g)), (nI (xs_m s)), (nI (xs_t s)), f_layAnswer, wk, wy, f_grown, f_frameDepth, f_frameThere, f_lastReason, f_valueDepth, f_objectCount, f_hasRun, f_begun, f_nowAt, f_endClass, (ar (mc_p g)), (ar (mc_e g)), (ar (mc_o g)), (mc_r g), (ar (mc_f g)), (ar (mc_t g)), (ar (mc_g g)), (ar (mc_k g)), (ar (xs_kr s)), (ar (xs_D s)), (ar (xs_w s)), (ar (xs_l s)), (ar (xs_f s)), a_found, a_hasFound, a_kept, a_hasMap, a_frame, a_kind, a_value, a_objectClass, a_objectReady) := by
      intro wk wy nt
      rcases nt with ⟨rfl, rfl, no⟩ | ⟨j, n, hj, rfl, rfl, B, least⟩
      · refine h0 t0 cl fin (fun p n b => ?_)
        obtain ⟨k, hk, rfl⟩ := BK p n b
        exact no k hk n b
      · refine h1 t0 reach _ n ⟨B, fun q n' hq b => ?_⟩ (xe_KV hG hM J hj)
        obtain ⟨k, hk, rfl⟩ := BK q n' b
        have := least k n' hk b
        omega
    have L : ∀ d k, k + d = xs_m s → ∀ wk wy, mx_nt g s k wk wy → wX_noteFirstWrong_16 post (nI (mc_cc g)) (nI (mc_hc g)) (nI (xs_m s)) (nI (xs_t s)) f_layAnswer f_grown f_frameDepth f_frameThere f_lastReason f_valueDepth f_objectCount f_hasRun f_begun f_nowAt f_endClass (ar (mc_p g)) (ar (mc_e g)) (ar (mc_o g)) (mc_r g) (ar (mc_f g)) (ar (mc_t g)) (ar (mc_g g)) (ar (mc_k g)) (ar (xs_kr s)) (ar (xs_D s)) (ar (xs_w s)) (ar (xs_l s)) (ar (xs_f s)) a_found a_hasFound a_kept a_hasMap a_frame a_kind a_value a_objectClass a_objectReady (d + 1) (nI k) wk wy := by
      intro d
      induction d with
      | zero =>
        intro k hk wk wy nt
        have ek : k = xs_m s := by omega
        subst ek
        exact pk_le 40 (xs_m s) (fun _ => fi wk wy nt) (fun _ => pk_le (xs_m s) (xs_m s) (fun _ => fi wk wy nt) (fun c => by omega))
      | succ d ih =>
        intro k hk wk wy nt
        have hkm : k < xs_m s := by omega
        have hw := J.1.2.1 k hkm
        have hV := xe_KV hG hM J hkm
        have hkx := md_kxlt _ (md_Vlt hG.1 hV)
        obtain ⟨a, b, c, e, f, ef, f1, f2, f3, f4, f5⟩ := J.2.2.1 k hkm
        have bitR : ∀ h, (xs_l s k).testBit h = true ↔ md_R g (xs_K s k) h := by
          intro h
          constructor
          · intro q; exact J.1.2.2.2.1 k h hkm (J.1.2.2.2.2.1 k h hkm q)
          · intro q
            obtain ⟨j, hj, ej, hb⟩ := (fin _ h).mp q
            have := J.1.2.2.1 j k hj hkm ej
            subst this
            exact cl j h hj hb
        have wR : ∀ h, (xs_w s k).testBit h = true ↔ md_R g (xs_K s k) h := by
          intro h
          exact ⟨fun q => J.1.2.2.2.1 k h hkm q, fun q => J.1.2.2.2.2.1 k h hkm ((bitR h).mpr q)⟩
        simp only [bitR] at f1 f2 f3 f4 f5
        have r0 : md_R g (xs_K s k) (xs_D s k) := (wR _).mp (J.1.2.2.2.2.2.2.2 k hkm)
        have sev : (nI (xs_w s k) &&& (nI (xs_w s k) - 1) = 0) ↔ ¬ ∃ h h', h ≠ h' ∧ md_R g (xs_K s k) h ∧ md_R g (xs_K s k) h' := by
          rw [mb_one _ hw.1]
          constructor
          · rintro q ⟨h, h', ne, x, y⟩
            have x' := (wR h).mpr x
            have y' := (wR h').mpr y
            exact ne (q h (mb_ext hw.1 x') h' (mb_ext hw.1 y') x' y')
          · intro q x hx y hy hbx hby
            exact Classical.byContradiction fun ne => q ⟨x, y, ne, (wR x).mp hbx, (wR y).mp hby⟩
        obtain ⟨l1, l2, l3⟩ := mw_lwf a b c e f
        have F0 := mb_fm0 a b c e f
        -- at place k with the bits x: none wrong, or wrong with the lowest
        have step : ∀ x, x < 128 → mw_lw x = mw_low a b c e f → (nI x = 0 → ∀ n, ¬ ml_B g (xs_K s k) n) → (¬ nI x = 0 → ml_B g (xs_K s k) (mw_low a b c e f)) → wX_noteFirstWrong_60 post (wX_noteFirstWrong_16 post (nI (mc_cc g)) (nI (mc_hc g)) (nI (xs_m s)) (nI (xs_t s)) f_layAnswer f_grown f_frameDepth f_frameThere f_lastReason f_valueDepth f_objectCount f_hasRun f_begun f_nowAt f_endClass (ar (mc_p g)) (ar (mc_e g)) (ar (mc_o g)) (mc_r g) (ar (mc_f g)) (ar (mc_t g)) (ar (mc_g g)) (ar (mc_k g)) (ar (xs_kr s)) (ar (xs_D s)) (ar (xs_w s)) (ar (xs_l s)) (ar (xs_f s)) a_found a_hasFound a_kept a_hasMap a_frame a_kind a_value a_objectClass a_objectReady (d + 1)) (nI k) (nI x) (nI (mc_cc g)) (nI (mc_hc g)) (nI (xs_m s)) (nI (xs_t s)) f_layAnswer wk wy f_grown f_frameDepth f_frameThere f_lastReason f_valueDepth f_objectCount f_hasRun f_begun f_nowAt f_endClass (ar (mc_p g)) (ar (mc_e g)) (ar (mc_o g)) (mc_r g) (ar (mc_f g)) (ar (mc_t g)) (ar (mc_g g)) (ar (mc_k g)) (ar (xs_kr s)) (ar (xs_D s)) (ar (xs_w s)) (ar (xs_l s)) (ar (xs_f s)) a_found a_hasFound a_kept a_hasMap a_frame a_kind a_value a_objectClass a_objectReady := by
          intro x hx128 elw hz hnz
          have take : ¬ nI x = 0 → (∀ i n', i < k → ml_B g (xs_K s i) n' → xs_K s k ≤ xs_K s i) → wX_noteFirstWrong_84 post (wX_noteFirstWrong_16 post (nI (mc_cc g)) (nI (mc_hc g)) (nI (xs_m s)) (nI (xs_t s)) f_layAnswer f_grown f_frameDepth f_frameThere f_lastReason f_valueDepth f_objectCount f_hasRun f_begun f_nowAt f_endClass (ar (mc_p g)) (ar (mc_e g)) (ar (mc_o g)) (mc_r g) (ar (mc_f g)) (ar (mc_t g)) (ar (mc_g g)) (ar (mc_k g)) (ar (xs_kr s)) (ar (xs_D s)) (ar (xs_w s)) (ar (xs_l s)) (ar (xs_f s)) a_found a_hasFound a_kept a_hasMap a_frame a_kind a_value a_objectClass a_objectReady (d + 1)) (nI k) (nI x) (nI (mc_cc g)) (nI (mc_hc g)) (nI (xs_m s)) (nI (xs_t s)) f_layAnswer wk wy f_grown f_frameDepth f_frameThere f_lastReason f_valueDepth f_objectCount f_hasRun f_begun f_nowAt f_endClass (ar (mc_p g)) (ar (mc_e g)) (ar (mc_o g)) (mc_r g) (ar (mc_f g)) (ar (mc_t g)) (ar (mc_g g)) (ar (mc_k g)) (ar (xs_kr s)) (ar (xs_D s)) (ar (xs_w s)) (ar (xs_l s)) (ar (xs_f s)) a_found a_hasFound a_kept a_hasMap a_frame a_kind a_value a_objectClass a_objectReady := by
            intro nz lea
            refine ⟨vp_in_nI (by omega) (by omega), nm_r (e' := nI (md_kx (xs_K s k))) (by rw [ar_at _ (by omega), J.2.1 k hkm]) (xa_low hx128 (nm_r (nI_1 k) (ih (k + 1) (by omega) _ _ (Or.inr ⟨k, mw_lw x, by omega, rfl, rfl, by rw [elw]; exact hnz nz, fun i n' hi hB => ?_⟩))))⟩
            by_cases q : i = k
            · subst q; exact Nat.le_refl _
            · exact lea i n' (by omega) hB
          unfold wX_noteFirstWrong_60
          refine br_c (fun z => nm_r (nI_1 k) (ih (k + 1) (by omega) wk wy ?_)) (fun nz => ?_)
          · rcases nt with ⟨q1, q2, q3⟩ | ⟨j, n, hj, q1, q2, q3, q4⟩
            · refine Or.inl ⟨q1, q2, fun i hi => ?_⟩
              by_cases q : i = k
              · subst q; exact hz z
              · exact q3 i (by omega)
            · refine Or.inr ⟨j, n, by omega, q1, q2, q3, fun i n' hi hB => ?_⟩
              by_cases q : i = k
              · subst q; exact absurd hB (hz z n')
              · exact q4 i n' (by omega) hB
          · rcases nt with ⟨rfl, rfl, q3⟩ | ⟨j, n, hj, rfl, rfl, q3, q4⟩
            · exact xb_0 (take nz (fun i n' hi hB => absurd hB (q3 i hi n')))
            · have n0 := ml_B0 q3
              have hjx := md_kxlt _ (md_Vlt hG.1 (xe_KV hG hM J (k := j) (by omega)))
              refine pk_eq n 0 (fun q => by omega) (fun _ => ⟨vp_in_nI (by omega) (by omega), ?_⟩)
              rw [ar_at _ (by omega), J.2.1 k hkm]
              refine pk_le (md_kx (xs_K s j)) (md_kx (xs_K s k)) (fun q => nm_r (nI_1 k) (ih (k + 1) (by omega) _ _ (Or.inr ⟨j, n, by omega, rfl, rfl, q3, fun i n' hi hB => ?_⟩))) (fun q => take nz (fun i n' hi hB => ?_))
              · by_cases e : i = k
                · subst e
                  have := @md_kx_lt (xs_K s i) (xs_K s j)
                  omega
                · exact q4 i n' (by omega) hB
              · have := q4 i n' hi hB
                have := @md_kx_lt (xs_K s k) (xs_K s j)
                omega
        refine pk_le 40 k (fun c => by omega) (fun _ => pk_le (xs_m s) k (fun c => by omega) (fun _ => ⟨vp_in_nI (by omega) (by omega), nm_r (e' := nI (xs_f s k)) (ar_at _ (by omega)) ⟨vp_in_nI (by omega) (by omega), vp_in_nI (by omega) (by omega), ?_⟩⟩))
        rw [ar_at _ (by omega)]
        refine br_c (fun z => ?_) (fun z => ?_)
        · rw [sev] at z
          rw [ef]
          refine step _ (by omega) l1 (fun q => ?_) (fun q => ?_)
          · rw [F0] at q
            obtain ⟨rfl, rfl, rfl, rfl, rfl⟩ := q
            refine mw_none r0 f1 f2 f3 f4 f5 ?_
            rintro ((h | h | h | h | h) | h)
            · cases h
            · cases h
            · cases h
            · cases h
            · cases h
            · exact z h
          · refine mw_bits r0 f1 f2 f3 f4 f5 (Or.inl ?_)
            rw [F0] at q
            cases a <;> cases b <;> cases c <;> cases e <;> cases f <;> simp at q ⊢
        · have z' : ∃ h h', h ≠ h' ∧ md_R g (xs_K s k) h ∧ md_R g (xs_K s k) h' := Classical.byContradiction fun n => z (sev.mpr n)
          rw [ef]
          have e64 : nI (mb_fm a b c e f) ||| 64 = nI (mb_fm a b c e f ||| 64) := nx_or _ 64
          have h64 : mb_fm a b c e f ||| 64 < 128 := Nat.or_lt_two_pow (n := 7) (by omega) (by omega)
          refine nm_r e64 (step _ h64 l2 (fun q => ?_) (fun _ => mw_bits r0 f1 f2 f3 f4 f5 (Or.inr z')))
          have g64 : 64 ≤ mb_fm a b c e f ||| 64 := Nat.right_le_or
          exact absurd q (nI_ne0 (by omega) (by omega))
    exact ⟨xs_m s + 1, L (xs_m s) 0 (by omega) 0 (-1) (Or.inl ⟨rfl, rfl, fun j hj => by omega⟩)⟩
  · refine pk_eq (xs_t s) 0 (fun c => by omega) (fun _ => h7 t1 ⟨fun i => if i < 40 then xs_K s i else p, fun i hi => ?_, fun i j hi hj e => ?_⟩)
    · by_cases q : i < 40
      · dsimp only; rw [if_pos q]
        exact ⟨_, J.1.2.2.2.1 i _ (by omega) (J.1.2.2.2.2.2.2.2 i (by omega))⟩
      · dsimp only; rw [if_neg q]; exact ⟨h, r⟩
    · dsimp only at e
      by_cases q : i < 40 <;> by_cases q' : j < 40
      · rw [if_pos q, if_pos q'] at e
        exact J.1.2.2.1 i j (by omega) (by omega) e
      · rw [if_pos q, if_neg q'] at e
        exact absurd e (hno i (by omega))
      · rw [if_neg q, if_pos q'] at e
        exact absurd e.symm (hno j (by omega))
      · omega
theorem xa_lo {post : Int32 → Prop} (hG : md_G g) (h1 : ¬ md_M g → post 1) (h0 : md_M g → post 0) : wpX_leadsOutside post ((nI (mc_cc g)), (nI (mc_hc g)), f_placeCount, f_tooMany, f_layAnswer, f_wrongKind, f_wrongKey, f_grown, f_frameDepth, f_frameThere, f_lastReason, f_valueDepth, f_objectCount, f_hasRun, f_begun, f_nowAt, f_endClass, (ar (mc_p g)), (ar (mc_e g)), (ar (mc_o g)), (mc_r g), (ar (mc_f g)), (ar (mc_t g)), (ar (mc_g g)), (ar (mc_k g)), a_placeKey, a_placeDepth, a_cameWith, a_ledWith, a_faults, a_found, a_hasFound, a_kept, a_hasMap, a_frame, a_kind, a_value, a_objectClass, a_objectReady) := by
  have hcc := hG.1
  have hhc := hG.2.1
  unfold wpX_leadsOutside
  dsimp only
  have bad : ∀ i, i < mc_cc g → 12 ≤ mc_o g i → mc_o g i ≤ 15 → ¬ mc_a g i < mc_cc g → post 1 := fun i a b c d => h1 (fun M => d (M.2.1 i a b c))
  have C : (∀ i, i < mc_cc g → 12 ≤ mc_o g i → mc_o g i ≤ 15 → mc_a g i < mc_cc g) → (∀ x, x < mc_hc g → mc_g g x < mc_cc g) → wX_leadsOutside_105 post (nI (mc_cc g)) (nI (mc_hc g)) f_placeCount f_tooMany f_layAnswer f_wrongKind f_wrongKey f_grown f_frameDepth f_frameThere f_lastReason f_valueDepth f_objectCount f_hasRun f_begun f_nowAt f_endClass (ar (mc_p g)) (ar (mc_e g)) (ar (mc_o g)) (mc_r g) (ar (mc_f g)) (ar (mc_t g)) (ar (mc_g g)) (ar (mc_k g)) a_placeKey a_placeDepth a_cameWith a_ledWith a_faults a_found a_hasFound a_kept a_hasMap a_frame a_kind a_value a_objectClass a_objectReady := by
    intro a b
    unfold wX_leadsOutside_105
    exact pk_eq (mc_cc g) 0 (fun z => h1 (fun M => by have := M.1; omega)) (fun z => h0 ⟨by omega, a, b⟩)
  have B : (∀ i, i < mc_cc g → 12 ≤ mc_o g i → mc_o g i ≤ 15 → mc_a g i < mc_cc g) → ∀ d x, x + d = 4 → (∀ y, y < x → y < mc_hc g → mc_g g y < mc_cc g) → wX_leadsOutside_71 post (nI (mc_cc g)) (nI (mc_hc g)) f_placeCount f_tooMany f_layAnswer f_wrongKind f_wrongKey f_grown f_frameDepth f_frameThere f_lastReason f_valueDepth f_objectCount f_hasRun f_begun f_nowAt f_endClass (ar (mc_p g)) (ar (mc_e g)) (ar (mc_o g)) (mc_r g) (ar (mc_f g)) (ar (mc_t g)) (ar (mc_g g)) (ar (mc_k g)) a_placeKey a_placeDepth a_cameWith a_ledWith a_faults a_found a_hasFound a_kept a_hasMap a_frame a_kind a_value a_objectClass a_objectReady (d + 1) (nI x) := by
    intro a d
    induction d with
    | zero =>
      intro x hx hno
      exact pk_le 4 x (fun _ => C a (fun y hy => hno y (by omega) hy)) (fun c => by omega)
    | succ d ih =>
      intro x hx hno
      have hb := hG.2.2.2.2.1 x
      refine pk_le 4 x (fun c => by omega) (fun _ => pk_le (mc_hc g) x (fun c => C a (fun y hy => hno y (by omega) hy)) (fun c => ⟨vp_in_nI (by omega) (by omega), ?_⟩))
      rw [ar_at _ (by omega)]
      refine pk_lt (mc_g g x) (mc_cc g) (fun q => nm_r (nI_1 x) (ih (x + 1) (by omega) (fun y hy hc => ?_))) (fun q => h1 (fun M => by have := M.2.2 x c; omega))
      by_cases e : y = x
      · subst e; exact q
      · exact hno y (by omega) hc
  have A : ∀ d i, i + d = 24 → (∀ j, j < i → j < mc_cc g → 12 ≤ mc_o g j → mc_o g j ≤ 15 → mc_a g j < mc_cc g) → wX_leadsOutside_2 post (nI (mc_cc g)) (nI (mc_hc g)) f_placeCount f_tooMany f_layAnswer f_wrongKind f_wrongKey f_grown f_frameDepth f_frameThere f_lastReason f_valueDepth f_objectCount f_hasRun f_begun f_nowAt f_endClass (ar (mc_p g)) (ar (mc_e g)) (ar (mc_o g)) (mc_r g) (ar (mc_f g)) (ar (mc_t g)) (ar (mc_g g)) (ar (mc_k g)) a_placeKey a_placeDepth a_cameWith a_ledWith a_faults a_found a_hasFound a_kept a_hasMap a_frame a_kind a_value a_objectClass a_objectReady (d + 1) (nI i) := by
    intro d
    induction d with
    | zero =>
      intro i hi hno
      exact pk_le 24 i (fun _ => ⟨5, B (fun j hj => hno j (by omega) hj) 4 0 rfl (fun y hy => by omega)⟩) (fun c => by omega)
    | succ d ih =>
      intro i hi hno
      have h20 := hG.2.2.1 i
      refine pk_le 24 i (fun c => by omega) (fun _ => pk_le (mc_cc g) i (fun c => ⟨5, B (fun j hj => hno j (by omega) hj) 4 0 rfl (fun y hy => by omega)⟩) (fun c => ⟨vp_in_nI (by omega) (by omega), ?_⟩))
      rw [ar_at _ (by omega)]
      have nx : (12 ≤ mc_o g i → mc_o g i ≤ 15 → mc_a g i < mc_cc g) → wX_leadsOutside_2 post (nI (mc_cc g)) (nI (mc_hc g)) f_placeCount f_tooMany f_layAnswer f_wrongKind f_wrongKey f_grown f_frameDepth f_frameThere f_lastReason f_valueDepth f_objectCount f_hasRun f_begun f_nowAt f_endClass (ar (mc_p g)) (ar (mc_e g)) (ar (mc_o g)) (mc_r g) (ar (mc_f g)) (ar (mc_t g)) (ar (mc_g g)) (ar (mc_k g)) a_placeKey a_placeDepth a_cameWith a_ledWith a_faults a_found a_hasFound a_kept a_hasMap a_frame a_kind a_value a_objectClass a_objectReady (d + 1) (nI (i + 1)) := by
        intro q
        refine ih (i + 1) (by omega) (fun j hj hc => ?_)
        by_cases e : j = i
        · subst e; exact q
        · exact hno j (by omega) hc
      refine pk_lt (mc_o g i) 12 (fun q => ?_) (fun q => ⟨vp_in_nI (by omega) (by omega), pk_lt 15 (mc_o g i) (fun q2 => ?_) (fun q2 => ?_)⟩)
      · unfold wX_leadsOutside_42 wX_leadsOutside_43
        exact xb_0 (nm_r (nI_1 i) (nx (fun z => by omega)))
      · unfold wX_leadsOutside_42 wX_leadsOutside_43
        exact xb_0 (nm_r (nI_1 i) (nx (fun z => by omega)))
      · unfold wX_leadsOutside_43
        refine xb_1 ⟨vp_in_nI (by omega) (by omega), ?_⟩
        obtain ⟨ha, hr⟩ := mn_lim24 hG (i := i) ⟨q, q2⟩
        rw [nI_clamp (by omega), hr]
        exact pk_lt (mc_a g i) (mc_cc g) (fun z => nm_r (nI_1 i) (nx (fun _ _ => z))) (fun z => bad i c q q2 (by omega))
  exact ⟨25, A 24 0 rfl (fun j hj => by omega)⟩
end
