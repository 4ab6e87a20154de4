/-! ===== the class: lay ===== -/
section
variable {f_codeCount f_coverCount f_placeCount f_tooMany f_layAnswer f_wrongKind f_wrongKey f_grown f_frameDepth f_frameThere f_lastReason f_valueDepth f_objectCount f_hasRun f_begun f_nowAt f_endClass : Int32} {a_parent a_entry a_code a_operand a_coverFrom a_coverTo a_coverTarget a_coverClass a_placeKey a_placeDepth a_cameWith a_ledWith a_faults a_found a_hasFound a_kept a_hasMap a_frame a_kind a_value a_objectClass a_objectReady : Nat → Int32}
variable {g : md_C}
theorem xl_lay {post : Int32 → SX → Prop} {gr : Bool} {kr D w l f fd hf kp hm fr : Nat → Nat} (hG : md_G g)
  (Hbad : ¬ md_M g → post (-1) ((nI (mc_cc g)), (nI (mc_hc g)), 0, f_tooMany, (-1), 0, (-1), (mf_b gr), f_frameDepth, f_frameThere, 0, f_valueDepth, f_objectCount, f_hasRun, f_begun, f_nowAt, f_endClass, (ar (mc_p g)), (ar (mc_e g)), (ar (mc_o g)), (mc_r g), (ar (mc_f g)), (ar (mc_t g)), (ar (mc_g g)), (ar (mc_k g)), (ar kr), (ar D), (ar w), (ar l), (ar f), (ar fd), (ar hf), (ar kp), (ar hm), (ar fr), a_kind, a_value, a_objectClass, a_objectReady))
  (Hmany : md_M g → ml_Many g → ∀ (tm : Int32) (kr D w l f : Nat → Nat), post 1 ((nI (mc_cc g)), (nI (mc_hc g)), 0, tm, 1, 7, (-1), (mf_b gr), f_frameDepth, f_frameThere, 0, f_valueDepth, f_objectCount, f_hasRun, f_begun, f_nowAt, f_endClass, (ar (mc_p g)), (ar (mc_e g)), (ar (mc_o g)), (mc_r g), (ar (mc_f g)), (ar (mc_t g)), (ar (mc_g g)), (ar (mc_k g)), (ar kr), (ar D), (ar w), (ar l), (ar f), (ar fd), (ar hf), (ar kp), (ar hm), (ar fr), a_kind, a_value, a_objectClass, a_objectReady))
  (Hwrong : md_M g → ¬ ml_Many g → ∀ p n, ml_F g p n → md_V g p → ∀ (tm : Int32) (kr D w l f : Nat → Nat), post 1 ((nI (mc_cc g)), (nI (mc_hc g)), 0, tm, 1, (nI n), (nI (md_kx p)), (mf_b gr), f_frameDepth, f_frameThere, 0, f_valueDepth, f_objectCount, f_hasRun, f_begun, f_nowAt, f_endClass, (ar (mc_p g)), (ar (mc_e g)), (ar (mc_o g)), (mc_r g), (ar (mc_f g)), (ar (mc_t g)), (ar (mc_g g)), (ar (mc_k g)), (ar kr), (ar D), (ar w), (ar l), (ar f), (ar fd), (ar hf), (ar kp), (ar hm), (ar fr), a_kind, a_value, a_objectClass, a_objectReady))
  (Hok : md_M g → ¬ ml_Many g → (∀ p n, ¬ ml_B g p n) → ∀ (m : Nat) (P D kr : Nat → Nat), ml_Y g m P D → (∀ k, k < m → kr k = md_kx (P k)) → ∀ hm : Nat → Nat, mm_is m (fun k => ∃ j, j < m ∧ mg_hit g P j k) hm → ∀ (tm dp th : Int32) (gr' : Bool) (w l f fd hf kp fr : Nat → Nat), (mf_it g m P D 4000 (mf_T0 g) = none → (∀ i, i < 400 → kp i = 0) → post 2 ((nI (mc_cc g)), (nI (mc_hc g)), (nI m), tm, 2, 0, (-1), (mf_b gr'), dp, th, 0, f_valueDepth, f_objectCount, f_hasRun, f_begun, f_nowAt, f_endClass, (ar (mc_p g)), (ar (mc_e g)), (ar (mc_o g)), (mc_r g), (ar (mc_f g)), (ar (mc_t g)), (ar (mc_g g)), (ar (mc_k g)), (ar kr), (ar D), (ar w), (ar l), (ar f), (ar fd), (ar hf), (ar kp), (ar hm), (ar fr), a_kind, a_value, a_objectClass, a_objectReady)) ∧ (∀ T', mf_it g m P D 4000 (mf_T0 g) = some T' → mf_A m D T' hf fd → (∀ i, i < 400 → kp i = fd i) → post 0 ((nI (mc_cc g)), (nI (mc_hc g)), (nI m), tm, 0, 0, (-1), (mf_b gr'), dp, th, 0, f_valueDepth, f_objectCount, f_hasRun, f_begun, f_nowAt, f_endClass, (ar (mc_p g)), (ar (mc_e g)), (ar (mc_o g)), (mc_r g), (ar (mc_f g)), (ar (mc_t g)), (ar (mc_g g)), (ar (mc_k g)), (ar kr), (ar D), (ar w), (ar l), (ar f), (ar fd), (ar hf), (ar kp), (ar hm), (ar fr), a_kind, a_value, a_objectClass, a_objectReady))) :
  wpX_lay post ((nI (mc_cc g)), (nI (mc_hc g)), f_placeCount, f_tooMany, f_layAnswer, f_wrongKind, f_wrongKey, (mf_b gr), f_frameDepth, f_frameThere, f_lastReason, f_valueDepth, f_objectCount, f_hasRun, f_begun, f_nowAt, f_endClass, (ar (mc_p g)), (ar (mc_e g)), (ar (mc_o g)), (mc_r g), (ar (mc_f g)), (ar (mc_t g)), (ar (mc_g g)), (ar (mc_k g)), (ar kr), (ar D), (ar w), (ar l), (ar f), (ar fd), (ar hf), (ar kp), (ar hm), (ar fr), a_kind, a_value, a_objectClass, a_objectReady) := by
  unfold wpX_lay wpX_endLayout
  dsimp only
  refine xa_lo hG (fun nM => xb_1 (Hbad nM)) (fun hM => xb_0 ?_)
  refine xe_places hG hM (fun s J cl => ?_)
  refine xe_note hG hM J cl (fun t1 many => ?_) (fun t0 cl fin noB => ?_) (fun t0 reach p n F V => ?_)
  · have h7 : ¬ (7 : Int32) = 0 := by decide
    exact br_f h7 (Hmany hM many _ _ _ _ _ _)
  · refine br_t rfl ?_
    have hm40 := J.1.1
    have notmany : ¬ ml_Many g := ml_few hm40 (fun p h r => by
      obtain ⟨k, a, b, _⟩ := (fin p h).mp r
      exact ⟨k, a, b⟩)
    obtain ⟨W0, uni⟩ := ml_right noB
    have hKV : ∀ k, k < xs_m s → md_V g (xs_K s k) := fun k hk => xe_KV hG hM J hk
    have h0 : 0 < xs_m s := by
      obtain ⟨j, hj, _⟩ := J.1.2.2.2.2.2.2.1
      omega
    have inj : ms_inj (xs_m s) (xs_kr s) := by
      intro i j hi hj e
      rw [J.2.1 i hi, J.2.1 j hj, md_kx_eq] at e
      exact J.1.2.2.1 i j hi hj e
    refine xs_sort hm40 h0 inj (fun k hk => by rw [J.2.1 k hk]; exact md_kxlt _ (md_Vlt hG.1 (hKV k hk))) (fun kr1 D1 inc pm => ?_)
    have RD : ∀ j, j < xs_m s → md_R g (xs_K s j) (xs_D s j) := fun j hj => J.1.2.2.2.1 j _ hj (J.1.2.2.2.2.2.2.2 j hj)
    have PK : ∀ k j, j < xs_m s → kr1 k = xs_kr s j → md_yx (kr1 k) = xs_K s j := by
      intro k j hj e
      rw [e, J.2.1 j hj, md_yxk]
    have hkr : ∀ k, k < xs_m s → kr1 k = md_kx (md_yx (kr1 k)) := by
      intro k hk
      obtain ⟨j, hj, e, _⟩ := pm.1 k hk
      rw [PK k j hj e, e, J.2.1 j hj]
    have Y : ml_Y g (xs_m s) (fun i => md_yx (kr1 i)) D1 := by
      refine ⟨hm40, fun i j hij hj => ?_, fun p h => ?_, fun k hk => ?_⟩
      · have := inc i j hij hj
        rw [hkr i (by omega), hkr j hj, md_kx_lt] at this
        exact this
      · constructor
        · intro r
          obtain ⟨j, hj, e1, e2⟩ := (fin p h).mp r
          have eh : h = xs_D s j := uni p h _ r (by rw [← e1]; exact RD j hj)
          obtain ⟨i, hi, e3, e4⟩ := pm.2 j hj
          exact ⟨i, hi, (PK i j hj e3).trans e1, e4.trans eh.symm⟩
        · rintro ⟨k, hk, e1, e2⟩
          obtain ⟨j, hj, e3, e4⟩ := pm.1 k hk
          rw [← e1, ← e2]
          show md_R g (md_yx (kr1 k)) (D1 k)
          rw [PK k j hj e3, e4]
          exact RD j hj
      · obtain ⟨j, hj, e3, e4⟩ := pm.1 k hk
        show md_W g (md_yx (kr1 k)) (D1 k) = 0
        rw [PK k j hj e3, e4]
        exact W0 _ _ (RD j hj)
    refine xa_marks hG hM Y hkr (fun hm1 hmis => ?_)
    refine xa_find hG hM Y hkr (fun hn hf1 fd1 fr1 gr1 dp th => xb_0 ?_) (fun T' hT hf1 fd1 fr1 gr1 dp th A => xb_1 ?_)
    · unfold wX_lay_86
      refine xa_fill (fun kp1 _ hz => ?_)
      exact (Hok hM notmany noB _ _ D1 kr1 Y hkr hm1 hmis _ _ _ _ _ _ _ _ _ _ _).1 hn (hz (by decide))
    · unfold wX_lay_86
      refine xa_fill (fun kp1 ho _ => ?_)
      exact (Hok hM notmany noB _ _ D1 kr1 Y hkr hm1 hmis _ _ _ _ _ _ _ _ _ _ _).2 T' hT A (ho rfl)
  · have n0 := ml_B0 F.1
    have notmany : ¬ ml_Many g := ml_few J.1.1 reach
    exact br_f (nI_ne0 (by omega) (by omega)) (Hwrong hM notmany p n F V _ _ _ _ _ _)
end
