/-! ===== the class: sorting the places ===== -/
section
variable {f_codeCount f_coverCount f_placeCount f_tooMany f_layAnswer f_wrongKind f_wrongKey f_grown f_frameDepth f_frameThere f_lastReason f_valueDepth f_objectCount f_hasRun f_begun f_nowAt f_endClass : Int32} {a_parent a_entry a_code a_operand a_coverFrom a_coverTo a_coverTarget a_coverClass a_placeKey a_placeDepth a_cameWith a_ledWith a_faults a_found a_hasFound a_kept a_hasMap a_frame a_kind a_value a_objectClass a_objectReady : Nat → Int32}
theorem xs_sort {post : SX → Prop} {m : Nat} {kr0 D0 : Nat → Nat} (hm : m ≤ 40) (h0 : 0 < m) (inj0 : ms_inj m kr0) (hb0 : ∀ k, k < m → kr0 k < 4194304) (H : ∀ kr D, ml_inc m kr → ms_P m kr0 D0 kr D → post (f_codeCount, f_coverCount, (nI m), f_tooMany, f_layAnswer, f_wrongKind, f_wrongKey, f_grown, f_frameDepth, f_frameThere, f_lastReason, f_valueDepth, f_objectCount, f_hasRun, f_begun, f_nowAt, f_endClass, a_parent, a_entry, a_code, a_operand, a_coverFrom, a_coverTo, a_coverTarget, a_coverClass, (ar kr), (ar D), a_cameWith, a_ledWith, a_faults, a_found, a_hasFound, a_kept, a_hasMap, a_frame, a_kind, a_value, a_objectClass, a_objectReady)) : wpX_sortPlaces post (f_codeCount, f_coverCount, (nI m), f_tooMany, f_layAnswer, f_wrongKind, f_wrongKey, f_grown, f_frameDepth, f_frameThere, f_lastReason, f_valueDepth, f_objectCount, f_hasRun, f_begun, f_nowAt, f_endClass, a_parent, a_entry, a_code, a_operand, a_coverFrom, a_coverTo, a_coverTarget, a_coverClass, (ar kr0), (ar D0), a_cameWith, a_ledWith, a_faults, a_found, a_hasFound, a_kept, a_hasMap, a_frame, a_kind, a_value, a_objectClass, a_objectReady) := by
  have bd : ∀ kr D, ms_P m kr0 D0 kr D → ∀ k, k < m → kr k < 4194304 := by
    intro kr D p k hk
    obtain ⟨j, hj, e, _⟩ := p.1 k hk
    rw [e]; exact hb0 j hj
  have L : ∀ d e, e + d = m → 1 ≤ e → ∀ kr D, ml_inc e kr → ms_inj m kr → ms_P m kr0 D0 kr D → wX_sortPlaces_2 post f_codeCount f_coverCount (nI m) f_tooMany f_layAnswer f_wrongKind f_wrongKey f_grown f_frameDepth f_frameThere f_lastReason f_valueDepth f_objectCount f_hasRun f_begun f_nowAt f_endClass (d + 1) (nI e) a_parent a_entry a_code a_operand a_coverFrom a_coverTo a_coverTarget a_coverClass (ar kr) (ar D) a_cameWith a_ledWith a_faults a_found a_hasFound a_kept a_hasMap a_frame a_kind a_value a_objectClass a_objectReady := by
    intro d
    induction d with
    | zero =>
      intro e he h1 kr D inc inj p
      have em : e = m := by omega
      subst em
      refine pk_le 40 e (fun _ => H kr D inc p) (fun c => pk_le e e (fun _ => H kr D inc p) (fun c => by omega))
    | succ d ih =>
      intro e he h1 kr D inc inj p
      refine pk_le 40 e (fun c => by omega) (fun _ => pk_le m e (fun c => by omega) (fun _ => ⟨vp_in_nI (by omega) (by omega), nm_r (ar_at _ (by omega)) ⟨vp_in_nI (by omega) (by omega), nm_r (ar_at _ (by omega)) ⟨e + 1, ?_⟩⟩⟩))
      have hkey : kr e < 4194304 := bd kr D p e (by omega)
      have I : ∀ k, k ≤ e → ∀ a b, ms_H e k (mf_up a k (kr e)) → ms_inj m (mf_up a k (kr e)) → ms_P m kr0 D0 (mf_up a k (kr e)) (mf_up b k (D e)) → wX_sortPlaces_33 post (wX_sortPlaces_2 post f_codeCount f_coverCount (nI m) f_tooMany f_layAnswer f_wrongKind f_wrongKey f_grown f_frameDepth f_frameThere f_lastReason f_valueDepth f_objectCount f_hasRun f_begun f_nowAt f_endClass (d + 1)) (nI e) (nI (kr e)) (nI (D e)) f_codeCount f_coverCount (nI m) f_tooMany f_layAnswer f_wrongKind f_wrongKey f_grown f_frameDepth f_frameThere f_lastReason f_valueDepth f_objectCount f_hasRun f_begun f_nowAt f_endClass (k + 1) (nI k) a_parent a_entry a_code a_operand a_coverFrom a_coverTo a_coverTarget a_coverClass (ar a) (ar b) a_cameWith a_ledWith a_faults a_found a_hasFound a_kept a_hasMap a_frame a_kind a_value a_objectClass a_objectReady := by
        intro k
        have done : ∀ k, k ≤ e → ∀ a b, ms_H e k (mf_up a k (kr e)) → ms_inj m (mf_up a k (kr e)) → ms_P m kr0 D0 (mf_up a k (kr e)) (mf_up b k (D e)) → (k = 0 ∨ mf_up a k (kr e) (k - 1) < mf_up a k (kr e) k) → wX_sortPlaces_89 post (wX_sortPlaces_2 post f_codeCount f_coverCount (nI m) f_tooMany f_layAnswer f_wrongKind f_wrongKey f_grown f_frameDepth f_frameThere f_lastReason f_valueDepth f_objectCount f_hasRun f_begun f_nowAt f_endClass (d + 1)) (nI e) (nI (kr e)) (nI (D e)) (nI k) f_codeCount f_coverCount (nI m) f_tooMany f_layAnswer f_wrongKind f_wrongKey f_grown f_frameDepth f_frameThere f_lastReason f_valueDepth f_objectCount f_hasRun f_begun f_nowAt f_endClass a_parent a_entry a_code a_operand a_coverFrom a_coverTo a_coverTarget a_coverClass (ar a) (ar b) a_cameWith a_ledWith a_faults a_found a_hasFound a_kept a_hasMap a_frame a_kind a_value a_objectClass a_objectReady := by
          intro k hk a b hH hi hp hl
          refine ⟨vp_in_nI (by omega) (by omega), nm_r (ar_ui _ _ (by omega)) ⟨vp_in_nI (by omega) (by omega), nm_r (ar_ui _ _ (by omega)) (nm_r (nI_1 e) ?_)⟩⟩
          exact ih (e + 1) (by omega) (by omega) _ _ (ms_H_end hk hH hl) hi hp
        induction k with
        | zero =>
          intro hk a b hH hi hp
          exact pk_le 0 0 (fun _ => done 0 hk a b hH hi hp (Or.inl rfl)) (fun c => by omega)
        | succ k ihk =>
          intro hk a b hH hi hp
          have ba := bd _ _ hp
          refine pk_le (k + 1) 0 (fun c => by omega) (fun _ => ?_)
          rw [nI_pred]
          refine ⟨vp_in_nI (by omega) (by omega), ?_⟩
          rw [ar_at _ (by omega), ar_at _ (by omega)]
          have ek : mf_up a (k + 1) (kr e) k = a k := up_n (by omega)
          have ek1 : mf_up a (k + 1) (kr e) (k + 1) = kr e := up_s
          have bak := ba k (by omega)
          rw [ek] at bak
          refine pk_le (a k) (kr e) (fun c => ?_) (fun c => ?_)
          · refine done (k + 1) hk a b hH hi hp (Or.inr ?_)
            show mf_up a (k + 1) (kr e) k < _
            rw [ek, ek1]
            have : a k ≠ kr e := by
              intro q
              have := hi k (k + 1) (by omega) (by omega) (by rw [ek, ek1, q])
              omega
            omega
          · refine ⟨vp_in_nI (by omega) (by omega), vp_in_nI (by omega) (by omega), nm_r (ar_ui _ _ (by omega)) ⟨vp_in_nI (by omega) (by omega), vp_in_nI (by omega) (by omega), nm_r (ar_ui _ _ (by omega)) (nm_r (pk_m1 k) ?_)⟩⟩
            refine ihk (by omega) _ _ ?_ ?_ ?_
            · refine ms_H_step (by omega) hH (fun t _ => ms_ins t) ?_
              rw [ek, ek1]; exact c
            · exact ms_swi (i := k) (j := k + 1) (by omega) (by omega) (fun t _ => ms_ins t) hi
            · exact ms_Pt hp (ms_sw (i := k) (j := k + 1) (by omega) (by omega) (fun t _ => ms_ins t) (fun t _ => ms_ins t))
      have e0 : mf_up kr e (kr e) = kr := by
        funext t; unfold mf_up; split
        · rename_i q; rw [q]
        · rfl
      have e1 : mf_up D e (D e) = D := by
        funext t; unfold mf_up; split
        · rename_i q; rw [q]
        · rfl
      refine I e (Nat.le_refl _) kr D ?_ ?_ ?_
      · rw [e0]; exact ms_H_0 inc
      · rw [e0]; exact inj
      · rw [e0, e1]; exact p
  exact ⟨m, by
    have := L (m - 1) 1 (by omega) (by omega) kr0 D0 (fun i j hij hj => by omega) inj0 (ms_Pr m kr0 D0)
    have e : m - 1 + 1 = m := by omega
    rw [e] at this
    exact this⟩
end
