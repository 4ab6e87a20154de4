/-! ===== the class: maps, and the whole of lay ===== -/
section
variable {f_codeCount f_coverCount f_placeCount f_tooMany f_layAnswer f_wrongKind f_wrongKey f_grown f_frameDepth f_frameThere f_lastReason f_valueDepth f_objectCount f_hasRun f_begun f_nowAt f_endClass : Int32} {a_parent a_entry a_code a_operand a_coverFrom a_coverTo a_coverTarget a_coverClass a_placeKey a_placeDepth a_cameWith a_ledWith a_faults a_found a_hasFound a_kept a_hasMap a_frame a_kind a_value a_objectClass a_objectReady : Nat → Int32}
variable {g : md_C} {m : Nat} {P D kr : Nat → Nat}
def mm_is (m : Nat) (Q : Nat → Prop) (hm : Nat → Nat) : Prop := ∀ k, k < m → (hm k = 1 ∧ Q k) ∨ (hm k = 0 ∧ ¬ Q k)
theorem mm_iff {m : Nat} {Q Q' : Nat → Prop} {hm : Nat → Nat} (h : mm_is m Q hm) (e : ∀ k, k < m → (Q k ↔ Q' k)) : mm_is m Q' hm := by
  intro k hk
  rcases h k hk with ⟨a, b⟩ | ⟨a, b⟩
  · exact Or.inl ⟨a, (e k hk).mp b⟩
  · exact Or.inr ⟨a, fun z => b ((e k hk).mpr z)⟩
theorem mm_set {m : Nat} {Q : Nat → Prop} {hm P : Nat → Nat} (inc : ml_inc m P) {j q : Nat} (hj : j < m) (ej : P j = q) (h : mm_is m Q hm) : mm_is m (fun k => Q k ∨ P k = q) (mf_up hm j 1) := by
  intro k hk
  by_cases e : k = j
  · subst e; left; rw [up_s]; exact ⟨rfl, Or.inr ej⟩
  · rw [up_n e]
    rcases h k hk with ⟨a, b⟩ | ⟨a, b⟩
    · exact Or.inl ⟨a, Or.inl b⟩
    · refine Or.inr ⟨a, ?_⟩
      rintro (z | z)
      · exact b z
      · exact e (ml_inj inc _ _ hk hj (z.trans ej.symm))
theorem xa_mark {post : SX → Prop} {hm : Nat → Nat} {Q : Nat → Prop} {q j : Nat} (hG : md_G g) (hM : md_M g) (Y : ml_Y g m P D) (hkr : ∀ k, k < m → kr k = md_kx (P k)) (hj : j < m) (ej : P j = q) (h : mm_is m Q hm) (H : ∀ hm', mm_is m (fun k => Q k ∨ P k = q) hm' → post (f_codeCount, f_coverCount, (nI m), f_tooMany, f_layAnswer, f_wrongKind, f_wrongKey, f_grown, f_frameDepth, f_frameThere, f_lastReason, f_valueDepth, f_objectCount, f_hasRun, f_begun, f_nowAt, f_endClass, a_parent, a_entry, a_code, a_operand, a_coverFrom, a_coverTo, a_coverTarget, a_coverClass, (ar kr), a_placeDepth, a_cameWith, a_ledWith, a_faults, a_found, a_hasFound, a_kept, (ar hm'), a_frame, a_kind, a_value, a_objectClass, a_objectReady)) : wpX_markMap post (f_codeCount, f_coverCount, (nI m), f_tooMany, f_layAnswer, f_wrongKind, f_wrongKey, f_grown, f_frameDepth, f_frameThere, f_lastReason, f_valueDepth, f_objectCount, f_hasRun, f_begun, f_nowAt, f_endClass, a_parent, a_entry, a_code, a_operand, a_coverFrom, a_coverTo, a_coverTarget, a_coverClass, (ar kr), a_placeDepth, a_cameWith, a_ledWith, a_faults, a_found, a_hasFound, a_kept, (ar hm), a_frame, a_kind, a_value, a_objectClass, a_objectReady) (nI (md_kx q)) := by
  have hm40 := Y.1
  unfold wpX_markMap
  dsimp only
  refine xa_po2 hG hM Y hkr hj ej (xb_n (by omega) ⟨vp_in_nI (by omega) (by omega), nm_r (e' := ar (mf_up hm j 1)) (by rw [mi_n1]; exact ar_ui hm 1 (by omega)) (H _ (mm_set Y.2.1 hj ej h))⟩)
theorem xa_mark0 {post : SX → Prop} (hG : md_G g) (hM : md_M g) (Y : ml_Y g m P D) (hkr : ∀ k, k < m → kr k = md_kx (P k)) (H : post (f_codeCount, f_coverCount, (nI m), f_tooMany, f_layAnswer, f_wrongKind, f_wrongKey, f_grown, f_frameDepth, f_frameThere, f_lastReason, f_valueDepth, f_objectCount, f_hasRun, f_begun, f_nowAt, f_endClass, a_parent, a_entry, a_code, a_operand, a_coverFrom, a_coverTo, a_coverTarget, a_coverClass, (ar kr), a_placeDepth, a_cameWith, a_ledWith, a_faults, a_found, a_hasFound, a_kept, a_hasMap, a_frame, a_kind, a_value, a_objectClass, a_objectReady)) : wpX_markMap post (f_codeCount, f_coverCount, (nI m), f_tooMany, f_layAnswer, f_wrongKind, f_wrongKey, f_grown, f_frameDepth, f_frameThere, f_lastReason, f_valueDepth, f_objectCount, f_hasRun, f_begun, f_nowAt, f_endClass, a_parent, a_entry, a_code, a_operand, a_coverFrom, a_coverTo, a_coverTarget, a_coverClass, (ar kr), a_placeDepth, a_cameWith, a_ledWith, a_faults, a_found, a_hasFound, a_kept, a_hasMap, a_frame, a_kind, a_value, a_objectClass, a_objectReady) (-1) := by
  unfold wpX_markMap
  dsimp only
  exact xa_po3 hG hM Y hkr (xb_m H)
theorem xa_marks {post : SX → Prop} {hm : Nat → Nat} (hG : md_G g) (hM : md_M g) (Y : ml_Y g m P D) (hkr : ∀ k, k < m → kr k = md_kx (P k)) (H : ∀ hm', mm_is m (fun k => ∃ j, j < m ∧ mg_hit g P j k) hm' → post ((nI (mc_cc g)), (nI (mc_hc g)), (nI m), f_tooMany, f_layAnswer, f_wrongKind, f_wrongKey, f_grown, f_frameDepth, f_frameThere, f_lastReason, f_valueDepth, f_objectCount, f_hasRun, f_begun, f_nowAt, f_endClass, (ar (mc_p g)), (ar (mc_e g)), (ar (mc_o g)), (mc_r g), (ar (mc_f g)), (ar (mc_t g)), (ar (mc_g g)), (ar (mc_k g)), (ar kr), a_placeDepth, a_cameWith, a_ledWith, a_faults, a_found, a_hasFound, a_kept, (ar hm'), a_frame, a_kind, a_value, a_objectClass, a_objectReady)) : wpX_markMaps post ((nI (mc_cc g)), (nI (mc_hc g)), (nI m), f_tooMany, f_layAnswer, f_wrongKind, f_wrongKey, f_grown, f_frameDepth, f_frameThere, f_lastReason, f_valueDepth, f_objectCount, f_hasRun, f_begun, f_nowAt, f_endClass, (ar (mc_p g)), (ar (mc_e g)), (ar (mc_o g)), (mc_r g), (ar (mc_f g)), (ar (mc_t g)), (ar (mc_g g)), (ar (mc_k g)), (ar kr), a_placeDepth, a_cameWith, a_ledWith, a_faults, a_found, a_hasFound, a_kept, (ar hm), a_frame, a_kind, a_value, a_objectClass, a_objectReady) := by
  have hm40 := Y.1
  have hcc := hG.1
  have hhc := hG.2.1
  have B : ∀ e n, n + e = m → ∀ hm, mm_is m (fun k => ∃ j, j < n ∧ mg_hit g P j k) hm → wX_markMaps_23 post (e + 1) (nI n) (nI (mc_cc g)) (nI (mc_hc g)) (nI m) f_tooMany f_layAnswer f_wrongKind f_wrongKey f_grown f_frameDepth f_frameThere f_lastReason f_valueDepth f_objectCount f_hasRun f_begun f_nowAt f_endClass (ar (mc_p g)) (ar (mc_e g)) (ar (mc_o g)) (mc_r g) (ar (mc_f g)) (ar (mc_t g)) (ar (mc_g g)) (ar (mc_k g)) (ar kr) a_placeDepth a_cameWith a_ledWith a_faults a_found a_hasFound a_kept (ar hm) a_frame a_kind a_value a_objectClass a_objectReady := by
    intro e
    induction e with
    | zero =>
      intro n hn hm h
      have en : n = m := by omega
      subst en
      exact pk_le 40 n (fun _ => H hm h) (fun _ => pk_le n n (fun _ => H hm h) (fun c => by omega))
    | succ e ih =>
      intro n hn hm h
      have hnm : n < m := by omega
      have v := mg_V hG hM Y hnm
      have hpl := md_Vlt hcc v
      have hi := md_Vi hcc v
      have C : ∀ d x, x + d = 4 → x ≤ mc_hc g → ∀ hm, mm_is m (fun k => (∃ j, j < n ∧ mg_hit g P j k) ∨ md_L g (P n) = some (P k) ∨ ∃ y, y < x ∧ md_cv g y (P n) ∧ md_at (P n) (mc_g g y) = P k) hm → wX_markMaps_58 post (wX_markMaps_23 post (e + 1)) (nI n) (nI (md_kx (P n))) (d + 1) (nI x) (nI (mc_cc g)) (nI (mc_hc g)) (nI m) f_tooMany f_layAnswer f_wrongKind f_wrongKey f_grown f_frameDepth f_frameThere f_lastReason f_valueDepth f_objectCount f_hasRun f_begun f_nowAt f_endClass (ar (mc_p g)) (ar (mc_e g)) (ar (mc_o g)) (mc_r g) (ar (mc_f g)) (ar (mc_t g)) (ar (mc_g g)) (ar (mc_k g)) (ar kr) a_placeDepth a_cameWith a_ledWith a_faults a_found a_hasFound a_kept (ar hm) a_frame a_kind a_value a_objectClass a_objectReady := by
        have done : ∀ hm, mm_is m (fun k => (∃ j, j < n ∧ mg_hit g P j k) ∨ md_L g (P n) = some (P k) ∨ ∃ y, y < mc_hc g ∧ md_cv g y (P n) ∧ md_at (P n) (mc_g g y) = P k) hm → wX_markMaps_23 post (e + 1) (nI (n + 1)) (nI (mc_cc g)) (nI (mc_hc g)) (nI m) f_tooMany f_layAnswer f_wrongKind f_wrongKey f_grown f_frameDepth f_frameThere f_lastReason f_valueDepth f_objectCount f_hasRun f_begun f_nowAt f_endClass (ar (mc_p g)) (ar (mc_e g)) (ar (mc_o g)) (mc_r g) (ar (mc_f g)) (ar (mc_t g)) (ar (mc_g g)) (ar (mc_k g)) (ar kr) a_placeDepth a_cameWith a_ledWith a_faults a_found a_hasFound a_kept (ar hm) a_frame a_kind a_value a_objectClass a_objectReady := by
          intro hm h
          refine ih (n + 1) (by omega) hm (mm_iff h (fun k hk => ?_))
          constructor
          · rintro (⟨j, hj, z⟩ | z)
            · exact ⟨j, by omega, z⟩
            · exact ⟨n, by omega, z⟩
          · rintro ⟨j, hj, z⟩
            by_cases q : j = n
            · subst q; exact Or.inr z
            · exact Or.inl ⟨j, by omega, z⟩
        intro d
        induction d with
        | zero =>
          intro x hx hxc hm h
          have ex : x = mc_hc g := by omega
          subst ex
          exact pk_le 4 (mc_hc g) (fun _ => nm_r (nI_1 n) (done hm h)) (fun c => by omega)
        | succ d ihd =>
          intro x hx hxc hm h
          refine pk_le 4 x (fun c => by omega) (fun _ => pk_le (mc_hc g) x (fun c => ?_) (fun c => ?_))
          · have ex : x = mc_hc g := by omega
            subst ex
            exact nm_r (nI_1 n) (done hm h)
          · rw [xk_31 (md_kxlt _ hpl), xk_i]
            refine xa_cov hG (by omega) (by omega) (fun cv => xb_1 ?_) (fun cv => xb_0 ?_)
            · refine xa_cgt hG (by omega) hpl ?_
              obtain ⟨j, hj, ej, _⟩ := mg_h Y hnm c cv
              refine xa_mark hG hM Y hkr hj ej h (fun hm' h' => nm_r (nI_1 x) (ihd (x + 1) (by omega) (by omega) hm' (mm_iff h' (fun k hk => ?_))))
              constructor
              · rintro ((z | z | ⟨y, z1, z2⟩) | z)
                · exact Or.inl z
                · exact Or.inr (Or.inl z)
                · exact Or.inr (Or.inr ⟨y, by omega, z2⟩)
                · exact Or.inr (Or.inr ⟨x, by omega, cv, z.symm⟩)
              · rintro (z | z | ⟨y, z1, z2, z3⟩)
                · exact Or.inl (Or.inl z)
                · exact Or.inl (Or.inr (Or.inl z))
                · by_cases q : y = x
                  · subst q; exact Or.inr z3.symm
                  · exact Or.inl (Or.inr (Or.inr ⟨y, by omega, z2, z3⟩))
            · refine nm_r (nI_1 x) (ihd (x + 1) (by omega) (by omega) hm (mm_iff h (fun k hk => ?_)))
              constructor
              · rintro (z | z | ⟨y, z1, z2⟩)
                · exact Or.inl z
                · exact Or.inr (Or.inl z)
                · exact Or.inr (Or.inr ⟨y, by omega, z2⟩)
              · rintro (z | z | ⟨y, z1, z2, z3⟩)
                · exact Or.inl z
                · exact Or.inr (Or.inl z)
                · by_cases q : y = x
                  · subst q; exact absurd z2 cv
                  · exact Or.inr (Or.inr ⟨y, by omega, z2, z3⟩)
      refine pk_le 40 n (fun c => by omega) (fun _ => pk_le m n (fun c => by omega) (fun _ => ⟨vp_in_nI (by omega) (by omega), nm_r (e' := nI (md_kx (P n))) (by rw [ar_at _ (by omega), hkr n hnm]) ?_⟩))
      refine xa_jk2 hG hM Y hnm (fun q hq => ?_) (fun hq => ?_)
      · obtain ⟨j, hj, ej, _⟩ := mg_j Y hnm hq
        refine xa_mark hG hM Y hkr hj ej h (fun hm' h' => ⟨5, C 4 0 rfl (by omega) hm' (mm_iff h' (fun k hk => ?_))⟩)
        constructor
        · rintro (z | z)
          · exact Or.inl z
          · exact Or.inr (Or.inl (by rw [hq, z]))
        · rintro (z | z | ⟨y, z1, _⟩)
          · exact Or.inl z
          · rw [hq] at z; cases z; exact Or.inr rfl
          · omega
      · refine xa_mark0 hG hM Y hkr ⟨5, C 4 0 rfl (by omega) hm (mm_iff h (fun k hk => ?_))⟩
        constructor
        · intro z; exact Or.inl z
        · rintro (z | z | ⟨y, z1, _⟩)
          · exact z
          · rw [hq] at z; cases z
          · omega
  have A : ∀ e n, n + e = 40 → ∀ hm : Nat → Nat, (∀ t, t < n → hm t = 0) → wX_markMaps_2 post (nI (mc_cc g)) (nI (mc_hc g)) (nI m) f_tooMany f_layAnswer f_wrongKind f_wrongKey f_grown f_frameDepth f_frameThere f_lastReason f_valueDepth f_objectCount f_hasRun f_begun f_nowAt f_endClass (e + 1) (nI n) (ar (mc_p g)) (ar (mc_e g)) (ar (mc_o g)) (mc_r g) (ar (mc_f g)) (ar (mc_t g)) (ar (mc_g g)) (ar (mc_k g)) (ar kr) a_placeDepth a_cameWith a_ledWith a_faults a_found a_hasFound a_kept (ar hm) a_frame a_kind a_value a_objectClass a_objectReady := by
    intro e
    induction e with
    | zero =>
      intro n hn hm h
      refine pk_le 40 n (fun _ => ⟨m + 1, B m 0 (by omega) hm (fun k hk => Or.inr ⟨h k (by omega), ?_⟩)⟩) (fun c => by omega)
      rintro ⟨j, hj, _⟩; omega
    | succ e ih =>
      intro n hn hm h
      refine pk_le 40 n (fun c => by omega) (fun _ => ⟨vp_in_nI (by omega) (by omega), nm_r (e' := ar (mf_up hm n 0)) (by rw [mi_n0]; exact ar_ui hm 0 (by omega)) (nm_r (nI_1 n) (ih (n + 1) (by omega) _ (fun t ht => ?_)))⟩)
      by_cases q : t = n
      · subst q; exact up_s
      · rw [up_n q]; exact h t (by omega)
  unfold wpX_markMaps
  dsimp only
  exact ⟨41, A 40 0 rfl hm (fun t ht => by omega)⟩
theorem xa_fill {post : SX → Prop} {la : Int32} {fd kp : Nat → Nat} (H : ∀ kp' : Nat → Nat, (la = 0 → ∀ i, i < 400 → kp' i = fd i) → (¬ la = 0 → ∀ i, i < 400 → kp' i = 0) → post (f_codeCount, f_coverCount, f_placeCount, f_tooMany, la, f_wrongKind, f_wrongKey, f_grown, f_frameDepth, f_frameThere, f_lastReason, f_valueDepth, f_objectCount, f_hasRun, f_begun, f_nowAt, f_endClass, a_parent, a_entry, a_code, a_operand, a_coverFrom, a_coverTo, a_coverTarget, a_coverClass, a_placeKey, a_placeDepth, a_cameWith, a_ledWith, a_faults, (ar fd), a_hasFound, (ar kp'), a_hasMap, a_frame, a_kind, a_value, a_objectClass, a_objectReady)) : wpX_fillMaps post (f_codeCount, f_coverCount, f_placeCount, f_tooMany, la, f_wrongKind, f_wrongKey, f_grown, f_frameDepth, f_frameThere, f_lastReason, f_valueDepth, f_objectCount, f_hasRun, f_begun, f_nowAt, f_endClass, a_parent, a_entry, a_code, a_operand, a_coverFrom, a_coverTo, a_coverTarget, a_coverClass, a_placeKey, a_placeDepth, a_cameWith, a_ledWith, a_faults, (ar fd), a_hasFound, (ar kp), a_hasMap, a_frame, a_kind, a_value, a_objectClass, a_objectReady) := by
  have L : ∀ e i, i + e = 400 → ∀ kp : Nat → Nat, (la = 0 → ∀ t, t < i → kp t = fd t) → (¬ la = 0 → ∀ t, t < i → kp t = 0) → wX_fillMaps_2 post f_codeCount f_coverCount f_placeCount f_tooMany la f_wrongKind f_wrongKey f_grown f_frameDepth f_frameThere f_lastReason f_valueDepth f_objectCount f_hasRun f_begun f_nowAt f_endClass (e + 1) (nI i) a_parent a_entry a_code a_operand a_coverFrom a_coverTo a_coverTarget a_coverClass a_placeKey a_placeDepth a_cameWith a_ledWith a_faults (ar fd) a_hasFound (ar kp) a_hasMap a_frame a_kind a_value a_objectClass a_objectReady := by
    intro e
    induction e with
    | zero =>
      intro i hi kp h1 h2
      have ei : i = 400 := by omega
      subst ei
      exact pk_le 400 400 (fun _ => H kp h1 h2) (fun c => by omega)
    | succ e ih =>
      intro i hi kp h1 h2
      refine pk_le 400 i (fun c => by omega) (fun _ => br_c (fun z => ?_) (fun z => ?_))
      · rw [ar_at _ (by omega)]
        refine ⟨vp_in_nI (by omega) (by omega), vp_in_nI (by omega) (by omega), nm_r (ar_ui _ _ (by omega)) (nm_r (nI_1 i) (ih (i + 1) (by omega) _ (fun _ t ht => ?_) (fun n => absurd z n)))⟩
        by_cases q : t = i
        · subst q; exact up_s
        · rw [up_n q]; exact h1 z t (by omega)
      · refine ⟨vp_in_nI (by omega) (by omega), nm_r (ar_ui kp 0 (by omega)) (nm_r (nI_1 i) (ih (i + 1) (by omega) _ (fun n => absurd n z) (fun _ t ht => ?_)))⟩
        by_cases q : t = i
        · subst q; exact up_s
        · rw [up_n q]; exact h2 z t (by omega)
  unfold wpX_fillMaps
  dsimp only
  exact ⟨401, L 400 0 rfl kp (fun _ t ht => by omega) (fun _ t ht => by omega)⟩
/-- the inverse of the class's keys -/
def md_yx (k : Nat) : Nat := md_y (k / 1048576) (k / 32768 % 32) (k / 1024 % 32) (k / 32 % 32) (k % 32)
theorem md_yxk (p : Nat) : md_yx (md_kx p) = p := by
  unfold md_yx
  rw [show md_kx p / 1048576 = p / 331776 from xk_n p, show md_kx p / 32768 % 32 = p / 13824 % 24 from xx_a (mo_24 _) (mo_24 _) (mo_24 _) (mo_24 _), show md_kx p / 1024 % 32 = p / 576 % 24 from xx_b (mo_24 _) (mo_24 _) (mo_24 _), show md_kx p / 32 % 32 = p / 24 % 24 from xx_c (mo_24 _) (mo_24 _), xk_i]
  unfold md_y
  have h0 := Nat.div_add_mod p 24
  have h1 := Nat.div_add_mod (p / 24) 24
  have h2 := Nat.div_add_mod (p / 24 / 24) 24
  have h3 := Nat.div_add_mod (p / 24 / 24 / 24) 24
  rw [md_d4] at h3
  rw [md_d3] at h3 h2
  rw [md_d2] at h2 h1
  omega
end
