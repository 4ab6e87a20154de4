/-! ===== the reference: maps, and the whole of lay ===== -/
section
variable {f_length f_handlers f_many f_there f_typed f_wrongNumber f_wrongPlace f_size f_why f_height f_objects f_line f_begun f_last f_end : Int32} {a_parent a_begin a_op a_arg a_from a_to a_target a_caught a_places a_heights a_gone a_worst a_frames a_maps a_high a_known a_mapped a_now a_sorts a_ints a_classes a_ready : Nat → Int32}
variable {g : md_C} {m : Nat} {P D pl hi : Nat → Nat}
theorem ya_num2 {post : Int32 → Prop} {q : Nat} (hG : md_G g) (hM : md_M g) (Y : ml_Y g m P D) (hpl : ∀ k, k < m → pl k = P k) {j : Nat} (hj : j < m) (ej : P j = q) (h : post (nI j)) : wpY_number post (f_length, f_handlers, (nI m), f_there, f_typed, f_wrongNumber, f_wrongPlace, f_size, f_why, f_height, f_objects, f_line, f_begun, f_last, f_end, a_parent, a_begin, a_op, a_arg, a_from, a_to, a_target, a_caught, (ar pl), a_heights, a_gone, a_worst, a_frames, a_maps, a_high, a_known, a_mapped, a_now, a_sorts, a_ints, a_classes, a_ready) (nI q) := by
  have hm := Y.1
  have hK : ∀ j, j < m → pl j < 1327104 := fun j hj => by rw [hpl j hj]; exact md_Vlt hG.1 (mg_V hG hM Y hj)
  refine ya_num (by omega) hK (by rw [← ej, ← hpl j hj]; exact hK j hj) (fun i hi ei => ?_) (fun no => absurd ((hpl j hj).trans ej) (no j hj))
  have eij : i = j := ml_inj Y.2.1 _ _ hi hj ((hpl i hi).symm.trans (ei.trans ej.symm))
  subst eij; exact h
theorem ya_maps {post : SY → Prop} {mp : Nat → Nat} (hG : md_G g) (hM : md_M g) (Y : ml_Y g m P D) (hpl : ∀ k, k < m → pl k = P k) (H : ∀ mp', mm_is m (fun k => ∃ j, j < m ∧ mg_hit g P j k) mp' → post ((nI (mc_cc g)), (nI (mc_hc g)), (nI m), f_there, f_typed, f_wrongNumber, f_wrongPlace, f_size, f_why, f_height, f_objects, f_line, f_begun, f_last, f_end, (ar (mc_p g)), (ar (mc_e g)), (ar (mc_o g)), (mc_r g), (ar (mc_f g)), (ar (mc_t g)), (ar (mc_g g)), (ar (mc_k g)), (ar pl), a_heights, a_gone, a_worst, a_frames, a_maps, (ar hi), a_known, (ar mp'), a_now, a_sorts, a_ints, a_classes, a_ready)) : wpY_findMaps post ((nI (mc_cc g)), (nI (mc_hc g)), (nI m), f_there, f_typed, f_wrongNumber, f_wrongPlace, f_size, f_why, f_height, f_objects, f_line, f_begun, f_last, f_end, (ar (mc_p g)), (ar (mc_e g)), (ar (mc_o g)), (mc_r g), (ar (mc_f g)), (ar (mc_t g)), (ar (mc_g g)), (ar (mc_k g)), (ar pl), a_heights, a_gone, a_worst, a_frames, a_maps, (ar hi), a_known, (ar mp), a_now, a_sorts, a_ints, a_classes, a_ready) := by
  have hm40 := Y.1
  have hcc := hG.1
  have hhc := hG.2.1
  have B : ∀ e n, n + e = m → ∀ hm, mm_is m (fun k => ∃ j, j < n ∧ mg_hit g P j k) hm → wY_findMaps_25 post (nI (mc_cc g)) (nI (mc_hc g)) (nI m) f_there f_typed f_wrongNumber f_wrongPlace f_size f_why f_height f_objects f_line f_begun f_last f_end (e + 1) (nI n) (ar (mc_p g)) (ar (mc_e g)) (ar (mc_o g)) (mc_r g) (ar (mc_f g)) (ar (mc_t g)) (ar (mc_g g)) (ar (mc_k g)) (ar pl) a_heights a_gone a_worst a_frames a_maps (ar hi) a_known (ar hm) a_now a_sorts a_ints a_classes a_ready := by
    intro e
    induction e with
    | zero =>
      intro n hn hm h
      have en : n = m := by omega
      subst en
      exact pk_le n n (fun _ => H hm h) (fun c => by omega)
    | succ e ih =>
      intro n hn hm h
      have hnm : n < m := by omega
      have v := mg_V hG hM Y hnm
      have hpl1 := md_Vlt hcc v
      have C : ∀ d x, x + d = mc_hc g → ∀ hm, mm_is m (fun k => (∃ j, j < n ∧ mg_hit g P j k) ∨ md_L g (P n) = some (P k) ∨ ∃ y, y < x ∧ md_cv g y (P n) ∧ md_at (P n) (mc_g g y) = P k) hm → wY_findMaps_61 post (wY_findMaps_25 post (nI (mc_cc g)) (nI (mc_hc g)) (nI m) f_there f_typed f_wrongNumber f_wrongPlace f_size f_why f_height f_objects f_line f_begun f_last f_end (e + 1)) (nI n) (nI (mc_cc g)) (nI (mc_hc g)) (nI m) f_there f_typed f_wrongNumber f_wrongPlace f_size f_why f_height f_objects f_line f_begun f_last f_end (d + 1) (nI x) (ar (mc_p g)) (ar (mc_e g)) (ar (mc_o g)) (mc_r g) (ar (mc_f g)) (ar (mc_t g)) (ar (mc_g g)) (ar (mc_k g)) (ar pl) a_heights a_gone a_worst a_frames a_maps (ar hi) a_known (ar hm) a_now a_sorts a_ints a_classes a_ready := by
        intro d
        induction d with
        | zero =>
          intro x hx hm h
          have ex : x = mc_hc g := by omega
          subst ex
          refine pk_le (mc_hc g) (mc_hc g) (fun _ => nm_r (nI_1 n) (ih (n + 1) (by omega) hm (mm_iff h (fun k hk => ?_)))) (fun c => by omega)
          constructor
          · rintro (⟨j, hj, z⟩ | z)
            · exact ⟨j, by omega, z⟩
            · exact ⟨n, by omega, z⟩
          · rintro ⟨j, hj, z⟩
            by_cases q : j = n
            · subst q; exact Or.inr z
            · exact Or.inl ⟨j, by omega, z⟩
        | succ d ihd =>
          intro x hx hm h
          refine pk_le (mc_hc g) x (fun c => by omega) (fun c => ⟨vp_in_nI (by omega) (by omega), vp_in_nI (by omega) (by omega), ?_⟩)
          rw [ar_at _ (by omega), ar_at _ (by omega), hpl n hnm]
          refine ya_at (by omega) ⟨vp_in_nI (by omega) (by omega), ?_⟩
          refine ya_cov hG (by omega) (by omega) (fun cv => xb_1 ?_) (fun cv => xb_0 ?_)
          · obtain ⟨j, hj, ej, _⟩ := mg_h Y hnm c cv
            refine ya_num2 hG hM Y hpl hj ej ⟨vp_in_nI (by omega) (by omega), nm_r (e' := ar (mf_up hm j 1)) (by rw [mi_n1]; exact ar_ui hm 1 (by omega)) (nm_r (nI_1 x) (ihd (x + 1) (by omega) _ (mm_iff (mm_set Y.2.1 hj ej h) (fun k hk => ?_))))⟩
            constructor
            · rintro ((z | z | ⟨y, z1, z2⟩) | z)
              · exact Or.inl z
              · exact Or.inr (Or.inl z)
              · exact Or.inr (Or.inr ⟨y, by omega, z2⟩)
              · exact Or.inr (Or.inr ⟨x, by omega, cv, z.symm⟩)
            · rintro (z | z | ⟨y, z1, z2, z3⟩)
              · exact Or.inl (Or.inl z)
              · exact Or.inl (Or.inr (Or.inl z))
              · by_cases q : y = x
                · subst q; exact Or.inr z3.symm
                · exact Or.inl (Or.inr (Or.inr ⟨y, by omega, z2, z3⟩))
          · refine nm_r (nI_1 x) (ihd (x + 1) (by omega) hm (mm_iff h (fun k hk => ?_)))
            constructor
            · rintro (z | z | ⟨y, z1, z2⟩)
              · exact Or.inl z
              · exact Or.inr (Or.inl z)
              · exact Or.inr (Or.inr ⟨y, by omega, z2⟩)
            · rintro (z | z | ⟨y, z1, z2, z3⟩)
              · exact Or.inl z
              · exact Or.inr (Or.inl z)
              · by_cases q : y = x
                · subst q; exact absurd z2 cv
                · exact Or.inr (Or.inr ⟨y, by omega, z2, z3⟩)
      refine pk_le m n (fun c => by omega) (fun _ => ⟨vp_in_nI (by omega) (by omega), ?_⟩)
      rw [ar_at _ (by omega), hpl n hnm]
      refine ya_led2 hG hM Y hnm (fun q hq => ?_) (fun hq => xb_m ⟨mc_hc g + 1, C (mc_hc g) 0 (by omega) hm (mm_iff h (fun k hk => ?_))⟩)
      · obtain ⟨j, hj, ej, _⟩ := mg_j Y hnm hq
        have hq1 : q < 1327104 := by rw [← ej]; exact md_Vlt hcc (mg_V hG hM Y hj)
        refine xb_n (by omega) (ya_num2 hG hM Y hpl hj ej ⟨vp_in_nI (by omega) (by omega), nm_r (e' := ar (mf_up hm j 1)) (by rw [mi_n1]; exact ar_ui hm 1 (by omega)) ⟨mc_hc g + 1, C (mc_hc g) 0 (by omega) _ (mm_iff (mm_set Y.2.1 hj ej h) (fun k hk => ?_))⟩⟩)
        constructor
        · rintro (z | z)
          · exact Or.inl z
          · exact Or.inr (Or.inl (by rw [hq, z]))
        · rintro (z | z | ⟨y, z1, _⟩)
          · exact Or.inl z
          · rw [hq] at z; cases z; exact Or.inr rfl
          · omega
      · constructor
        · intro z; exact Or.inl z
        · rintro (z | z | ⟨y, z1, _⟩)
          · exact z
          · rw [hq] at z; cases z
          · omega
  have A : ∀ e n, n + e = m → ∀ hm : Nat → Nat, (∀ t, t < n → hm t = 0) → wY_findMaps_2 post (nI (mc_cc g)) (nI (mc_hc g)) (nI m) f_there f_typed f_wrongNumber f_wrongPlace f_size f_why f_height f_objects f_line f_begun f_last f_end (e + 1) (nI n) (ar (mc_p g)) (ar (mc_e g)) (ar (mc_o g)) (mc_r g) (ar (mc_f g)) (ar (mc_t g)) (ar (mc_g g)) (ar (mc_k g)) (ar pl) a_heights a_gone a_worst a_frames a_maps (ar hi) a_known (ar hm) a_now a_sorts a_ints a_classes a_ready := by
    intro e
    induction e with
    | zero =>
      intro n hn hm h
      refine pk_le m n (fun _ => ⟨m + 1, B m 0 (by omega) hm (fun k hk => Or.inr ⟨h k (by omega), ?_⟩)⟩) (fun c => by omega)
      rintro ⟨j, hj, _⟩; omega
    | succ e ih =>
      intro n hn hm h
      refine pk_le m n (fun c => by omega) (fun _ => ⟨vp_in_nI (by omega) (by omega), nm_r (e' := ar (mf_up hm n 0)) (by rw [mi_n0]; exact ar_ui hm 0 (by omega)) (nm_r (nI_1 n) (ih (n + 1) (by omega) _ (fun t ht => ?_)))⟩)
      by_cases q : t = n
      · subst q; exact up_s
      · rw [up_n q]; exact h t (by omega)
  unfold wpY_findMaps
  dsimp only
  exact ⟨m + 1, A m 0 (by omega) mp (fun t ht => by omega)⟩
/-- the heights from their bits -/
theorem ya_highs {post : Int32 → SY → Prop} {w hi0 : Nat → Nat} (hm : m ≤ 40) (hw : ∀ k, k < m → w k < 128 ∧ ∀ h, (w k).testBit h = true ↔ h = D k) (hD : ∀ k, k < m → D k ≤ 6) (H : ∀ hi, (∀ k, k < m → hi k = D k) → ∀ n, wY_lay_48 post f_length f_handlers (nI m) f_there f_typed f_wrongNumber f_wrongPlace f_size f_why f_height f_objects f_line f_begun f_last f_end (n + 1) (nI m) a_parent a_begin a_op a_arg a_from a_to a_target a_caught a_places (ar w) a_gone a_worst a_frames a_maps (ar hi) a_known a_mapped a_now a_sorts a_ints a_classes a_ready) : ∃ n, wY_lay_48 post f_length f_handlers (nI m) f_there f_typed f_wrongNumber f_wrongPlace f_size f_why f_height f_objects f_line f_begun f_last f_end n 0 a_parent a_begin a_op a_arg a_from a_to a_target a_caught a_places (ar w) a_gone a_worst a_frames a_maps (ar hi0) a_known a_mapped a_now a_sorts a_ints a_classes a_ready := by
  have L : ∀ e k, k + e = m → ∀ hi : Nat → Nat, (∀ t, t < k → hi t = D t) → wY_lay_48 post f_length f_handlers (nI m) f_there f_typed f_wrongNumber f_wrongPlace f_size f_why f_height f_objects f_line f_begun f_last f_end (e + 1) (nI k) a_parent a_begin a_op a_arg a_from a_to a_target a_caught a_places (ar w) a_gone a_worst a_frames a_maps (ar hi) a_known a_mapped a_now a_sorts a_ints a_classes a_ready := by
    intro e
    induction e with
    | zero =>
      intro k hk hi h
      have ek : k = m := by omega
      subst ek
      exact H hi h 0
    | succ e ih =>
      intro k hk hi h
      have hkm : k < m := by omega
      have wk := hw k hkm
      have Dk := hD k hkm
      refine pk_le m k (fun c => by omega) (fun _ => ⟨vp_in_nI (by omega) (by omega), nm_r (ar_ui hi 0 (by omega)) ⟨8, ?_⟩⟩)
      have I : ∀ d s, s + d = 7 → s ≤ D k → ∀ hi : Nat → Nat, (∀ t, t < k → hi t = D t) → hi k = s → wY_lay_63 post (wY_lay_48 post f_length f_handlers (nI m) f_there f_typed f_wrongNumber f_wrongPlace f_size f_why f_height f_objects f_line f_begun f_last f_end (e + 1)) (nI k) f_length f_handlers (nI m) f_there f_typed f_wrongNumber f_wrongPlace f_size f_why f_height f_objects f_line f_begun f_last f_end (d + 1) a_parent a_begin a_op a_arg a_from a_to a_target a_caught a_places (ar w) a_gone a_worst a_frames a_maps (ar hi) a_known a_mapped a_now a_sorts a_ints a_classes a_ready := by
        intro d
        induction d with
        | zero => intro s hs hle; omega
        | succ d ihd =>
          intro s hs hle hi h hk0
          refine ⟨vp_in_nI (by omega) (by omega), vp_in_nI (by omega) (by omega), ?_⟩
          rw [ar_at _ (by omega), ar_at _ (by omega), hk0]
          refine br_c (fun c => ?_) (fun c => ?_)
          · rw [mb_shb _ wk.1 s (by omega), wk.2 s] at c
            refine ⟨vp_in_nI (by omega) (by omega), vp_in_nI (by omega) (by omega), nm_r (e' := ar (mf_up hi k (s + 1))) ?_ (ihd (s + 1) (by omega) (by omega) _ (fun t ht => ?_) up_s)⟩
            · rw [nI_1]; exact ar_ui _ _ (by omega)
            · rw [up_n (by omega)]; exact h t ht
          · rw [mb_shb _ wk.1 s (by omega), wk.2 s] at c
            have es : s = D k := Classical.byContradiction c
            refine nm_r (nI_1 k) (ih (k + 1) (by omega) hi (fun t ht => ?_))
            by_cases q : t = k
            · subst q; rw [hk0, es]
            · exact h t (by omega)
      exact I 7 0 rfl (by omega) _ (fun t ht => by rw [up_n (by omega)]; exact h t ht) up_s
  exact ⟨m + 1, L m 0 (by omega) hi0 (fun t ht => by omega)⟩
theorem ya_fill {post : Int32 → SY → Prop} {ty : Bool} {fd mp : Nat → Nat} (hm : m ≤ 40) (H : ∀ mp' : Nat → Nat, (ty = true → ∀ i, i < 10 * m → mp' i = fd i) → (ty = false → ∀ i, i < 10 * m → mp' i = 0) → post (if ty = true then 0 else 2) (f_length, f_handlers, (nI m), f_there, (mf_b ty), f_wrongNumber, f_wrongPlace, f_size, f_why, f_height, f_objects, f_line, f_begun, f_last, f_end, a_parent, a_begin, a_op, a_arg, a_from, a_to, a_target, a_caught, a_places, a_heights, a_gone, a_worst, (ar fd), (ar mp'), a_high, a_known, a_mapped, a_now, a_sorts, a_ints, a_classes, a_ready)) : ∃ n, wY_lay_114 post f_length f_handlers (nI m) f_there (mf_b ty) f_wrongNumber f_wrongPlace f_size f_why f_height f_objects f_line f_begun f_last f_end n 0 a_parent a_begin a_op a_arg a_from a_to a_target a_caught a_places a_heights a_gone a_worst (ar fd) (ar mp) a_high a_known a_mapped a_now a_sorts a_ints a_classes a_ready := by
  have e10 : (10 : Int32) * nI m = nI (10 * m) := pk_mul 10 m
  have L : ∀ e i, i + e = 10 * m → ∀ mp : Nat → Nat, (ty = true → ∀ t, t < i → mp t = fd t) → (ty = false → ∀ t, t < i → mp t = 0) → wY_lay_114 post f_length f_handlers (nI m) f_there (mf_b ty) f_wrongNumber f_wrongPlace f_size f_why f_height f_objects f_line f_begun f_last f_end (e + 1) (nI i) a_parent a_begin a_op a_arg a_from a_to a_target a_caught a_places a_heights a_gone a_worst (ar fd) (ar mp) a_high a_known a_mapped a_now a_sorts a_ints a_classes a_ready := by
    intro e
    induction e with
    | zero =>
      intro i hi mp h1 h2
      have ei : i = 10 * m := by omega
      subst ei
      refine pk_le (10 * m) (10 * m) (fun _ => ?_) (fun c => by omega) e10
      have := H mp h1 h2
      cases ty with
      | false => exact xb_0 this
      | true => exact xb_1 this
    | succ e ih =>
      intro i hi mp h1 h2
      refine pk_le (10 * m) i (fun c => by omega) (fun _ => ?_) e10
      cases ty with
      | false =>
        refine xb_0 ⟨vp_in_nI (by omega) (by omega), nm_r (ar_ui mp 0 (by omega)) (nm_r (nI_1 i) (ih (i + 1) (by omega) _ (fun z => by cases z) (fun _ t ht => ?_)))⟩
        by_cases q : t = i
        · subst q; exact up_s
        · rw [up_n q]; exact h2 rfl t (by omega)
      | true =>
        rw [ar_at _ (by omega)]
        refine xb_1 ⟨vp_in_nI (by omega) (by omega), vp_in_nI (by omega) (by omega), nm_r (ar_ui _ _ (by omega)) (nm_r (nI_1 i) (ih (i + 1) (by omega) _ (fun _ t ht => ?_) (fun z => by cases z)))⟩
        by_cases q : t = i
        · subst q; exact up_s
        · rw [up_n q]; exact h1 rfl t (by omega)
  exact ⟨10 * m + 1, L (10 * m) 0 (by omega) mp (fun _ t ht => by omega) (fun _ t ht => by omega)⟩
end
