/-! ===== the reference: sorting the places ===== -/
section
variable {f_length f_handlers f_many f_there f_typed f_wrongNumber f_wrongPlace f_size f_why f_height f_objects f_line f_begun f_last f_end : Int32} {a_parent a_begin a_op a_arg a_from a_to a_target a_caught a_places a_heights a_gone a_worst a_frames a_maps a_high a_known a_mapped a_now a_sorts a_ints a_classes a_ready : Nat → Int32}
theorem ys_sort {post : SY → Prop} {m : Nat} {a0 b0 c0 : Nat → Nat} (hm : m ≤ 41) (inj0 : ms_inj m a0) (hb0 : ∀ k, k < m → a0 k < 2 ^ 31) (H : ∀ a b c, ml_inc m a → ms_P m a0 (fun i => (b0 i, c0 i)) a (fun i => (b i, c i)) → post (f_length, f_handlers, (nI m), f_there, f_typed, f_wrongNumber, f_wrongPlace, f_size, f_why, f_height, f_objects, f_line, f_begun, f_last, f_end, a_parent, a_begin, a_op, a_arg, a_from, a_to, a_target, a_caught, (ar a), (ar b), a_gone, (ar c), a_frames, a_maps, a_high, a_known, a_mapped, a_now, a_sorts, a_ints, a_classes, a_ready)) : wpY_sort post (f_length, f_handlers, (nI m), f_there, f_typed, f_wrongNumber, f_wrongPlace, f_size, f_why, f_height, f_objects, f_line, f_begun, f_last, f_end, a_parent, a_begin, a_op, a_arg, a_from, a_to, a_target, a_caught, (ar a0), (ar b0), a_gone, (ar c0), a_frames, a_maps, a_high, a_known, a_mapped, a_now, a_sorts, a_ints, a_classes, a_ready) := by
  have bd : ∀ a (b c : Nat → Nat), ms_P m a0 (fun i => (b0 i, c0 i)) a (fun i => (b i, c i)) → ∀ k, k < m → a k < 2 ^ 31 := by
    intro a b c p k hk
    obtain ⟨j, hj, e, _⟩ := p.1 k hk
    rw [e]; exact hb0 j hj
  have L : ∀ d k, k + d = m → ∀ a b c, ml_inc k a → (∀ i j, i < k → k ≤ j → j < m → a i < a j) → ms_inj m a → ms_P m a0 (fun i => (b0 i, c0 i)) a (fun i => (b i, c i)) → wY_sort_2 post f_length f_handlers (nI m) f_there f_typed f_wrongNumber f_wrongPlace f_size f_why f_height f_objects f_line f_begun f_last f_end (d + 1) (nI k) a_parent a_begin a_op a_arg a_from a_to a_target a_caught (ar a) (ar b) a_gone (ar c) a_frames a_maps a_high a_known a_mapped a_now a_sorts a_ints a_classes a_ready := by
    intro d
    induction d with
    | zero =>
      intro k hk a b c inc low inj p
      have em : k = m := by omega
      subst em
      exact pk_le k k (fun _ => H a b c inc p) (fun c => by omega)
    | succ d ih =>
      intro k hk a b c inc low inj p
      have ba := bd a b c p
      refine pk_le m k (fun c => by omega) (fun _ => nm_r (nI_1 k) ⟨d + 1, ?_⟩)
      have I : ∀ f j l, j + f = m → k ≤ l → l < j → k < j → (∀ t, k ≤ t → t < j → a l ≤ a t) → wY_sort_16 post (wY_sort_2 post f_length f_handlers (nI m) f_there f_typed f_wrongNumber f_wrongPlace f_size f_why f_height f_objects f_line f_begun f_last f_end (d + 1)) (nI k) f_length f_handlers (nI m) f_there f_typed f_wrongNumber f_wrongPlace f_size f_why f_height f_objects f_line f_begun f_last f_end a_parent a_begin a_op a_arg a_from a_to a_target a_caught (ar a) (ar b) a_gone (ar c) a_frames a_maps a_high a_known a_mapped a_now a_sorts a_ints a_classes a_ready (f + 1) (nI l) (nI j) := by
        intro f
        induction f with
        | zero =>
          intro j l hj hl hlj hkj least
          refine pk_le m j (fun _ => ?_) (fun c => by omega)
          refine ⟨vp_in_nI (by omega) (by omega), nm_r (ar_at _ (by omega)) ⟨vp_in_nI (by omega) (by omega), nm_r (ar_at _ (by omega)) ⟨vp_in_nI (by omega) (by omega), nm_r (ar_at _ (by omega)) ?_⟩⟩⟩
          rw [ar_at _ (by omega), ar_at _ (by omega), ar_at _ (by omega)]
          refine ⟨vp_in_nI (by omega) (by omega), vp_in_nI (by omega) (by omega), nm_r (ar_ui _ _ (by omega)) ⟨vp_in_nI (by omega) (by omega), vp_in_nI (by omega) (by omega), nm_r (ar_ui _ _ (by omega)) ⟨vp_in_nI (by omega) (by omega), vp_in_nI (by omega) (by omega), nm_r (ar_ui _ _ (by omega)) ⟨vp_in_nI (by omega) (by omega), nm_r (ar_ui _ _ (by omega)) ⟨vp_in_nI (by omega) (by omega), nm_r (ar_ui _ _ (by omega)) ⟨vp_in_nI (by omega) (by omega), nm_r (ar_ui _ _ (by omega)) (nm_r (nI_1 k) ?_)⟩⟩⟩⟩⟩⟩
          have sa := ms_upup a k l
          have sk : mf_up (mf_up a k (a l)) l (a k) k = a l := by
            rw [sa]; unfold ms_s; by_cases q : k = l
            · simp [q]
            · simp [q]
          have so : ∀ t, t < k → mf_up (mf_up a k (a l)) l (a k) t = a t := by
            intro t ht; rw [sa]; unfold ms_s; rw [if_neg (by omega), if_neg (by omega)]
          have sh : ∀ t, k < t → t < m → ∃ t', k ≤ t' ∧ t' < m ∧ t' ≠ l ∧ mf_up (mf_up a k (a l)) l (a k) t = a t' := by
            intro t h1 h2; rw [sa]; unfold ms_s
            by_cases q : t = l
            · rw [if_pos q]; exact ⟨k, by omega, by omega, by omega, rfl⟩
            · rw [if_neg q, if_neg (by omega)]; exact ⟨t, by omega, h2, q, rfl⟩
          have lt : ∀ t, k < t → t < m → a l < mf_up (mf_up a k (a l)) l (a k) t := by
            intro t h1 h2
            obtain ⟨t', x1, x2, x3, x4⟩ := sh t h1 h2
            rw [x4]
            have := least t' x1 (by omega)
            have : a l ≠ a t' := fun q => x3 (inj _ _ x2 (by omega) q.symm)
            omega
          refine ih (k + 1) (by omega) _ _ _ ?_ ?_ ?_ ?_
          · intro i j' hij hj'
            by_cases q : j' = k
            · subst q
              rw [sk, so i hij]; exact low i l hij (by omega) (by omega)
            · rw [so i (by omega), so j' (by omega)]; exact inc i j' hij (by omega)
          · intro i j' hi h1 h2
            by_cases q : i = k
            · subst q
              rw [sk]; exact lt j' (by omega) h2
            · rw [so i (by omega)]
              obtain ⟨t', x1, x2, x3, x4⟩ := sh j' (by omega) h2
              rw [x4]; exact low i t' (by omega) x1 x2
          · exact ms_swi (i := k) (j := l) (by omega) (by omega) (fun t _ => sa t) inj
          · refine ms_Pt p (ms_sw (i := k) (j := l) (by omega) (by omega) (fun t _ => sa t) (fun t _ => ?_))
            show (mf_up (mf_up b k (b l)) l (b k) t, mf_up (mf_up c k (c l)) l (c k) t) = (b (ms_s k l t), c (ms_s k l t))
            rw [ms_upup, ms_upup]
        | succ f ihf =>
          intro j l hj hl hlj hkj least
          have bj := ba j (by omega)
          have bl := ba l (by omega)
          refine pk_le m j (fun c => by omega) (fun _ => ⟨vp_in_nI (by omega) (by omega), vp_in_nI (by omega) (by omega), ?_⟩)
          rw [ar_at _ (by omega), ar_at _ (by omega)]
          refine pk_le (a l) (a j) (fun q => nm_r (nI_1 j) (ihf (j + 1) l (by omega) hl (by omega) (by omega) (fun t h1 h2 => ?_))) (fun q => nm_r (nI_1 j) (ihf (j + 1) j (by omega) (by omega) (by omega) (by omega) (fun t h1 h2 => ?_)))
          · by_cases e : t = j
            · subst e; exact q
            · exact least t h1 (by omega)
          · by_cases e : t = j
            · subst e; exact Nat.le_refl _
            · have := least t h1 (by omega); omega
      exact I d (k + 1) k (by omega) (Nat.le_refl _) (by omega) (by omega) (fun t h1 h2 => by
        have : t = k := by omega
        subst this; exact Nat.le_refl _)
  exact ⟨m + 1, L m 0 (by omega) a0 b0 c0 (fun i j hij hj => by omega) (fun i j hi => by omega) inj0 (ms_Pr m a0 _)⟩
end
