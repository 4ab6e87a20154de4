/-! ===== the reference: fitting, joining, frames ===== -/
section
variable {f_length f_handlers f_many f_there f_typed f_wrongNumber f_wrongPlace f_size f_why f_height f_objects f_line f_begun f_last f_end : Int32} {a_parent a_begin a_op a_arg a_from a_to a_target a_caught a_places a_heights a_gone a_worst a_frames a_maps a_high a_known a_mapped a_now a_sorts a_ints a_classes a_ready : Nat → Int32}
variable {g : md_C}
theorem ya_abv {post : Int32 → Prop} {c p : Nat} (hG : md_G g) (hc : c < 8) (hp : p < 8) (h1 : mt_ab g p c → post 1) (h0 : ¬ mt_ab g p c → post 0) : wpY_isAbove post ((nI (mc_cc g)), (nI (mc_hc g)), f_many, f_there, f_typed, f_wrongNumber, f_wrongPlace, f_size, f_why, f_height, f_objects, f_line, f_begun, f_last, f_end, (ar (mc_p g)), (ar (mc_e g)), (ar (mc_o g)), (mc_r g), (ar (mc_f g)), (ar (mc_t g)), (ar (mc_g g)), (ar (mc_k g)), a_places, a_heights, a_gone, a_worst, a_frames, a_maps, a_high, a_known, a_mapped, a_now, a_sorts, a_ints, a_classes, a_ready) (nI p) (nI c) := by
  have hpar := hG.2.2.2.2.2.1
  have L : ∀ d e, e ≤ d → e < 8 → (mt_cl g d p e = p → post 1) → (¬ mt_cl g d p e = p → post 0) → wY_isAbove_2 post (nI p) (nI (mc_cc g)) (nI (mc_hc g)) f_many f_there f_typed f_wrongNumber f_wrongPlace f_size f_why f_height f_objects f_line f_begun f_last f_end (ar (mc_p g)) (ar (mc_e g)) (ar (mc_o g)) (mc_r g) (ar (mc_f g)) (ar (mc_t g)) (ar (mc_g g)) (ar (mc_k g)) a_places a_heights a_gone a_worst a_frames a_maps a_high a_known a_mapped a_now a_sorts a_ints a_classes a_ready (d + 1) (nI e) := by
    intro d
    induction d with
    | zero =>
      intro e he h8 a b
      have e0 : e = 0 := by omega
      subst e0
      refine pk_le 0 p (fun _ => pk_eq 0 p (fun q => a q) (fun q => b q)) (fun c => by omega)
    | succ d ih =>
      intro e he h8 a b
      refine pk_le e p (fun q => ?_) (fun q => ⟨vp_in_nI (by omega) (by omega), nm_r (ar_at _ (by omega)) ?_⟩)
      · have e1 : mt_cl g (d + 1) p e = e := by
          show (if p < e then _ else e) = e
          rw [if_neg (by omega)]
        rw [e1] at a b
        exact pk_eq e p (fun q => a q) (fun q => b q)
      · have e1 : mt_cl g (d + 1) p e = mt_cl g d p (mc_p g e) := by
          show (if p < e then _ else e) = _
          rw [if_pos q]
        rw [e1] at a b
        have := hpar e
        exact ih (mc_p g e) (by omega) (by omega) a b
  unfold wpY_isAbove
  dsimp only
  exact ⟨9, L 8 c (by omega) hc h1 h0⟩
theorem ya_isC {post : Int32 → Prop} {t : Nat} (ht : t ≤ 90) (h1 : mt_C t → post 1) (h0 : ¬ mt_C t → post 0) : wpY_isClass post (nI t) := by
  unfold wpY_isClass
  refine pk_lt t 3 (fun c => h0 ?_) (fun c => pk_le 11 t (fun d => h0 ?_) (fun d => h1 ⟨c, by omega⟩))
  · unfold mt_C; omega
  · unfold mt_C; omega
theorem ya_fits {post : Int32 → Prop} {t o : Nat} (hG : md_G g) (ht : t ≤ 90) (ho : o ≤ 90) (h1 : mt_fit g t o → post 1) (h0 : ¬ mt_fit g t o → post 0) : wpY_fits post ((nI (mc_cc g)), (nI (mc_hc g)), f_many, f_there, f_typed, f_wrongNumber, f_wrongPlace, f_size, f_why, f_height, f_objects, f_line, f_begun, f_last, f_end, (ar (mc_p g)), (ar (mc_e g)), (ar (mc_o g)), (mc_r g), (ar (mc_f g)), (ar (mc_t g)), (ar (mc_g g)), (ar (mc_k g)), a_places, a_heights, a_gone, a_worst, a_frames, a_maps, a_high, a_known, a_mapped, a_now, a_sorts, a_ints, a_classes, a_ready) (nI t) (nI o) := by
  unfold wpY_fits
  dsimp only
  refine pk_eq t o (fun c => h1 (Or.inl c)) (fun c1 => pk_eq o 0 (fun c => h1 (Or.inr (Or.inl c))) (fun c2 => ?_))
  refine ya_isC ho (fun co => xb_1 (pk_eq t 2 (fun c => h1 (Or.inr (Or.inr ⟨co, Or.inl c⟩))) (fun c5 => ?_))) (fun co => xb_0 (h0 ?_))
  · refine ya_isC ht (fun ct => xb_1 ?_) (fun ct => xb_0 (h0 ?_))
    · have e1 : nI t - 3 = nI (t - 3) := pk_sub (b := 3) ct.1
      have e2 : nI o - 3 = nI (o - 3) := pk_sub (b := 3) co.1
      rw [e1, e2]
      have ct' := ct
      have co' := co
      unfold mt_C at ct' co'
      refine ya_abv hG (by omega) (by omega) (fun q => xb_1 (h1 (Or.inr (Or.inr ⟨co, Or.inr ⟨ct, q⟩⟩)))) (fun q => xb_0 (h0 ?_))
      rintro (z | z | ⟨_, z | ⟨_, z⟩⟩)
      · exact c1 z
      · exact c2 z
      · exact c5 z
      · exact q z
    · rintro (z | z | ⟨_, z | ⟨z, _⟩⟩)
      · exact c1 z
      · exact c2 z
      · exact c5 z
      · exact ct z
  · rintro (z | z | ⟨z, _⟩)
    · exact c1 z
    · exact c2 z
    · exact co z
theorem ya_join {post : Int32 → Prop} {t o : Nat} (hG : md_G g) (ht : t ≤ 90) (ho : o ≤ 90) (h : post (nI (mt_j g t o))) : wpY_join post ((nI (mc_cc g)), (nI (mc_hc g)), f_many, f_there, f_typed, f_wrongNumber, f_wrongPlace, f_size, f_why, f_height, f_objects, f_line, f_begun, f_last, f_end, (ar (mc_p g)), (ar (mc_e g)), (ar (mc_o g)), (mc_r g), (ar (mc_f g)), (ar (mc_t g)), (ar (mc_g g)), (ar (mc_k g)), a_places, a_heights, a_gone, a_worst, a_frames, a_maps, a_high, a_known, a_mapped, a_now, a_sorts, a_ints, a_classes, a_ready) (nI t) (nI o) := by
  have hpar := hG.2.2.2.2.2.1
  unfold wpY_join
  dsimp only
  have rest : ¬ mt_fit g t o → ¬ mt_fit g o t → wpY_isClass (fun r_79 => ((r_79 = 0 → post 0) ∧ (¬ r_79 = 0 → wpY_isClass (fun r_81 => ((r_81 = 0 → post 0) ∧ (¬ r_81 = 0 → ∃ n48 : Nat, wY_join_48 post (nI t) (nI o) (nI (mc_cc g)) (nI (mc_hc g)) f_many f_there f_typed f_wrongNumber f_wrongPlace f_size f_why f_height f_objects f_line f_begun f_last f_end (ar (mc_p g)) (ar (mc_e g)) (ar (mc_o g)) (mc_r g) (ar (mc_f g)) (ar (mc_t g)) (ar (mc_g g)) (ar (mc_k g)) a_places a_heights a_gone a_worst a_frames a_maps a_high a_known a_mapped a_now a_sorts a_ints a_classes a_ready n48 7))) (nI o)))) (nI t) := by
    intro n1 n2
    refine ya_isC ht (fun ct => xb_1 (ya_isC ho (fun co => xb_1 ?_) (fun co => xb_0 ?_))) (fun ct => xb_0 ?_)
    · have ct' := ct
      have co' := co
      unfold mt_C at ct' co'
      have e1 : nI t - 3 = nI (t - 3) := pk_sub (b := 3) ct.1
      have e2 : nI o - 3 = nI (o - 3) := pk_sub (b := 3) co.1
      have L : ∀ d, d < 8 → (∀ q, d < q → q < 8 → ¬ (mt_ab g q (t - 3) ∧ mt_ab g q (o - 3))) → wY_join_48 post (nI t) (nI o) (nI (mc_cc g)) (nI (mc_hc g)) f_many f_there f_typed f_wrongNumber f_wrongPlace f_size f_why f_height f_objects f_line f_begun f_last f_end (ar (mc_p g)) (ar (mc_e g)) (ar (mc_o g)) (mc_r g) (ar (mc_f g)) (ar (mc_t g)) (ar (mc_g g)) (ar (mc_k g)) a_places a_heights a_gone a_worst a_frames a_maps a_high a_known a_mapped a_now a_sorts a_ints a_classes a_ready (d + 1) (nI d) := by
        intro d
        induction d with
        | zero =>
          intro _ hno
          rw [wY_join_48]
          dsimp only
          rw [e1]
          refine ya_abv (p := 0) hG (by omega) (by omega) (fun a => xb_1 ?_) (fun a => absurd (mt_ab_0 hpar _ (by omega)) a)
          rw [e2]
          refine ya_abv (p := 0) hG (by omega) (by omega) (fun b => xb_1 ?_) (fun a => absurd (mt_ab_0 hpar _ (by omega)) a)
          rw [mt_j_lca hpar n1 n2 ct co a b hno] at h; exact h
        | succ d ih =>
          intro hd hno
          have nx : ¬ (mt_ab g (d + 1) (t - 3) ∧ mt_ab g (d + 1) (o - 3)) → wY_join_48 post (nI t) (nI o) (nI (mc_cc g)) (nI (mc_hc g)) f_many f_there f_typed f_wrongNumber f_wrongPlace f_size f_why f_height f_objects f_line f_begun f_last f_end (ar (mc_p g)) (ar (mc_e g)) (ar (mc_o g)) (mc_r g) (ar (mc_f g)) (ar (mc_t g)) (ar (mc_g g)) (ar (mc_k g)) a_places a_heights a_gone a_worst a_frames a_maps a_high a_known a_mapped a_now a_sorts a_ints a_classes a_ready (d + 1) (nI d) := by
            intro q
            refine ih (by omega) (fun r h1 h2 => ?_)
            by_cases e : r = d + 1
            · subst e; exact q
            · exact hno r (by omega) h2
          rw [wY_join_48]
          dsimp only
          rw [e1]
          refine ya_abv hG (by omega) (by omega) (fun a => xb_1 ?_) (fun a => xb_0 (nm_r (pk_m1 d) (nx (fun z => a z.1))))
          rw [e2]
          refine ya_abv hG (by omega) (by omega) (fun b => xb_1 ?_) (fun b => xb_0 (nm_r (pk_m1 d) (nx (fun z => b z.2))))
          have e3 : (3 : Int32) + nI (d + 1) = nI (3 + (d + 1)) := nI_add 3 _
          rw [e3]
          rw [mt_j_lca hpar n1 n2 ct co a b hno] at h; exact h
      exact ⟨8, L 7 (by omega) (fun q h1 h2 => by omega)⟩
    · rw [mt_j_no n1 n2 (Or.inr co)] at h; exact h
    · rw [mt_j_no n1 n2 (Or.inl ct)] at h; exact h
  refine ya_fits hG ht ho (fun a => ya_fits hG ho ht (fun b => xb_1 ?_) (fun b => xb_1 ?_)) (fun a => ya_fits hG ho ht (fun b => xb_0 (xb_1 ?_)) (fun b => xb_0 (xb_0 (rest a b))))
  · rw [mt_j_up hpar a] at h; exact h
  · rw [mt_j_up hpar a] at h; exact h
  · rw [mt_j_down hpar b] at h; exact h
theorem yb_or : ∀ a b : Bool, mf_b a ||| mf_b b = mf_b (a || b) := by decide
theorem ya_give {post : Int32 → SY → Prop} {m p q d : Nat} {T : mf_T} {hf fd nw f D P pl hi : Nat → Nat} (hG : md_G g) (hm : m ≤ 40) (hp : p < m) (hpl : ∀ k, k < m → pl k = P k) (hPl : ∀ k, k < m → P k < 1327104) (inc : ml_inc m P) (eq : P p = q) (hd : d = D p) (hD : ∀ q, q < m → D q ≤ 6) (A : mf_A m D T hf fd) (T90 : mn_90 T) (f90 : ∀ s, f s ≤ 90) (hnw : ∀ s, s < 4 + d → nw s = f s) (H : ∀ hf' fd' : Nat → Nat, mf_A m D (mf_gv g T p (4 + d) f) hf' fd' → post (mf_b (mf_fl g T p (4 + d) f)) ((nI (mc_cc g)), (nI (mc_hc g)), (nI m), f_there, f_typed, f_wrongNumber, f_wrongPlace, (nI d), f_why, f_height, f_objects, f_line, f_begun, f_last, f_end, (ar (mc_p g)), (ar (mc_e g)), (ar (mc_o g)), (mc_r g), (ar (mc_f g)), (ar (mc_t g)), (ar (mc_g g)), (ar (mc_k g)), (ar pl), a_heights, a_gone, a_worst, (ar fd'), a_maps, (ar hi), (ar hf'), a_mapped, (ar nw), a_sorts, a_ints, a_classes, a_ready)) : wpY_give post ((nI (mc_cc g)), (nI (mc_hc g)), (nI m), f_there, f_typed, f_wrongNumber, f_wrongPlace, (nI d), f_why, f_height, f_objects, f_line, f_begun, f_last, f_end, (ar (mc_p g)), (ar (mc_e g)), (ar (mc_o g)), (mc_r g), (ar (mc_f g)), (ar (mc_t g)), (ar (mc_g g)), (ar (mc_k g)), (ar pl), a_heights, a_gone, a_worst, (ar fd), a_maps, (ar hi), (ar hf), a_mapped, (ar nw), a_sorts, a_ints, a_classes, a_ready) (nI q) := by
  subst hd
  have hDp := hD p hp
  have hfp := A.1 p hp
  let I : Nat → (Nat → Nat) → Int32 → Prop := fun s fd' gr' => (∀ q, q < m → q ≠ p → T.1 q = true → ∀ t, t < 4 + D q → fd' (10 * q + t) = T.2 q t) ∧ (∀ t, t < s → fd' (10 * p + t) = mf_nw g T p f t) ∧ (T.1 p = true → ∀ t, s ≤ t → t < 4 + D p → fd' (10 * p + t) = T.2 p t) ∧ (T.1 p = true → gr' = mf_b (mf_ch g T p f s)) ∧ (T.1 p = false → gr' = 1)
  have L : ∀ e s, s + e = 4 + D p → ∀ fd' gr', I s fd' gr' → wY_give_24 post (nI p) (nI (mc_cc g)) (nI (mc_hc g)) (nI m) f_there f_typed f_wrongNumber f_wrongPlace (nI (D p)) f_why f_height f_objects f_line f_begun f_last f_end (e + 1) gr' (nI s) (ar (mc_p g)) (ar (mc_e g)) (ar (mc_o g)) (mc_r g) (ar (mc_f g)) (ar (mc_t g)) (ar (mc_g g)) (ar (mc_k g)) (ar pl) a_heights a_gone a_worst (ar fd') a_maps (ar hi) (ar hf) a_mapped (ar nw) a_sorts a_ints a_classes a_ready := by
    have e4 : (4 : Int32) + nI (D p) = nI (4 + D p) := nI_add 4 _
    intro e
    induction e with
    | zero =>
      intro s hs fd' gr' ⟨i1, i2, i3, i4, i5⟩
      have es : s = 4 + D p := by omega
      subst es
      refine pk_le (4 + D p) (4 + D p) (fun _ => ?_) (fun c => by omega) e4
      refine ⟨vp_in_nI (by omega) (by omega), nm_r (e' := ar (mf_up hf p 1)) (by rw [mi_n1]; exact ar_ui hf 1 (by omega)) ?_⟩
      have AA : mf_A m D (mf_gv g T p (4 + D p) f) (mf_up hf p 1) fd' := by
        refine ⟨fun q hq => ?_, fun q hq kq t ht => ?_⟩
        · show mf_up hf p 1 q = (if q = p then true else T.1 q).toNat
          by_cases e : q = p
          · subst e; rw [up_s, if_pos rfl]; rfl
          · rw [up_n e, if_neg e]; exact A.1 q hq
        · show fd' (10 * q + t) = if q = p ∧ t < 4 + D p then mf_nw g T p f t else T.2 q t
          by_cases e : q = p
          · subst e; rw [if_pos ⟨rfl, ht⟩]; exact i2 t ht
          · rw [if_neg (fun z => e z.1)]
            have kq' : T.1 q = true := by
              have : (if q = p then true else T.1 q) = true := kq
              rw [if_neg e] at this; exact this
            exact i1 q hq e kq' t ht
      have eg : gr' = mf_b (mf_fl g T p (4 + D p) f) := by
        unfold mf_fl
        cases hk : T.1 p with
        | false => rw [i5 hk]; simp [mf_b]
        | true => rw [i4 hk]; simp
      rw [eg]
      exact ⟨ya_nb _, H _ fd' AA⟩
    | succ e ih =>
      intro s hs fd' gr' ⟨i1, i2, i3, i4, i5⟩
      have ei : (10 : Int32) * nI p + nI s = nI (10 * p + s) := by
        show nI 10 * nI p + nI s = _
        rw [pk_mul, nI_add]
      refine pk_le (4 + D p) s (fun c => by omega) (fun _ => ?_) e4
      rw [ei]
      refine ⟨vp_in_nI (by omega) (by omega), nm_r (ar_at _ (by omega)) ⟨vp_in_nI (by omega) (by omega), ?_⟩⟩
      rw [ar_at _ (by omega), ar_at _ (by omega), hfp, hnw s (by omega)]
      have J : ∀ z : Nat, z = mf_nw g T p f s → z ≤ 90 → wY_give_81 post (wY_give_24 post (nI p) (nI (mc_cc g)) (nI (mc_hc g)) (nI m) f_there f_typed f_wrongNumber f_wrongPlace (nI (D p)) f_why f_height f_objects f_line f_begun f_last f_end (e + 1)) (nI p) gr' (nI s) (nI (fd' (10 * p + s))) (nI z) (nI (mc_cc g)) (nI (mc_hc g)) (nI m) f_there f_typed f_wrongNumber f_wrongPlace (nI (D p)) f_why f_height f_objects f_line f_begun f_last f_end (ar (mc_p g)) (ar (mc_e g)) (ar (mc_o g)) (mc_r g) (ar (mc_f g)) (ar (mc_t g)) (ar (mc_g g)) (ar (mc_k g)) (ar pl) a_heights a_gone a_worst (ar fd') a_maps (ar hi) (ar hf) a_mapped (ar nw) a_sorts a_ints a_classes a_ready := by
        intro z ez z90
        have b1 : ∀ q, q < m → q ≠ p → T.1 q = true → ∀ t, t < 4 + D q → mf_up fd' (10 * p + s) z (10 * q + t) = T.2 q t := by
          intro q hq nq kq t ht
          have := hD q hq
          rw [up_n (by omega)]; exact i1 q hq nq kq t ht
        have b2 : ∀ t, t < s + 1 → mf_up fd' (10 * p + s) z (10 * p + t) = mf_nw g T p f t := by
          intro t ht
          by_cases q : t = s
          · subst q; rw [up_s]; exact ez
          · rw [up_n (by omega)]; exact i2 t (by omega)
        have b3 : T.1 p = true → ∀ t, s + 1 ≤ t → t < 4 + D p → mf_up fd' (10 * p + s) z (10 * p + t) = T.2 p t := by
          intro k t h1 h2
          rw [up_n (by omega)]; exact i3 k t (by omega) h2
        have g96 : ∀ b : Bool, (T.1 p = true → b = decide (mf_nw g T p f s ≠ T.2 p s)) → wY_give_96 post (wY_give_24 post (nI p) (nI (mc_cc g)) (nI (mc_hc g)) (nI m) f_there f_typed f_wrongNumber f_wrongPlace (nI (D p)) f_why f_height f_objects f_line f_begun f_last f_end (e + 1)) (nI p) (nI s) (nI z) (mf_b b) gr' (nI (mc_cc g)) (nI (mc_hc g)) (nI m) f_there f_typed f_wrongNumber f_wrongPlace (nI (D p)) f_why f_height f_objects f_line f_begun f_last f_end (ar (mc_p g)) (ar (mc_e g)) (ar (mc_o g)) (mc_r g) (ar (mc_f g)) (ar (mc_t g)) (ar (mc_g g)) (ar (mc_k g)) (ar pl) a_heights a_gone a_worst (ar fd') a_maps (ar hi) (ar hf) a_mapped (ar nw) a_sorts a_ints a_classes a_ready := by
          intro b hb
          refine nm_e ?_
          rw [ei]
          refine ⟨vp_in_nI (by omega) (by omega), nm_r (ar_ui _ _ (by omega)) (nm_r (nI_1 s) (ih (s + 1) (by omega) _ _ ⟨b1, b2, b3, fun k => ?_, fun k => ?_⟩))⟩
          · rw [i4 k, yb_or, hb k]; rfl
          · rw [i5 k]; cases b <;> decide
        refine br_c (fun q => g96 false (fun k => ?_)) (fun q => g96 true (fun k => ?_))
        · have old := i3 k s (Nat.le_refl _) (by omega)
          have t90 := T90 p s
          rw [old] at q
          have : z = T.2 p s := (nI_eq (by omega) (by omega)).mp q
          rw [← ez, this]; simp
        · have old := i3 k s (Nat.le_refl _) (by omega)
          rw [old] at q
          have : z ≠ T.2 p s := fun w => q (by rw [w])
          rw [← ez]; exact (decide_eq_true this).symm
      cases hk : T.1 p with
      | false =>
        refine xb_0 ⟨vp_in_nI (by omega) (by omega), J (f s) ?_ (f90 s)⟩
        unfold mf_nw; rw [hk]; simp
      | true =>
        have old := i3 hk s (Nat.le_refl _) (by omega)
        have o90 : fd' (10 * p + s) ≤ 90 := by rw [old]; exact T90 p s
        refine xb_1 ⟨vp_in_nI (by omega) (by omega), ya_join hG o90 (f90 s) (J _ ?_ (mt_j90 hG.2.2.2.2.2.1 o90 (f90 s)))⟩
        unfold mf_nw; rw [if_pos hk, old]
  have hpl' : ∀ k, k < m → pl k < 1327104 := fun k hk => by rw [hpl k hk]; exact hPl k hk
  unfold wpY_give
  dsimp only
  refine ya_num (by omega) hpl' (by rw [← eq]; exact hPl p hp) (fun j hj ej => ?_) (fun no => absurd ((hpl p hp).trans eq) (no p hp))
  have ejp : j = p := ml_inj inc _ _ hj hp ((hpl j hj).symm.trans (ej.trans eq.symm))
  subst ejp
  refine ⟨vp_in_nI (by omega) (by omega), ?_⟩
  rw [ar_at _ (by omega), hfp]
  cases hk : T.1 j with
  | false => exact xb_0 ⟨4 + D j + 1, L (4 + D j) 0 (by omega) fd 1 ⟨fun q hq _ kq => A.2 q hq kq, fun t ht => by omega, fun k t _ ht => A.2 j hj k t ht, fun k => (by rw [hk] at k; cases k), fun _ => rfl⟩⟩
  | true => exact xb_1 ⟨4 + D j + 1, L (4 + D j) 0 (by omega) fd 0 ⟨fun q hq _ kq => A.2 q hq kq, fun t ht => by omega, fun k t _ ht => A.2 j hj k t ht, fun _ => rfl, fun k => (by rw [hk] at k; cases k)⟩⟩
theorem ya_takeF {post : SY → Prop} {k : Nat} {fd nw D hi : Nat → Nat} (hk : k < 40) (hD : D k ≤ 6) (hhi : hi k = D k) (H : ∀ nw' : Nat → Nat, (∀ s, s < 4 + D k → nw' s = fd (10 * k + s)) → post (f_length, f_handlers, f_many, f_there, f_typed, f_wrongNumber, f_wrongPlace, (nI (D k)), f_why, f_height, f_objects, f_line, f_begun, f_last, f_end, a_parent, a_begin, a_op, a_arg, a_from, a_to, a_target, a_caught, a_places, a_heights, a_gone, a_worst, (ar fd), a_maps, (ar hi), a_known, a_mapped, (ar nw'), a_sorts, a_ints, a_classes, a_ready)) : wpY_take__frames post (f_length, f_handlers, f_many, f_there, f_typed, f_wrongNumber, f_wrongPlace, f_size, f_why, f_height, f_objects, f_line, f_begun, f_last, f_end, a_parent, a_begin, a_op, a_arg, a_from, a_to, a_target, a_caught, a_places, a_heights, a_gone, a_worst, (ar fd), a_maps, (ar hi), a_known, a_mapped, (ar nw), a_sorts, a_ints, a_classes, a_ready) (nI k) := by
  have e4 : (4 : Int32) + nI (D k) = nI (4 + D k) := nI_add 4 _
  have L : ∀ e s, s + e = 4 + D k → ∀ nw : Nat → Nat, (∀ t, t < s → nw t = fd (10 * k + t)) → wY_take__frames_12 post (nI k) f_length f_handlers f_many f_there f_typed f_wrongNumber f_wrongPlace (nI (D k)) f_why f_height f_objects f_line f_begun f_last f_end (e + 1) (nI s) a_parent a_begin a_op a_arg a_from a_to a_target a_caught a_places a_heights a_gone a_worst (ar fd) a_maps (ar hi) a_known a_mapped (ar nw) a_sorts a_ints a_classes a_ready := by
    intro e
    induction e with
    | zero =>
      intro s hs nw hf
      exact pk_le (4 + D k) s (fun _ => H nw (fun t ht => hf t (by omega))) (fun c => by omega) e4
    | succ e ih =>
      intro s hs nw hf
      have ei : (10 : Int32) * nI k + nI s = nI (10 * k + s) := by
        show nI 10 * nI k + nI s = _
        rw [pk_mul, nI_add]
      refine pk_le (4 + D k) s (fun c => by omega) (fun _ => ?_) e4
      rw [ei, ar_at _ (by omega)]
      refine ⟨vp_in_nI (by omega) (by omega), vp_in_nI (by omega) (by omega), nm_r (ar_ui _ _ (by omega)) (nm_r (nI_1 s) (ih (s + 1) (by omega) _ (fun t ht => ?_)))⟩
      by_cases q : t = s
      · subst q; exact up_s
      · rw [up_n q]; exact hf t (by omega)
  unfold wpY_take__frames
  dsimp only
  refine ⟨vp_in_nI (by omega) (by omega), nm_r (e' := nI (D k)) (by rw [ar_at _ (by omega), hhi]) ⟨4 + D k + 1, L (4 + D k) 0 (by omega) nw (fun t ht => by omega)⟩⟩
theorem ya_takeM {post : SY → Prop} {k : Nat} {fd nw D hi : Nat → Nat} (hk : k < 40) (hD : D k ≤ 6) (hhi : hi k = D k) (H : ∀ nw' : Nat → Nat, (∀ s, s < 4 + D k → nw' s = fd (10 * k + s)) → post (f_length, f_handlers, f_many, f_there, f_typed, f_wrongNumber, f_wrongPlace, (nI (D k)), f_why, f_height, f_objects, f_line, f_begun, f_last, f_end, a_parent, a_begin, a_op, a_arg, a_from, a_to, a_target, a_caught, a_places, a_heights, a_gone, a_worst, a_frames, (ar fd), (ar hi), a_known, a_mapped, (ar nw'), a_sorts, a_ints, a_classes, a_ready)) : wpY_take__maps post (f_length, f_handlers, f_many, f_there, f_typed, f_wrongNumber, f_wrongPlace, f_size, f_why, f_height, f_objects, f_line, f_begun, f_last, f_end, a_parent, a_begin, a_op, a_arg, a_from, a_to, a_target, a_caught, a_places, a_heights, a_gone, a_worst, a_frames, (ar fd), (ar hi), a_known, a_mapped, (ar nw), a_sorts, a_ints, a_classes, a_ready) (nI k) := by
  have e4 : (4 : Int32) + nI (D k) = nI (4 + D k) := nI_add 4 _
  have L : ∀ e s, s + e = 4 + D k → ∀ nw : Nat → Nat, (∀ t, t < s → nw t = fd (10 * k + t)) → wY_take__maps_12 post (nI k) f_length f_handlers f_many f_there f_typed f_wrongNumber f_wrongPlace (nI (D k)) f_why f_height f_objects f_line f_begun f_last f_end (e + 1) (nI s) a_parent a_begin a_op a_arg a_from a_to a_target a_caught a_places a_heights a_gone a_worst a_frames (ar fd) (ar hi) a_known a_mapped (ar nw) a_sorts a_ints a_classes a_ready := by
    intro e
    induction e with
    | zero =>
      intro s hs nw hf
      exact pk_le (4 + D k) s (fun _ => H nw (fun t ht => hf t (by omega))) (fun c => by omega) e4
    | succ e ih =>
      intro s hs nw hf
      have ei : (10 : Int32) * nI k + nI s = nI (10 * k + s) := by
        show nI 10 * nI k + nI s = _
        rw [pk_mul, nI_add]
      refine pk_le (4 + D k) s (fun c => by omega) (fun _ => ?_) e4
      rw [ei, ar_at _ (by omega)]
      refine ⟨vp_in_nI (by omega) (by omega), vp_in_nI (by omega) (by omega), nm_r (ar_ui _ _ (by omega)) (nm_r (nI_1 s) (ih (s + 1) (by omega) _ (fun t ht => ?_)))⟩
      by_cases q : t = s
      · subst q; exact up_s
      · rw [up_n q]; exact hf t (by omega)
  unfold wpY_take__maps
  dsimp only
  refine ⟨vp_in_nI (by omega) (by omega), nm_r (e' := nI (D k)) (by rw [ar_at _ (by omega), hhi]) ⟨4 + D k + 1, L (4 + D k) 0 (by omega) nw (fun t ht => by omega)⟩⟩
end
