/-! ===== the reference: is it a method, is it right ===== -/
section
variable {f_length f_handlers f_many f_there f_typed f_wrongNumber f_wrongPlace f_size f_why f_height f_objects f_line f_begun f_last f_end : Int32} {a_parent a_begin a_op a_arg a_from a_to a_target a_caught a_places a_heights a_gone a_worst a_frames a_maps a_high a_known a_mapped a_now a_sorts a_ints a_classes a_ready : Nat → Int32}
variable {g : md_C}
theorem ya_nb : ∀ b : Bool, narrow .boolean (.int (mf_b b)) = .int (mf_b b) := by
  intro b; cases b <;> rfl
theorem ya_im {post : Int32 → Prop} (hG : md_G g) (h1 : md_M g → post 1) (h0 : ¬ md_M g → post 0) : wpY_isMethod post ((nI (mc_cc g)), (nI (mc_hc g)), f_many, f_there, f_typed, f_wrongNumber, f_wrongPlace, f_size, f_why, f_height, f_objects, f_line, f_begun, f_last, f_end, (ar (mc_p g)), (ar (mc_e g)), (ar (mc_o g)), (mc_r g), (ar (mc_f g)), (ar (mc_t g)), (ar (mc_g g)), (ar (mc_k g)), a_places, a_heights, a_gone, a_worst, a_frames, a_maps, a_high, a_known, a_mapped, a_now, a_sorts, a_ints, a_classes, a_ready) := by
  have hcc := hG.1
  have hhc := hG.2.1
  unfold wpY_isMethod
  dsimp only
  have fin : ∀ b : Bool, (b = true ↔ md_M g) → post (mf_b b) := by
    intro b hb
    cases b with
    | true => exact h1 (hb.mp rfl)
    | false => exact h0 (fun M => by have := hb.mpr M; cases this)
  have B : ∀ d x (b : Bool), x + d = mc_hc g → (b = true ↔ 0 < mc_cc g ∧ (∀ i, i < mc_cc g → 12 ≤ mc_o g i → mc_o g i ≤ 15 → mc_a g i < mc_cc g) ∧ (∀ y, y < x → mc_g g y < mc_cc g)) → wY_isMethod_58 post (nI (mc_cc g)) (nI (mc_hc g)) f_many f_there f_typed f_wrongNumber f_wrongPlace f_size f_why f_height f_objects f_line f_begun f_last f_end (ar (mc_p g)) (ar (mc_e g)) (ar (mc_o g)) (mc_r g) (ar (mc_f g)) (ar (mc_t g)) (ar (mc_g g)) (ar (mc_k g)) a_places a_heights a_gone a_worst a_frames a_maps a_high a_known a_mapped a_now a_sorts a_ints a_classes a_ready (d + 1) (mf_b b) (nI x) := by
    intro d
    induction d with
    | zero =>
      intro x b hx hb
      have ex : x = mc_hc g := by omega
      subst ex
      exact pk_le (mc_hc g) (mc_hc g) (fun _ => ⟨ya_nb b, fin b hb⟩) (fun c => by omega)
    | succ d ih =>
      intro x b hx hb
      have hbd := hG.2.2.2.2.1 x
      refine pk_le (mc_hc g) x (fun c => by omega) (fun _ => ⟨vp_in_nI (by omega) (by omega), ?_⟩)
      rw [ar_at _ (by omega)]
      refine pk_lt (mc_g g x) (mc_cc g) (fun q => nm_r (nI_1 x) (ih (x + 1) b (by omega) ?_)) (fun q => nm_r (nI_1 x) (ih (x + 1) false (by omega) ?_))
      · rw [hb]
        constructor
        · rintro ⟨a1, a2, a3⟩
          refine ⟨a1, a2, fun y hy => ?_⟩
          by_cases e : y = x
          · subst e; exact q
          · exact a3 y (by omega)
        · rintro ⟨a1, a2, a3⟩
          exact ⟨a1, a2, fun y hy => a3 y (by omega)⟩
      · constructor
        · intro z; cases z
        · rintro ⟨a1, a2, a3⟩
          have := a3 x (by omega)
          omega
  have A : ∀ d i (b : Bool), i + d = mc_cc g → (b = true ↔ 0 < mc_cc g ∧ (∀ j, j < i → 12 ≤ mc_o g j → mc_o g j ≤ 15 → mc_a g j < mc_cc g)) → wY_isMethod_15 post (nI (mc_cc g)) (nI (mc_hc g)) f_many f_there f_typed f_wrongNumber f_wrongPlace f_size f_why f_height f_objects f_line f_begun f_last f_end (ar (mc_p g)) (ar (mc_e g)) (ar (mc_o g)) (mc_r g) (ar (mc_f g)) (ar (mc_t g)) (ar (mc_g g)) (ar (mc_k g)) a_places a_heights a_gone a_worst a_frames a_maps a_high a_known a_mapped a_now a_sorts a_ints a_classes a_ready (d + 1) (mf_b b) (nI i) := by
    intro d
    induction d with
    | zero =>
      intro i b hi hb
      have ei : i = mc_cc g := by omega
      subst ei
      refine pk_le (mc_cc g) (mc_cc g) (fun _ => ⟨mc_hc g + 1, B (mc_hc g) 0 b (by omega) ?_⟩) (fun c => by omega)
      rw [hb]
      exact ⟨fun z => ⟨z.1, z.2, fun y hy => by omega⟩, fun z => ⟨z.1, z.2.1⟩⟩
    | succ d ih =>
      intro i b hi hb
      have h20 := hG.2.2.1 i
      have stay : (12 ≤ mc_o g i → mc_o g i ≤ 15 → mc_a g i < mc_cc g) → wY_isMethod_15 post (nI (mc_cc g)) (nI (mc_hc g)) f_many f_there f_typed f_wrongNumber f_wrongPlace f_size f_why f_height f_objects f_line f_begun f_last f_end (ar (mc_p g)) (ar (mc_e g)) (ar (mc_o g)) (mc_r g) (ar (mc_f g)) (ar (mc_t g)) (ar (mc_g g)) (ar (mc_k g)) a_places a_heights a_gone a_worst a_frames a_maps a_high a_known a_mapped a_now a_sorts a_ints a_classes a_ready (d + 1) (mf_b b) (nI (i + 1)) := by
        intro q
        refine ih (i + 1) b (by omega) ?_
        rw [hb]
        constructor
        · rintro ⟨a1, a2⟩
          refine ⟨a1, fun j hj => ?_⟩
          by_cases e : j = i
          · subst e; exact q
          · exact a2 j (by omega)
        · rintro ⟨a1, a2⟩
          exact ⟨a1, fun j hj => a2 j (by omega)⟩
      refine pk_le (mc_cc g) i (fun c => by omega) (fun _ => ⟨vp_in_nI (by omega) (by omega), ?_⟩)
      rw [ar_at _ (by omega)]
      refine ya_jp h20 (fun q => xb_1 ⟨vp_in_nI (by omega) (by omega), ?_⟩) (fun q => xb_0 (nm_r (nI_1 i) (stay (fun a b => absurd ⟨a, b⟩ q))))
      obtain ⟨ha, hr⟩ := mn_lim24 hG (i := i) q
      rw [nI_clamp (by omega), hr]
      refine pk_lt (mc_a g i) (mc_cc g) (fun z => nm_r (nI_1 i) (stay (fun _ _ => z))) (fun z => nm_r (nI_1 i) (ih (i + 1) false (by omega) ?_))
      constructor
      · intro y; cases y
      · rintro ⟨a1, a2⟩
        have := a2 i (by omega) q.1 q.2
        omega
  refine pk_le (mc_cc g) 0 (fun c => ⟨mc_cc g + 1, A (mc_cc g) 0 false (by omega) ?_⟩) (fun c => ⟨mc_cc g + 1, A (mc_cc g) 0 true (by omega) ?_⟩)
  · constructor
    · intro z; cases z
    · intro z; omega
  · exact ⟨fun _ => ⟨c, fun j hj => by omega⟩, fun _ => rfl⟩
/-- places a in order, depths b as bits, least wrong numbers c -/
def my_srt (g : md_C) (m : Nat) (a b c : Nat → Nat) : Prop := ml_inc m a ∧ (∀ k, k < m → a k < 1327104 ∧ b k < 128) ∧ (∀ k h, k < m → ((b k).testBit h = true ↔ md_R g (a k) h)) ∧ (∀ k, k < m → (∃ h, md_R g (a k) h) ∧ (∀ h, md_R g (a k) h → md_W g (a k) h = 0 ∨ c k ≤ md_W g (a k) h) ∧ (c k = 9 ∨ ∃ h, md_R g (a k) h ∧ md_W g (a k) h = c k ∧ c k ≠ 0))
theorem ye_right {post : Int32 → SY → Prop} {m : Nat} {a b c : Nat → Nat} (h0 : 0 < m) (hm : m ≤ 41) (S : m ≤ 40 → my_srt g m a b c) (hall : m ≤ 40 → ∀ p h, md_R g p h → ∃ k, k < m ∧ a k = p) (h7 : m = 41 → post 0 (f_length, f_handlers, (nI m), f_there, f_typed, 7, (-1), f_size, f_why, f_height, f_objects, f_line, f_begun, f_last, f_end, a_parent, a_begin, a_op, a_arg, a_from, a_to, a_target, a_caught, (ar a), (ar b), a_gone, (ar c), a_frames, a_maps, a_high, a_known, a_mapped, a_now, a_sorts, a_ints, a_classes, a_ready)) (hr : m ≤ 40 → (∀ p n, ¬ ml_B g p n) → post 1 (f_length, f_handlers, (nI m), f_there, f_typed, (-1), (-1), f_size, f_why, f_height, f_objects, f_line, f_begun, f_last, f_end, a_parent, a_begin, a_op, a_arg, a_from, a_to, a_target, a_caught, (ar a), (ar b), a_gone, (ar c), a_frames, a_maps, a_high, a_known, a_mapped, a_now, a_sorts, a_ints, a_classes, a_ready)) (hw : m ≤ 40 → ∀ p n, ml_F g p n → p < 1327104 → post 0 (f_length, f_handlers, (nI m), f_there, f_typed, (nI n), (nI p), f_size, f_why, f_height, f_objects, f_line, f_begun, f_last, f_end, a_parent, a_begin, a_op, a_arg, a_from, a_to, a_target, a_caught, (ar a), (ar b), a_gone, (ar c), a_frames, a_maps, a_high, a_known, a_mapped, a_now, a_sorts, a_ints, a_classes, a_ready)) : wpY_isRight post (f_length, f_handlers, (nI m), f_there, f_typed, f_wrongNumber, f_wrongPlace, f_size, f_why, f_height, f_objects, f_line, f_begun, f_last, f_end, a_parent, a_begin, a_op, a_arg, a_from, a_to, a_target, a_caught, (ar a), (ar b), a_gone, (ar c), a_frames, a_maps, a_high, a_known, a_mapped, a_now, a_sorts, a_ints, a_classes, a_ready) := by
  unfold wpY_isRight
  dsimp only
  refine pk_le m 40 (fun m40 => ⟨m + 2, ?_⟩) (fun m41 => ⟨1, ?_⟩)
  · obtain ⟨inc, bds, bR, least⟩ := S m40
    have hall := hall m40
    have BK : ∀ p n, ml_B g p n → ∃ k, k < m ∧ a k = p := by
      rintro p n (⟨h, r, _⟩ | ⟨_, _, h, _, _, r, _⟩)
      · exact hall p h r
      · exact hall p h r
    have out : ∀ f k p n, ml_F g p n → p < 1327104 → wY_isRight_26 post f_length f_handlers (nI m) f_there f_typed f_size f_why f_height f_objects f_line f_begun f_last f_end a_parent a_begin a_op a_arg a_from a_to a_target a_caught (ar a) (ar b) a_gone (ar c) a_frames a_maps a_high a_known a_mapped a_now a_sorts a_ints a_classes a_ready (f + 1) (nI k) (nI n) (nI p) := by
      intro f k p n F hp
      have n0 := ml_B0 F.1
      have o : wY_isRight_122 post f_length f_handlers (nI m) f_there f_typed (nI n) (nI p) f_size f_why f_height f_objects f_line f_begun f_last f_end a_parent a_begin a_op a_arg a_from a_to a_target a_caught (ar a) (ar b) a_gone (ar c) a_frames a_maps a_high a_known a_mapped a_now a_sorts a_ints a_classes a_ready := xb_n' (by omega) (hw m40 p n F hp)
      exact br_c (fun _ => o) (fun _ => xb_n' (by omega) o)
    have L : ∀ d k, k + d = m → (∀ j, j < k → ∀ n, ¬ ml_B g (a j) n) → wY_isRight_26 post f_length f_handlers (nI m) f_there f_typed f_size f_why f_height f_objects f_line f_begun f_last f_end a_parent a_begin a_op a_arg a_from a_to a_target a_caught (ar a) (ar b) a_gone (ar c) a_frames a_maps a_high a_known a_mapped a_now a_sorts a_ints a_classes a_ready (d + 2) (nI k) (-1) (-1) := by
      intro d
      induction d with
      | zero =>
        intro k hk no
        refine pk_le m k (fun _ => ?_) (fun c => by omega)
        refine xb_m' (hr m40 (fun p n B => ?_))
        obtain ⟨j, hj, rfl⟩ := BK p n B
        exact no j (by omega) n B
      | succ d ih =>
        intro k hk no
        have hkm : k < m := by omega
        obtain ⟨⟨h', r'⟩, l1, l2⟩ := least k hkm
        obtain ⟨w1, w2, w3, w4⟩ := mw_least l1 l2
        have hb := bds k hkm
        have sev : (nI (b k) &&& (nI (b k) - 1) = 0) ↔ ¬ ∃ h h', h ≠ h' ∧ md_R g (a k) h ∧ md_R g (a k) h' := by
          rw [mb_one _ hb.2]
          constructor
          · rintro q ⟨h, h', ne, x, y⟩
            have x' := (bR k h hkm).mpr x
            have y' := (bR k h' hkm).mpr y
            exact ne (q h (mb_ext hb.2 x') h' (mb_ext hb.2 y') x' y')
          · intro q x hx y hy hbx hby
            exact Classical.byContradiction fun ne => q ⟨x, y, ne, (bR k x hkm).mp hbx, (bR k y hkm).mp hby⟩
        have F : ∀ n, ml_B g (a k) n → ml_F g (a k) n := by
          intro n B
          refine ⟨B, fun q n' hq B' => ?_⟩
          obtain ⟨j, hj, rfl⟩ := BK q n' B'
          have : j < k := by
            apply Classical.byContradiction
            intro c
            rcases Nat.lt_or_eq_of_le (show k ≤ j by omega) with z | z
            · have := inc k j z hj; omega
            · subst z; omega
          exact no j this n' B'
        have nx : (∀ n, ¬ ml_B g (a k) n) → wY_isRight_26 post f_length f_handlers (nI m) f_there f_typed f_size f_why f_height f_objects f_line f_begun f_last f_end a_parent a_begin a_op a_arg a_from a_to a_target a_caught (ar a) (ar b) a_gone (ar c) a_frames a_maps a_high a_known a_mapped a_now a_sorts a_ints a_classes a_ready (d + 2) (nI (k + 1)) (-1) (-1) := by
          intro q
          refine ih (k + 1) (by omega) (fun j hj => ?_)
          by_cases e : j = k
          · subst e; exact q
          · exact no j (by omega)
        have set : ∀ n, n ≤ 6 → ml_B g (a k) n → wY_isRight_91 post (wY_isRight_26 post f_length f_handlers (nI m) f_there f_typed f_size f_why f_height f_objects f_line f_begun f_last f_end a_parent a_begin a_op a_arg a_from a_to a_target a_caught (ar a) (ar b) a_gone (ar c) a_frames a_maps a_high a_known a_mapped a_now a_sorts a_ints a_classes a_ready (d + 2)) (nI k) (nI n) f_length f_handlers (nI m) f_there f_typed (-1) (-1) f_size f_why f_height f_objects f_line f_begun f_last f_end a_parent a_begin a_op a_arg a_from a_to a_target a_caught (ar a) (ar b) a_gone (ar c) a_frames a_maps a_high a_known a_mapped a_now a_sorts a_ints a_classes a_ready := by
          intro n hn B
          refine pk_le n 6 (fun _ => ⟨vp_in_nI (by omega) (by omega), nm_r (ar_at _ (by omega)) (nm_r (nI_1 k) ?_)⟩) (fun c => by omega)
          exact out (d + 1) (k + 1) (a k) n (F n B) hb.1
        have w85 : (c k = 9 → ¬ ∃ h h', h ≠ h' ∧ md_R g (a k) h ∧ md_R g (a k) h') → wY_isRight_85 post (wY_isRight_26 post f_length f_handlers (nI m) f_there f_typed f_size f_why f_height f_objects f_line f_begun f_last f_end a_parent a_begin a_op a_arg a_from a_to a_target a_caught (ar a) (ar b) a_gone (ar c) a_frames a_maps a_high a_known a_mapped a_now a_sorts a_ints a_classes a_ready (d + 2)) (nI k) f_length f_handlers (nI m) f_there f_typed (-1) (-1) f_size f_why f_height f_objects f_line f_begun f_last f_end a_parent a_begin a_op a_arg a_from a_to a_target a_caught (ar a) (ar b) a_gone (ar c) a_frames a_maps a_high a_known a_mapped a_now a_sorts a_ints a_classes a_ready := by
          intro q
          refine ⟨vp_in_nI (by omega) (by omega), ?_⟩
          rw [ar_at _ (by omega)]
          by_cases e9 : c k = 9
          · rw [e9]
            refine pk_le 9 6 (fun z => by omega) (fun _ => nm_r (nI_1 k) (nx (w3 e9 (q e9))))
          · exact set (c k) (by omega) (w1 e9)
        refine pk_le m k (fun c => by omega) (fun _ => xb_m' ⟨vp_in_nI (by omega) (by omega), vp_in_nI (by omega) (by omega), ?_⟩)
        rw [ar_at _ (by omega)]
        refine br_c (fun z => ?_) (fun z => ?_)
        · rw [sev] at z
          exact xb_0 (w85 (fun _ => z))
        · have z' : ∃ h h', h ≠ h' ∧ md_R g (a k) h ∧ md_R g (a k) h' := Classical.byContradiction fun n => z (sev.mpr n)
          refine xb_1 ⟨vp_in_nI (by omega) (by omega), ?_⟩
          rw [ar_at _ (by omega)]
          refine pk_le (c k) 6 (fun q => w85 (fun e => by omega)) (fun q => set 6 (by omega) (w2 (by omega) z'))
    exact L m 0 (by omega) (fun j hj => by omega)
  · have e41 : m = 41 := by omega
    refine pk_le m 0 (fun c => by omega) (fun _ => br_t (by decide) ?_)
    exact br_t (by decide) (h7 e41)
end
