/-! ===== the reference: lay ===== -/
section
variable {f_length f_handlers f_many f_there f_typed f_wrongNumber f_wrongPlace f_size f_why f_height f_objects f_line f_begun f_last f_end : Int32} {a_parent a_begin a_op a_arg a_from a_to a_target a_caught a_places a_heights a_gone a_worst a_frames a_maps a_high a_known a_mapped a_now a_sorts a_ints a_classes a_ready : Nat → Int32}
variable {g : md_C} {m : Nat} {P D : Nat → Nat}
theorem yl_lay {post : Int32 → SY → Prop} {K w l f fd mp hi hf md nw : Nat → Nat} (hG : md_G g) (YX : md_M g → ¬ ml_Many g → (∀ p n, ¬ ml_B g p n) → ml_Y g m P D)
  (Hbad : ¬ md_M g → post (-1) ((nI (mc_cc g)), (nI (mc_hc g)), f_many, 0, f_typed, (-1), f_wrongPlace, f_size, 0, f_height, f_objects, f_line, f_begun, f_last, f_end, (ar (mc_p g)), (ar (mc_e g)), (ar (mc_o g)), (mc_r g), (ar (mc_f g)), (ar (mc_t g)), (ar (mc_g g)), (ar (mc_k g)), (ar K), (ar w), (ar l), (ar f), (ar fd), (ar mp), (ar hi), (ar hf), (ar md), (ar nw), a_sorts, a_ints, a_classes, a_ready))
  (Hmany : md_M g → ml_Many g → ∀ (mn : Int32) (K w l f : Nat → Nat), post 1 ((nI (mc_cc g)), (nI (mc_hc g)), mn, 0, f_typed, 7, (-1), f_size, 0, f_height, f_objects, f_line, f_begun, f_last, f_end, (ar (mc_p g)), (ar (mc_e g)), (ar (mc_o g)), (mc_r g), (ar (mc_f g)), (ar (mc_t g)), (ar (mc_g g)), (ar (mc_k g)), (ar K), (ar w), (ar l), (ar f), (ar fd), (ar mp), (ar hi), (ar hf), (ar md), (ar nw), a_sorts, a_ints, a_classes, a_ready))
  (Hwrong : md_M g → ¬ ml_Many g → ∀ p n, ml_F g p n → p < 1327104 → ∀ (mn : Int32) (K w l f : Nat → Nat), post 1 ((nI (mc_cc g)), (nI (mc_hc g)), mn, 0, f_typed, (nI n), (nI p), f_size, 0, f_height, f_objects, f_line, f_begun, f_last, f_end, (ar (mc_p g)), (ar (mc_e g)), (ar (mc_o g)), (mc_r g), (ar (mc_f g)), (ar (mc_t g)), (ar (mc_g g)), (ar (mc_k g)), (ar K), (ar w), (ar l), (ar f), (ar fd), (ar mp), (ar hi), (ar hf), (ar md), (ar nw), a_sorts, a_ints, a_classes, a_ready))
  (Hok : md_M g → ¬ ml_Many g → (∀ p n, ¬ ml_B g p n) → ∀ pl hi : Nat → Nat, (∀ k, k < m → pl k = P k) → (∀ k, k < m → hi k = D k) → ∀ md : Nat → Nat, mm_is m (fun k => ∃ j, j < m ∧ mg_hit g P j k) md → ∀ (sz : Int32) (w l f fd mp hf nw : Nat → Nat), (mf_it g m P D 4000 (mf_T0 g) = none → (∀ i, i < 10 * m → mp i = 0) → post 2 ((nI (mc_cc g)), (nI (mc_hc g)), (nI m), 1, 0, (-1), (-1), sz, 0, f_height, f_objects, f_line, f_begun, f_last, f_end, (ar (mc_p g)), (ar (mc_e g)), (ar (mc_o g)), (mc_r g), (ar (mc_f g)), (ar (mc_t g)), (ar (mc_g g)), (ar (mc_k g)), (ar pl), (ar w), (ar l), (ar f), (ar fd), (ar mp), (ar hi), (ar hf), (ar md), (ar nw), a_sorts, a_ints, a_classes, a_ready)) ∧ (∀ T', mf_it g m P D 4000 (mf_T0 g) = some T' → mf_A m D T' hf fd → (∀ i, i < 10 * m → mp i = fd i) → post 0 ((nI (mc_cc g)), (nI (mc_hc g)), (nI m), 1, 1, (-1), (-1), sz, 0, f_height, f_objects, f_line, f_begun, f_last, f_end, (ar (mc_p g)), (ar (mc_e g)), (ar (mc_o g)), (mc_r g), (ar (mc_f g)), (ar (mc_t g)), (ar (mc_g g)), (ar (mc_k g)), (ar pl), (ar w), (ar l), (ar f), (ar fd), (ar mp), (ar hi), (ar hf), (ar md), (ar nw), a_sorts, a_ints, a_classes, a_ready))) :
  wpY_lay post ((nI (mc_cc g)), (nI (mc_hc g)), f_many, f_there, f_typed, f_wrongNumber, f_wrongPlace, f_size, f_why, f_height, f_objects, f_line, f_begun, f_last, f_end, (ar (mc_p g)), (ar (mc_e g)), (ar (mc_o g)), (mc_r g), (ar (mc_f g)), (ar (mc_t g)), (ar (mc_g g)), (ar (mc_k g)), (ar K), (ar w), (ar l), (ar f), (ar fd), (ar mp), (ar hi), (ar hf), (ar md), (ar nw), a_sorts, a_ints, a_classes, a_ready) := by
  unfold wpY_lay
  dsimp only
  refine ya_im hG (fun hM => xb_1 ?_) (fun nM => xb_0 (Hbad nM))
  refine ye_walk hG hM (fun s J cl => ?_)
  have hm41 := J.1.1
  have hKV : ∀ k, k < ys_m s → md_V g (ys_K s k) := fun k hk => ye_KV hG hM J hk
  have h0 : 0 < ys_m s := by
    obtain ⟨j, hj, _⟩ := J.1.2.2.2.2.2.2.1
    omega
  refine ys_sort hm41 J.1.2.2.1 (fun k hk => by have := md_Vlt hG.1 (hKV k hk); omega) (fun a b c inc pm => ?_)
  have fin : ys_m s ≤ 40 → ∀ p h, md_R g p h ↔ me_at (ys_m s) (ys_K s) (ys_w s) p h := fun h40 => me_fin J.1 (by omega) cl
  have bitR : ys_m s ≤ 40 → ∀ j h, j < ys_m s → ((ys_w s j).testBit h = true ↔ md_R g (ys_K s j) h) := by
    intro h40 j h hj
    constructor
    · intro q; exact J.1.2.2.2.1 j h hj q
    · intro q
      obtain ⟨i, hi, ei, hb⟩ := (fin h40 _ h).mp q
      have := J.1.2.2.1 i j hi hj ei
      subst this; exact hb
  have bc : ∀ k, k < ys_m s → ∃ j, j < ys_m s ∧ a k = ys_K s j ∧ b k = ys_w s j ∧ c k = ys_f s j := by
    intro k hk
    obtain ⟨j, hj, e1, e2⟩ := pm.1 k hk
    exact ⟨j, hj, e1, congrArg Prod.fst e2, congrArg Prod.snd e2⟩
  have S : ys_m s ≤ 40 → my_srt g (ys_m s) a b c := by
    intro h40
    refine ⟨inc, fun k hk => ?_, fun k h hk => ?_, fun k hk => ?_⟩
    · obtain ⟨j, hj, e1, e2, e3⟩ := bc k hk
      rw [e1, e2]
      exact ⟨md_Vlt hG.1 (hKV j hj), (J.1.2.1 j hj).1⟩
    · obtain ⟨j, hj, e1, e2, e3⟩ := bc k hk
      rw [e1, e2]; exact bitR h40 j h hj
    · obtain ⟨j, hj, e1, e2, e3⟩ := bc k hk
      rw [e1, e3]
      obtain ⟨q1, q2⟩ := J.2 j hj
      refine ⟨⟨_, J.1.2.2.2.1 j _ hj (J.1.2.2.2.2.2.2.2 j hj)⟩, fun h r => q1 h (cl j h hj ((bitR h40 j h hj).mpr r)), ?_⟩
      rcases q2 with q | ⟨d, q3, q4⟩
      · exact Or.inl q
      · exact Or.inr ⟨d, J.1.2.2.2.1 j d hj (J.1.2.2.2.2.1 j d hj q3), q4⟩
  have hall : ys_m s ≤ 40 → ∀ p h, md_R g p h → ∃ k, k < ys_m s ∧ a k = p := by
    intro h40 p h r
    obtain ⟨j, hj, e1, _⟩ := (fin h40 p h).mp r
    obtain ⟨i, hi, e2, _⟩ := pm.2 j hj
    exact ⟨i, hi, e2.trans e1⟩
  refine ye_right h0 hm41 S hall (fun e41 => xb_0 (Hmany hM ?_ _ _ _ _ _)) (fun h40 noB => xb_1 ?_) (fun h40 p n F hp => xb_0 (Hwrong hM (ml_few h40 (hall h40)) p n F hp _ _ _ _ _))
  · refine ⟨ys_K s, fun i hi => ⟨_, J.1.2.2.2.1 i _ (by omega) (J.1.2.2.2.2.2.2.2 i (by omega))⟩, fun i j hi hj e => J.1.2.2.1 i j (by omega) (by omega) e⟩
  · have notmany : ¬ ml_Many g := ml_few h40 (hall h40)
    have Y := YX hM notmany noB
    have Rk : ∀ k, k < ys_m s → ∃ h, md_R g (a k) h := fun k hk => ((S h40).2.2.2 k hk).1
    obtain ⟨em, eP⟩ := ml_uni inc Y.2.1 (fun i hi => by
      obtain ⟨h, r⟩ := Rk i hi
      obtain ⟨j, hj, e, _⟩ := (Y.2.2.1 _ _).mp r
      exact ⟨j, hj, e⟩) (fun i hi => hall h40 _ _ (mg_R Y hi))
    have hpl : ∀ k, k < m → a k = P k := fun k hk => eP k (by omega)
    have hw : ∀ k, k < m → b k < 128 ∧ ∀ h, (b k).testBit h = true ↔ h = D k := by
      intro k hk
      refine ⟨((S h40).2.1 k (by omega)).2, fun h => ?_⟩
      rw [(S h40).2.2.1 k h (by omega), hpl k hk, Y.2.2.1]
      constructor
      · rintro ⟨i, hi, e1, e2⟩
        have := ml_inj Y.2.1 _ _ hi hk e1
        subst this; exact e2.symm
      · intro e; exact ⟨k, hk, rfl, e.symm⟩
    dsimp only
    rw [em]
    refine ya_highs (D := D) Y.1 hw (fun k hk => mg_D hG hM Y hk) (fun hi1 hhi n => ?_)
    refine pk_le m m (fun _ => ?_) (fun c => by omega)
    refine ya_maps hG hM Y hpl (fun md1 hmd => ?_)
    refine ya_find hG hM Y hpl hhi (fun hn hf1 fd1 nw1 sz => ⟨rfl, by decide, ?_⟩) (fun T' hT hf1 fd1 nw1 sz A => ⟨rfl, by decide, ?_⟩)
    · refine ya_fill (ty := false) Y.1 (fun mp1 _ hz => ?_)
      exact (Hok hM notmany noB a hi1 hpl hhi md1 hmd _ _ _ _ _ _ _ _).1 hn (hz rfl)
    · refine ya_fill (ty := true) Y.1 (fun mp1 ho _ => ?_)
      exact (Hok hM notmany noB a hi1 hpl hhi md1 hmd _ _ _ _ _ _ _ _).2 T' hT A (ho rfl)
end
