/-! ===== the reference: the least number that is wrong ===== -/
section
variable {f_length f_handlers f_many f_there f_typed f_wrongNumber f_wrongPlace f_size f_why f_height f_objects f_line f_begun f_last f_end : Int32} {a_parent a_begin a_op a_arg a_from a_to a_target a_caught a_places a_heights a_gone a_worst a_frames a_maps a_high a_known a_mapped a_now a_sorts a_ints a_classes a_ready : Nat → Int32}
variable {g : md_C} {post : Int32 → Prop}
theorem yw_177 {p h : Nat} (h20 : mc_o g (p % 24) < 20) (hn : md_n p ≤ 3) (f1 : ¬ md_f1 g p) (f2 : ¬ md_f2 g p h) (f3 : ¬ md_f3 g p h) (f4 : ¬ md_f4 g p) (H : post (nI (md_W g p h))) : wY_wrongAt_177 post (nI (mc_o g (p % 24))) (nI (md_n p)) f_length f_handlers f_many f_there f_typed f_wrongNumber f_wrongPlace f_size f_why f_height f_objects f_line f_begun f_last f_end a_parent a_begin a_op a_arg a_from a_to a_target a_caught a_places a_heights a_gone a_worst a_frames a_maps a_high a_known a_mapped a_now a_sorts a_ints a_classes a_ready := by
  unfold wY_wrongAt_177
  refine pk_eq (mc_o g (p % 24)) 16 (fun c1 => pk_eq (md_n p) 0 (fun c2 => ?_) (fun c2 => ?_)) (fun c1 => ?_)
  · rw [mw_5 f1 f2 f3 f4 ⟨c1, c2⟩] at H; exact H
  · rw [mw_0 f1 f2 f3 f4 (fun z => c2 z.2)] at H; exact H
  · rw [mw_0 f1 f2 f3 f4 (fun z => c1 z.1)] at H; exact H
theorem yw_81 {p h : Nat} (hp : p < 1327104) (h20 : mc_o g (p % 24) < 20) (hn : md_n p ≤ 3) (hh : h ≤ 6) (f1 : ¬ md_f1 g p) (H : post (nI (md_W g p h))) : wY_wrongAt_81 post (nI p) (nI h) (nI (p % 24)) (nI (mc_o g (p % 24))) (nI (md_n p)) f_length f_handlers f_many f_there f_typed f_wrongNumber f_wrongPlace f_size f_why f_height f_objects f_line f_begun f_last f_end a_parent a_begin a_op a_arg a_from a_to a_target a_caught a_places a_heights a_gone a_worst a_frames a_maps a_high a_known a_mapped a_now a_sorts a_ints a_classes a_ready := by
  have t2 := md_tk2 (mc_o g (p % 24))
  have p2 := md_pu2 (mc_o g (p % 24))
  have hc24 : ∀ j, md_c p j < 24 := by
    intro j; unfold md_c; split
    · omega
    · split <;> omega
  unfold wY_wrongAt_81
  refine ya_tk h20 (pk_le (md_tk (mc_o g (p % 24))) h (fun c => ya_tk h20 (ya_pu h20 ?_)) (fun c => ?_))
  · have f2 : ¬ md_f2 g p h := by unfold md_f2; omega
    have I := mi_le6 h (by omega) _ (show md_tk (mc_o g (p % 24)) < 3 by omega) _ (show md_pu (mc_o g (p % 24)) < 3 by omega)
    refine br_c (fun d => ?_) (fun d => ?_)
    · rw [I] at d
      have f3 : ¬ md_f3 g p h := by unfold md_f3; omega
      -- x7 is 1 exactly if one of the calls so far, or three calls
      have L : ∀ e k (b : Bool), k + e = md_n p → (b = true ↔ md_n p = 3 ∨ ∃ j, j < k ∧ md_c p j = p % 24) → wY_wrongAt_128 post (nI p) (nI (p % 24)) (nI (mc_o g (p % 24))) (nI (md_n p)) f_length f_handlers f_many f_there f_typed f_wrongNumber f_wrongPlace f_size f_why f_height f_objects f_line f_begun f_last f_end a_parent a_begin a_op a_arg a_from a_to a_target a_caught a_places a_heights a_gone a_worst a_frames a_maps a_high a_known a_mapped a_now a_sorts a_ints a_classes a_ready (e + 1) (mf_b b) (nI k) := by
        intro e
        induction e with
        | zero =>
          intro k b hk hb
          have ek : k = md_n p := by omega
          subst ek
          have hb4 : mc_o g (p % 24) = 15 → (b = true ↔ md_f4 g p) := by
            intro o
            rw [hb]
            constructor
            · rintro (z | ⟨j, hj, ej⟩)
              · exact ⟨o, Or.inl z⟩
              · have : j = 0 ∨ j = 1 ∨ j = 2 := by omega
                rcases this with rfl | rfl | rfl
                · exact ⟨o, Or.inr (Or.inl ⟨by omega, ej⟩)⟩
                · exact ⟨o, Or.inr (Or.inr (Or.inl ⟨by omega, ej⟩))⟩
                · exact ⟨o, Or.inr (Or.inr (Or.inr ⟨by omega, ej⟩))⟩
            · rintro ⟨_, z | ⟨z1, z2⟩ | ⟨z1, z2⟩ | ⟨z1, z2⟩⟩
              · exact Or.inl z
              · exact Or.inr ⟨0, by omega, z2⟩
              · exact Or.inr ⟨1, by omega, z2⟩
              · exact Or.inr ⟨2, by omega, z2⟩
          refine pk_le (md_n p) (md_n p) (fun _ => ?_) (fun z => by omega)
          refine pk_eq (mc_o g (p % 24)) 15 (fun o => ?_) (fun o => yw_177 h20 hn f1 f2 f3 (fun z => o z.1) H)
          cases b with
          | true =>
            refine xb_1 ?_
            rw [mw_4 f1 f2 f3 ((hb4 o).mp rfl)] at H; exact H
          | false =>
            refine xb_0 (yw_177 h20 hn f1 f2 f3 (fun z => ?_) H)
            have := (hb4 o).mpr z
            cases this
        | succ e ih =>
          intro k b hk hb
          refine pk_le (md_n p) k (fun z => by omega) (fun _ => ya_callOf (by omega) (by omega) ?_)
          refine pk_eq (md_c p k) (p % 24) (fun z => ?_) (fun z => ?_) rfl rfl (by have := hc24 k; omega) (by omega)
          · refine nm_r (e' := mf_b true) (by cases b <;> decide) (nm_r (nI_1 k) (ih (k + 1) true (by omega) ?_))
            constructor
            · intro _; exact Or.inr ⟨k, by omega, z⟩
            · intro _; rfl
          · refine nm_r (e' := mf_b b) (by cases b <;> decide) (nm_r (nI_1 k) (ih (k + 1) b (by omega) ?_))
            rw [hb]
            constructor
            · rintro (y | ⟨j, hj, ej⟩)
              · exact Or.inl y
              · exact Or.inr ⟨j, by omega, ej⟩
            · rintro (y | ⟨j, hj, ej⟩)
              · exact Or.inl y
              · by_cases ejk : j = k
                · subst ejk; exact absurd ej z
                · exact Or.inr ⟨j, by omega, ej⟩
      refine pk_eq (md_n p) 3 (fun c3 => ⟨md_n p + 1, ?_⟩) (fun c3 => ⟨md_n p + 1, ?_⟩)
      · exact L (md_n p) 0 true (by omega) ⟨fun _ => Or.inl c3, fun _ => rfl⟩
      · refine L (md_n p) 0 false (by omega) ⟨fun z => (by cases z), ?_⟩
        rintro (z | ⟨j, hj, _⟩)
        · exact absurd z c3
        · omega
    · rw [I] at d
      rw [mw_3 f1 f2 (by unfold md_f3; omega)] at H; exact H
  · rw [mw_2 f1 c] at H; exact H
theorem ya_wr {p h : Nat} (hG : md_G g) (hV : md_V g p) (hh : h ≤ 6) (H : post (nI (md_W g p h))) : wpY_wrongAt post ((nI (mc_cc g)), (nI (mc_hc g)), f_many, f_there, f_typed, f_wrongNumber, f_wrongPlace, f_size, f_why, f_height, f_objects, f_line, f_begun, f_last, f_end, (ar (mc_p g)), (ar (mc_e g)), (ar (mc_o g)), (mc_r g), (ar (mc_f g)), (ar (mc_t g)), (ar (mc_g g)), (ar (mc_k g)), a_places, a_heights, a_gone, a_worst, a_frames, a_maps, a_high, a_known, a_mapped, a_now, a_sorts, a_ints, a_classes, a_ready) (nI p) (nI h) := by
  have hcc := hG.1
  have hp := md_Vlt hcc hV
  have hi := md_Vi hcc hV
  have h20 := hG.2.2.1 (p % 24)
  have hn := md_Vn hcc hV
  unfold wpY_wrongAt
  dsimp only
  refine ya_ins (by omega) ⟨vp_in_nI (by omega) (by omega), nm_r (ar_at _ (by omega)) (ya_calls (by omega) ?_)⟩
  have S : ¬ (md_gb (mc_o g (p % 24)) ∧ p % 24 + 1 = mc_cc g) → wY_wrongAt_50 post (nI p) (nI h) (nI (p % 24)) (nI (mc_o g (p % 24))) (nI (md_n p)) (nI (mc_cc g)) (nI (mc_hc g)) f_many f_there f_typed f_wrongNumber f_wrongPlace f_size f_why f_height f_objects f_line f_begun f_last f_end (ar (mc_p g)) (ar (mc_e g)) (ar (mc_o g)) (mc_r g) (ar (mc_f g)) (ar (mc_t g)) (ar (mc_g g)) (ar (mc_k g)) a_places a_heights a_gone a_worst a_frames a_maps a_high a_known a_mapped a_now a_sorts a_ints a_classes a_ready := by
    intro nb
    unfold wY_wrongAt_50
    refine pk_eq (mc_o g (p % 24)) 16 (fun c => pk_le (md_n p) 0 (fun d => ?_) (fun d => ?_)) (fun c => ?_)
    · refine yw_81 hp h20 hn hh ?_ H
      rintro (z | ⟨_, z, _⟩)
      · exact nb z
      · omega
    · have e1 : nI (md_n p) - 1 = nI (md_n p - 1) := pk_sub (b := 1) d
      rw [e1]
      refine ya_callOf (by omega) (by omega) ?_
      rw [nI_1]
      obtain ⟨v, e, _⟩ := md_Vcl hcc hV d
      have hlt := md_Vi hcc v
      refine pk_eq (md_c p (md_n p - 1) + 1) (mc_cc g) (fun z => ?_) (fun z => ?_)
      · rw [mw_1 (Or.inr ⟨c, d, z⟩)] at H; exact H
      · refine yw_81 hp h20 hn hh ?_ H
        rintro (y | ⟨_, _, y⟩)
        · exact nb y
        · exact z y
    · refine yw_81 hp h20 hn hh ?_ H
      rintro (z | ⟨z, _, _⟩)
      · exact nb z
      · exact c z
  rw [nI_1]
  refine pk_eq (p % 24 + 1) (mc_cc g) (fun c => ?_) (fun c => ?_)
  · unfold wY_wrongAt_34
    refine xb_1 (ya_gb h20 (fun b => xb_1 ?_) (fun b => xb_0 (S (fun z => b z.1))))
    rw [mw_1 (Or.inl ⟨b, c⟩)] at H; exact H
  · unfold wY_wrongAt_34
    exact xb_0 (S (fun z => c z.2))
end
