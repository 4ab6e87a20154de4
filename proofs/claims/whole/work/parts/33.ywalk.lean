/-! ===== the reference: going on, and the whole walk ===== -/
section
variable {f_length f_handlers f_many f_there f_typed f_wrongNumber f_wrongPlace f_size f_why f_height f_objects f_line f_begun f_last f_end : Int32} {a_parent a_begin a_op a_arg a_from a_to a_target a_caught a_places a_heights a_gone a_worst a_frames a_maps a_high a_known a_mapped a_now a_sorts a_ints a_classes a_ready : Nat → Int32}
variable {g : md_C}
theorem ye_93 {post : SY → Prop} {s : my_S} {k d p : Nat} {x8 : Int32} (hG : md_G g) (hM : md_M g) (hp : md_R g p d) (hW : md_W g p d = 0) (hk : k < ys_m s) (hKp : ys_K s k = p) (H : ∀ z : my_S, my_J g (fun _ _ => False) z → my_le s z → post ((nI (mc_cc g)), (nI (mc_hc g)), (nI (ys_m z)), f_there, f_typed, f_wrongNumber, f_wrongPlace, f_size, f_why, f_height, f_objects, f_line, f_begun, f_last, f_end, (ar (mc_p g)), (ar (mc_e g)), (ar (mc_o g)), (mc_r g), (ar (mc_f g)), (ar (mc_t g)), (ar (mc_g g)), (ar (mc_k g)), (ar (ys_K z)), (ar (ys_w z)), (ar (ys_l z)), (ar (ys_f z)), a_frames, a_maps, a_high, a_known, a_mapped, a_now, a_sorts, a_ints, a_classes, a_ready)) {z : my_S} (J : my_J g (fun k' d' => k' = k ∧ d' = d) z) (le : my_le s z) (dn : my_dn z (fun p' h' => md_gb (mc_o g (p % 24)) ∧ p' = p + 1 ∧ h' = md_th g p d)) (h8 : (md_L g p = none ∧ x8 = -1) ∨ ∃ q, md_L g p = some q ∧ x8 = nI q) : wY_goOn_93 post (nI p) (nI (md_th g p d)) x8 (nI (mc_cc g)) (nI (mc_hc g)) (nI (ys_m z)) f_there f_typed f_wrongNumber f_wrongPlace f_size f_why f_height f_objects f_line f_begun f_last f_end (ar (mc_p g)) (ar (mc_e g)) (ar (mc_o g)) (mc_r g) (ar (mc_f g)) (ar (mc_t g)) (ar (mc_g g)) (ar (mc_k g)) (ar (ys_K z)) (ar (ys_w z)) (ar (ys_l z)) (ar (ys_f z)) a_frames a_maps a_high a_known a_mapped a_now a_sorts a_ints a_classes a_ready := by
  unfold wY_goOn_93
  rcases h8 with ⟨hq, rfl⟩ | ⟨q, hq, rfl⟩
  · refine xb_m ⟨mc_hc g + 1, ye_109 hG hM hp hW hk hKp H (mc_hc g) 0 (by omega) z J le ?_⟩
    rintro p' h' (t | ⟨c1, c2⟩ | ⟨i, hi, _⟩)
    · exact dn p' h' t
    · rw [hq] at c1; cases c1
    · omega
  · have r' : md_R g q (md_th g p d) := md_Rs hp ⟨hW, Or.inr (Or.inl ⟨hq, rfl⟩)⟩
    have vq := (md_RV hG hM r').1
    have := md_Vlt hG.1 vq
    refine xb_n (by omega) (ye_come hG hM J (fun k' d' h1 h2 => ?_) r' (fun y Jy ley at' => ⟨mc_hc g + 1, ?_⟩))
    · have := le.1; omega
    · refine ye_109 hG hM hp hW hk hKp H (mc_hc g) 0 (by omega) y Jy (my_let le ley) ?_
      rintro p' h' (t | ⟨c1, c2⟩ | ⟨i, hi, _⟩)
      · exact my_dnl ley dn p' h' t
      · rw [hq] at c1; cases c1; rw [c2]; exact at'
      · omega
theorem ye_goOn {post : SY → Prop} {s : my_S} {k d : Nat} (hG : md_G g) (hM : md_M g) (J : my_J g (fun _ _ => False) s) (hk : k < ys_m s) (hb : (ys_w s k).testBit d = true) (hnl : ¬ (ys_l s k).testBit d = true) (H : ∀ z : my_S, my_J g (fun _ _ => False) z → me_mu 41 (ys_m z) (ys_l z) < me_mu 41 (ys_m s) (ys_l s) → ys_m s ≤ ys_m z → post ((nI (mc_cc g)), (nI (mc_hc g)), (nI (ys_m z)), f_there, f_typed, f_wrongNumber, f_wrongPlace, f_size, f_why, f_height, f_objects, f_line, f_begun, f_last, f_end, (ar (mc_p g)), (ar (mc_e g)), (ar (mc_o g)), (mc_r g), (ar (mc_f g)), (ar (mc_t g)), (ar (mc_g g)), (ar (mc_k g)), (ar (ys_K z)), (ar (ys_w z)), (ar (ys_l z)), (ar (ys_f z)), a_frames, a_maps, a_high, a_known, a_mapped, a_now, a_sorts, a_ints, a_classes, a_ready)) : wpY_goOn post ((nI (mc_cc g)), (nI (mc_hc g)), (nI (ys_m s)), f_there, f_typed, f_wrongNumber, f_wrongPlace, f_size, f_why, f_height, f_objects, f_line, f_begun, f_last, f_end, (ar (mc_p g)), (ar (mc_e g)), (ar (mc_o g)), (mc_r g), (ar (mc_f g)), (ar (mc_t g)), (ar (mc_g g)), (ar (mc_k g)), (ar (ys_K s)), (ar (ys_w s)), (ar (mf_up (ys_l s) k (ys_l s k ||| 2 ^ d))), (ar (ys_f s)), a_frames, a_maps, a_high, a_known, a_mapped, a_now, a_sorts, a_ints, a_classes, a_ready) (nI k) (nI d) := by
  have hcc := hG.1
  have hm := J.1.1
  have r := J.1.2.2.2.1 k d hk hb
  obtain ⟨vp, hd⟩ := md_RV hG hM r
  have Jf := J.2 k hk
  have JK : ∀ p, p = ys_K s k → md_R g p d → md_V g p → wpY_goOn post ((nI (mc_cc g)), (nI (mc_hc g)), (nI (ys_m s)), f_there, f_typed, f_wrongNumber, f_wrongPlace, f_size, f_why, f_height, f_objects, f_line, f_begun, f_last, f_end, (ar (mc_p g)), (ar (mc_e g)), (ar (mc_o g)), (mc_r g), (ar (mc_f g)), (ar (mc_t g)), (ar (mc_g g)), (ar (mc_k g)), (ar (ys_K s)), (ar (ys_w s)), (ar (mf_up (ys_l s) k (ys_l s k ||| 2 ^ d))), (ar (ys_f s)), a_frames, a_maps, a_high, a_known, a_mapped, a_now, a_sorts, a_ints, a_classes, a_ready) (nI k) (nI d) := by
    intro p ep r vp
    rw [← ep] at Jf
    have hp := md_Vlt hcc vp
    have hi := md_Vi hcc vp
    have h20 := hG.2.2.1 (p % 24)
    have W5 := ml_W5 g p d
    have mk : ∀ f', my_f g p (ys_l s k ||| 2 ^ d) f' → my_J g (fun k' d' => k' = k ∧ d' = d) (ys_m s, ys_K s, ys_w s, mf_up (ys_l s) k (ys_l s k ||| 2 ^ d), mf_up (ys_f s) k f', ys_D s) := by
      intro f' Ff
      refine ⟨me_mark J.1 hk hb (fun k' _ nk => up_n nk) up_s, fun k' hk' => ?_⟩
      show my_f g (ys_K s k') (mf_up (ys_l s) k (ys_l s k ||| 2 ^ d) k') (mf_up (ys_f s) k f' k')
      by_cases e : k' = k
      · subst e; rw [up_s, up_s, ← ep]; exact Ff
      · rw [up_n e, up_n e]; exact J.2 k' hk'
    have mk0 : my_f g p (ys_l s k ||| 2 ^ d) (ys_f s k) → my_J g (fun k' d' => k' = k ∧ d' = d) (ys_m s, ys_K s, ys_w s, mf_up (ys_l s) k (ys_l s k ||| 2 ^ d), ys_f s, ys_D s) := by
      intro Ff
      refine ⟨me_mark J.1 hk hb (fun k' _ nk => up_n nk) up_s, fun k' hk' => ?_⟩
      show my_f g (ys_K s k') (mf_up (ys_l s) k (ys_l s k ||| 2 ^ d) k') (ys_f s k')
      by_cases e : k' = k
      · subst e; rw [up_s, ← ep]; exact Ff
      · rw [up_n e]; exact J.2 k' hk'
    have mu2 : me_mu 41 (ys_m s) (mf_up (ys_l s) k (ys_l s k ||| 2 ^ d)) < me_mu 41 (ys_m s) (ys_l s) := me_mu_mark hm hk (by omega) hnl (fun k' _ nk => up_n nk) up_s
    unfold wpY_goOn
    dsimp only
    refine ⟨vp_in_nI (by omega) (by omega), nm_r (e' := nI p) (by rw [ar_at _ (by omega), ep]) ?_⟩
    refine ya_ins (by omega) ⟨vp_in_nI (by omega) (by omega), nm_r (ar_at _ (by omega)) (ya_wr hG vp hd ?_)⟩
    refine pk_le (md_W g p d) 0 (fun c => ?_) (fun c => ?_)
    · have W0 : md_W g p d = 0 := by omega
      obtain ⟨f1, f2, f3, f4, f5⟩ := md_W0 W0
      have t2 := md_tk2 (mc_o g (p % 24))
      have p2 := md_pu2 (mc_o g (p % 24))
      have J2 := mk0 ⟨fun d' hd' => by
        rcases mb_tb.mp hd' with q | q
        · exact Jf.1 d' q
        · subst q; exact Or.inl W0, by
        rcases Jf.2 with q | ⟨d', q1, q2⟩
        · exact Or.inl q
        · exact Or.inr ⟨d', mb_tb.mpr (Or.inl q1), q2⟩⟩
      have H2 : ∀ z : my_S, my_J g (fun _ _ => False) z → my_le (ys_m s, ys_K s, ys_w s, mf_up (ys_l s) k (ys_l s k ||| 2 ^ d), ys_f s, ys_D s) z → post ((nI (mc_cc g)), (nI (mc_hc g)), (nI (ys_m z)), f_there, f_typed, f_wrongNumber, f_wrongPlace, f_size, f_why, f_height, f_objects, f_line, f_begun, f_last, f_end, (ar (mc_p g)), (ar (mc_e g)), (ar (mc_o g)), (mc_r g), (ar (mc_f g)), (ar (mc_t g)), (ar (mc_g g)), (ar (mc_k g)), (ar (ys_K z)), (ar (ys_w z)), (ar (ys_l z)), (ar (ys_f z)), a_frames, a_maps, a_high, a_known, a_mapped, a_now, a_sorts, a_ints, a_classes, a_ready) := by
        intro z Jz le
        exact H z Jz (Nat.lt_of_le_of_lt le.2.2.1 mu2) le.1
      refine ya_tk h20 (ya_pu h20 (nm_r (e' := nI (md_th g p d)) (mi_add d (by omega) _ (by omega) _ (by omega) (by omega)) ?_))
      have hn0 : mc_o g (p % 24) = 16 → 0 < md_n p := fun o => Nat.pos_of_ne_zero (fun z => f5 ⟨o, z⟩)
      have rest : ∀ x8 : Int32, ((md_L g p = none ∧ x8 = -1) ∨ ∃ q, md_L g p = some q ∧ x8 = nI q) → ∀ z, my_J g (fun k' d' => k' = k ∧ d' = d) z → my_le (ys_m s, ys_K s, ys_w s, mf_up (ys_l s) k (ys_l s k ||| 2 ^ d), ys_f s, ys_D s) z → my_dn z (fun p' h' => md_gb (mc_o g (p % 24)) ∧ p' = p + 1 ∧ h' = md_th g p d) → wY_goOn_93 post (nI p) (nI (md_th g p d)) x8 (nI (mc_cc g)) (nI (mc_hc g)) (nI (ys_m z)) f_there f_typed f_wrongNumber f_wrongPlace f_size f_why f_height f_objects f_line f_begun f_last f_end (ar (mc_p g)) (ar (mc_e g)) (ar (mc_o g)) (mc_r g) (ar (mc_f g)) (ar (mc_t g)) (ar (mc_g g)) (ar (mc_k g)) (ar (ys_K z)) (ar (ys_w z)) (ar (ys_l z)) (ar (ys_f z)) a_frames a_maps a_high a_known a_mapped a_now a_sorts a_ints a_classes a_ready := by
        intro x8 h8 z Jz le dn
        exact ye_93 hG hM r W0 (s := (ys_m s, ys_K s, ys_w s, mf_up (ys_l s) k (ys_l s k ||| 2 ^ d), ys_f s, ys_D s)) hk ep.symm H2 Jz le dn h8
      refine ya_bh hG vp (fun b => ?_) (fun b => ?_)
      · have r' : md_R g (p + 1) (md_th g p d) := md_Rs r ⟨W0, Or.inl ⟨b, rfl, rfl⟩⟩
        have go : ∀ x8 : Int32, ((md_L g p = none ∧ x8 = -1) ∨ ∃ q, md_L g p = some q ∧ x8 = nI q) → wpY_come (fun u => match u with | (f_length, f_handlers, f_many, f_there, f_typed, f_wrongNumber, f_wrongPlace, f_size, f_why, f_height, f_objects, f_line, f_begun, f_last, f_end, a_parent, a_begin, a_op, a_arg, a_from, a_to, a_target, a_caught, a_places, a_heights, a_gone, a_worst, a_frames, a_maps, a_high, a_known, a_mapped, a_now, a_sorts, a_ints, a_classes, a_ready) => wY_goOn_93 post (nI p) (nI (md_th g p d)) x8 f_length f_handlers f_many f_there f_typed f_wrongNumber f_wrongPlace f_size f_why f_height f_objects f_line f_begun f_last f_end a_parent a_begin a_op a_arg a_from a_to a_target a_caught a_places a_heights a_gone a_worst a_frames a_maps a_high a_known a_mapped a_now a_sorts a_ints a_classes a_ready) ((nI (mc_cc g)), (nI (mc_hc g)), (nI (ys_m s)), f_there, f_typed, f_wrongNumber, f_wrongPlace, f_size, f_why, f_height, f_objects, f_line, f_begun, f_last, f_end, (ar (mc_p g)), (ar (mc_e g)), (ar (mc_o g)), (mc_r g), (ar (mc_f g)), (ar (mc_t g)), (ar (mc_g g)), (ar (mc_k g)), (ar (ys_K s)), (ar (ys_w s)), (ar (mf_up (ys_l s) k (ys_l s k ||| 2 ^ d))), (ar (ys_f s)), a_frames, a_maps, a_high, a_known, a_mapped, a_now, a_sorts, a_ints, a_classes, a_ready) (nI (p + 1)) (nI (md_th g p d)) := by
          intro x8 h8
          refine ye_come (s := (ys_m s, ys_K s, ys_w s, mf_up (ys_l s) k (ys_l s k ||| 2 ^ d), ys_f s, ys_D s)) hG hM J2 (fun k' d' h1 h2 => ?_) r' (fun y Jy ley at' => ?_)
          · have h1' : ys_m s ≤ k' := h1
            omega
          · refine rest x8 h8 y Jy ley ?_
            rintro p' h' ⟨_, c2, c3⟩
            rw [c2, c3]; exact at'
        refine ya_led hG vp hn0 (fun q hq => xb_n (by omega) (go _ (Or.inr ⟨q, hq, rfl⟩))) (fun hq => xb_n (by omega) (go _ (Or.inl ⟨hq, rfl⟩)))
      · have dn0 : my_dn (ys_m s, ys_K s, ys_w s, mf_up (ys_l s) k (ys_l s k ||| 2 ^ d), ys_f s, ys_D s) (fun p' h' => md_gb (mc_o g (p % 24)) ∧ p' = p + 1 ∧ h' = md_th g p d) := fun p' h' c => absurd c.1 b
        refine ya_led hG vp hn0 (fun q hq => xb_m ?_) (fun hq => xb_m ?_)
        · exact rest _ (Or.inr ⟨q, hq, rfl⟩) _ J2 (my_ler _) dn0
        · exact rest _ (Or.inl ⟨hq, rfl⟩) _ J2 (my_ler _) dn0
    · have f9 : ys_f s k ≤ 9 := by
        rcases Jf.2 with q | ⟨d', q1, q2, q3⟩
        · omega
        · have := ml_W5 g p d'; omega
      refine ⟨vp_in_nI (by omega) (by omega), ?_⟩
      rw [ar_at _ (by omega)]
      refine pk_le (ys_f s k) (md_W g p d) (fun e => ?_) (fun e => ⟨vp_in_nI (by omega) (by omega), nm_r (ar_ui _ _ (by omega)) ?_⟩)
      · have J2 := mk0 ⟨fun d' hd' => by
          rcases mb_tb.mp hd' with q | q
          · exact Jf.1 d' q
          · subst q; exact Or.inr e, by
          rcases Jf.2 with q | ⟨d', q1, q2⟩
          · exact Or.inl q
          · exact Or.inr ⟨d', mb_tb.mpr (Or.inl q1), q2⟩⟩
        refine H (ys_m s, ys_K s, ys_w s, mf_up (ys_l s) k (ys_l s k ||| 2 ^ d), ys_f s, ys_D s) ⟨me_close J2.1 (fun z => ?_), J2.2⟩ mu2 (Nat.le_refl _)
        have z' : md_W g (ys_K s k) d = 0 := z
        rw [← ep] at z'; omega
      · have J2 := mk (md_W g p d) ⟨fun d' hd' => by
          rcases mb_tb.mp hd' with q | q
          · rcases Jf.1 d' q with x | x
            · exact Or.inl x
            · right; omega
          · subst q; exact Or.inr (Nat.le_refl _), Or.inr ⟨d, mb_tb.mpr (Or.inr rfl), rfl, by omega⟩⟩
        refine H (ys_m s, ys_K s, ys_w s, mf_up (ys_l s) k (ys_l s k ||| 2 ^ d), mf_up (ys_f s) k (md_W g p d), ys_D s) ⟨me_close J2.1 (fun z => ?_), J2.2⟩ mu2 (Nat.le_refl _)
        have z' : md_W g (ys_K s k) d = 0 := z
        rw [← ep] at z'; omega
  exact JK _ rfl r vp
def my_mu (s : my_S) : Nat := me_mu 41 (ys_m s) (ys_l s)
def my_cl (s : my_S) : Prop := ∀ k d, k < ys_m s → (ys_w s k).testBit d = true → (ys_l s k).testBit d = true
def my_Q (s : my_S) (k : Nat) (x1 : Int32) (z : my_S) : Prop := (x1 = 1 ∧ my_mu z < my_mu s) ∨ (x1 = 0 ∧ z = s ∧ ∀ k' d', k' < ys_m z → k' < k → (ys_w z k').testBit d' = true → (ys_l z k').testBit d' = true)
theorem ye_57 {post : SY → Prop} {k : Nat} {x1 : Int32} {J13 : _} {J21 : _} {z : my_S} (hG : md_G g) (hM : md_M g) (J : my_J g (fun _ _ => False) z) (hk : k < ys_m z) (H : ∀ y, my_J g (fun _ _ => False) y → my_mu y < my_mu z → J21 x1 (nI (k + 1)) (nI (mc_cc g)) (nI (mc_hc g)) (nI (ys_m y)) f_there f_typed f_wrongNumber f_wrongPlace f_size f_why f_height f_objects f_line f_begun f_last f_end (ar (mc_p g)) (ar (mc_e g)) (ar (mc_o g)) (mc_r g) (ar (mc_f g)) (ar (mc_t g)) (ar (mc_g g)) (ar (mc_k g)) (ar (ys_K y)) (ar (ys_w y)) (ar (ys_l y)) (ar (ys_f y)) a_frames a_maps a_high a_known a_mapped a_now a_sorts a_ints a_classes a_ready) : ∀ e d, d + e = 7 → (∃ d', d ≤ d' ∧ (mb_dif (ys_w z k) (ys_l z k)).testBit d' = true) → wY_walk_57 post J13 J21 x1 (nI k) (nI (mb_dif (ys_w z k) (ys_l z k))) (nI (mc_cc g)) (nI (mc_hc g)) (nI (ys_m z)) f_there f_typed f_wrongNumber f_wrongPlace f_size f_why f_height f_objects f_line f_begun f_last f_end (ar (mc_p g)) (ar (mc_e g)) (ar (mc_o g)) (mc_r g) (ar (mc_f g)) (ar (mc_t g)) (ar (mc_g g)) (ar (mc_k g)) (ar (ys_K z)) (ar (ys_w z)) (ar (ys_l z)) (ar (ys_f z)) a_frames a_maps a_high a_known a_mapped a_now a_sorts a_ints a_classes a_ready (e + 1) (nI d) := by
  have hm := J.1.1
  have hw := J.1.2.1 k hk
  have hlt : mb_dif (ys_w z k) (ys_l z k) < 128 := mb_difL hw.1
  intro e
  induction e with
  | zero =>
    rintro d hd ⟨d', h1, h2⟩
    have := mb_ext hlt h2
    omega
  | succ e ih =>
    rintro d hd ⟨d', h1, h2⟩
    refine br_c (fun c => ?_) (fun c => ?_)
    · rw [mb_shb _ hlt d (by omega)] at c
      refine nm_r (nI_1 d) (ih (d + 1) (by omega) ⟨d', ?_, h2⟩)
      have : d' ≠ d := fun q => c (by rw [← q]; exact h2)
      omega
    · rw [mb_shb _ hlt d (by omega)] at c
      have c1 : (mb_dif (ys_w z k) (ys_l z k)).testBit d = true := Classical.byContradiction c
      obtain ⟨c2, c3⟩ := (mb_difT (by omega)).mp c1
      refine ⟨vp_in_nI (by omega) (by omega), vp_in_nI (by omega) (by omega), nm_r (e' := ar (mf_up (ys_l z) k (ys_l z k ||| 2 ^ d))) ?_ ?_⟩
      · rw [ar_at _ (by omega), mb_or (by omega), ar_ui _ _ (by omega)]
      · exact ye_goOn hG hM J hk c2 c3 (fun y Jy mu le => nm_r (nI_1 k) (H y Jy mu))
theorem ye_21 {post : SY → Prop} {s : my_S} {J13 : _} (hG : md_G g) (hM : md_M g) (H : ∀ x1 z, my_J g (fun _ _ => False) z → (x1 = 1 ∧ my_mu z < my_mu s) ∨ (x1 = 0 ∧ z = s ∧ my_cl z) → J13 x1 (nI (mc_cc g)) (nI (mc_hc g)) (nI (ys_m z)) f_there f_typed f_wrongNumber f_wrongPlace f_size f_why f_height f_objects f_line f_begun f_last f_end (ar (mc_p g)) (ar (mc_e g)) (ar (mc_o g)) (mc_r g) (ar (mc_f g)) (ar (mc_t g)) (ar (mc_g g)) (ar (mc_k g)) (ar (ys_K z)) (ar (ys_w z)) (ar (ys_l z)) (ar (ys_f z)) a_frames a_maps a_high a_known a_mapped a_now a_sorts a_ints a_classes a_ready) : ∀ e k, k + e = 41 → ∀ x1 z, my_J g (fun _ _ => False) z → my_Q s k x1 z → wY_walk_21 post J13 (e + 1) x1 (nI k) (nI (mc_cc g)) (nI (mc_hc g)) (nI (ys_m z)) f_there f_typed f_wrongNumber f_wrongPlace f_size f_why f_height f_objects f_line f_begun f_last f_end (ar (mc_p g)) (ar (mc_e g)) (ar (mc_o g)) (mc_r g) (ar (mc_f g)) (ar (mc_t g)) (ar (mc_g g)) (ar (mc_k g)) (ar (ys_K z)) (ar (ys_w z)) (ar (ys_l z)) (ar (ys_f z)) a_frames a_maps a_high a_known a_mapped a_now a_sorts a_ints a_classes a_ready := by
  have fin : ∀ k x1 z, ys_m z ≤ k → my_Q s k x1 z → (x1 = 1 ∧ my_mu z < my_mu s) ∨ (x1 = 0 ∧ z = s ∧ my_cl z) := by
    intro k x1 z hk Q
    rcases Q with ⟨a, b⟩ | ⟨a, b, c⟩
    · exact Or.inl ⟨a, b⟩
    · exact Or.inr ⟨a, b, fun k' d' hk' hb => c k' d' hk' (by omega) hb⟩
  intro e
  induction e with
  | zero =>
    intro k hk x1 z J Q
    have hm := J.1.1
    exact pk_le (ys_m z) k (fun _ => H x1 z J (fin k x1 z (by omega) Q)) (fun c => by omega)
  | succ e ih =>
    intro k hk x1 z J Q
    have hm := J.1.1
    refine pk_le (ys_m z) k (fun c => H x1 z J (fin k x1 z c Q)) (fun c => ⟨vp_in_nI (by omega) (by omega), vp_in_nI (by omega) (by omega), ?_⟩)
    have hw := J.1.2.1 k c
    have hlt : mb_dif (ys_w z k) (ys_l z k) < 128 := mb_difL hw.1
    refine nm_r (e' := nI (mb_dif (ys_w z k) (ys_l z k))) (by rw [ar_at _ (by omega), ar_at _ (by omega), mb_difI]) ?_
    refine br_c (fun d => ?_) (fun d => ⟨8, ?_⟩)
    · rw [mb_z _ hlt] at d
      refine nm_r (nI_1 k) (ih (k + 1) (by omega) x1 z J ?_)
      rcases Q with ⟨a, b⟩ | ⟨a, b, f⟩
      · exact Or.inl ⟨a, b⟩
      · refine Or.inr ⟨a, b, fun k' d' hk' o hb => ?_⟩
        by_cases q : k' = k
        · subst q
          have hd7 := mb_ext hw.1 hb
          exact Classical.byContradiction (fun n => d d' hd7 ((mb_difT hd7).mpr ⟨hb, n⟩))
        · exact f k' d' hk' (by omega) hb
    · rw [mb_z _ hlt] at d
      have ex : ∃ d', 0 ≤ d' ∧ (mb_dif (ys_w z k) (ys_l z k)).testBit d' = true := by
        apply Classical.byContradiction
        intro n
        exact d (fun d' _ hb => n ⟨d', Nat.zero_le _, hb⟩)
      refine ye_57 hG hM J c (fun y Jy mu => ih (k + 1) (by omega) 1 y Jy (Or.inl ⟨rfl, ?_⟩)) 7 0 rfl ex
      rcases Q with ⟨a, b⟩ | ⟨a, b, f⟩
      · omega
      · rw [b] at mu; exact mu
theorem ye_13 {post : SY → Prop} (hG : md_G g) (hM : md_M g) (H : ∀ z, my_J g (fun _ _ => False) z → my_cl z → post ((nI (mc_cc g)), (nI (mc_hc g)), (nI (ys_m z)), f_there, f_typed, f_wrongNumber, f_wrongPlace, f_size, f_why, f_height, f_objects, f_line, f_begun, f_last, f_end, (ar (mc_p g)), (ar (mc_e g)), (ar (mc_o g)), (mc_r g), (ar (mc_f g)), (ar (mc_t g)), (ar (mc_g g)), (ar (mc_k g)), (ar (ys_K z)), (ar (ys_w z)), (ar (ys_l z)), (ar (ys_f z)), a_frames, a_maps, a_high, a_known, a_mapped, a_now, a_sorts, a_ints, a_classes, a_ready)) : ∀ n x1 z, my_J g (fun _ _ => False) z → (x1 = 1 ∧ my_mu z + 2 ≤ n) ∨ (x1 = 0 ∧ my_cl z ∧ 1 ≤ n) → wY_walk_13 post n x1 (nI (mc_cc g)) (nI (mc_hc g)) (nI (ys_m z)) f_there f_typed f_wrongNumber f_wrongPlace f_size f_why f_height f_objects f_line f_begun f_last f_end (ar (mc_p g)) (ar (mc_e g)) (ar (mc_o g)) (mc_r g) (ar (mc_f g)) (ar (mc_t g)) (ar (mc_g g)) (ar (mc_k g)) (ar (ys_K z)) (ar (ys_w z)) (ar (ys_l z)) (ar (ys_f z)) a_frames a_maps a_high a_known a_mapped a_now a_sorts a_ints a_classes a_ready := by
  intro n
  induction n with
  | zero => intro x1 z J h; rcases h with ⟨_, h⟩ | ⟨_, _, h⟩ <;> omega
  | succ n ih =>
    intro x1 z J h
    rcases h with ⟨rfl, h⟩ | ⟨rfl, hc, h⟩
    · refine xb_1 ⟨42, ?_⟩
      refine ye_21 (s := z) hG hM (fun x1' z' J' h' => ih x1' z' J' ?_) 41 0 rfl 0 z J (Or.inr ⟨rfl, rfl, fun k' d' hk' o => by omega⟩)
      rcases h' with ⟨a, b⟩ | ⟨a, b, c⟩
      · exact Or.inl ⟨a, by omega⟩
      · exact Or.inr ⟨a, c, by omega⟩
    · exact xb_0 (H z J hc)
theorem ye_walk {post : SY → Prop} {K w l f : Nat → Nat} (hG : md_G g) (hM : md_M g) (H : ∀ z, my_J g (fun _ _ => False) z → my_cl z → post ((nI (mc_cc g)), (nI (mc_hc g)), (nI (ys_m z)), f_there, f_typed, f_wrongNumber, f_wrongPlace, f_size, f_why, f_height, f_objects, f_line, f_begun, f_last, f_end, (ar (mc_p g)), (ar (mc_e g)), (ar (mc_o g)), (mc_r g), (ar (mc_f g)), (ar (mc_t g)), (ar (mc_g g)), (ar (mc_k g)), (ar (ys_K z)), (ar (ys_w z)), (ar (ys_l z)), (ar (ys_f z)), a_frames, a_maps, a_high, a_known, a_mapped, a_now, a_sorts, a_ints, a_classes, a_ready)) : wpY_walk post ((nI (mc_cc g)), (nI (mc_hc g)), f_many, f_there, f_typed, f_wrongNumber, f_wrongPlace, f_size, f_why, f_height, f_objects, f_line, f_begun, f_last, f_end, (ar (mc_p g)), (ar (mc_e g)), (ar (mc_o g)), (mc_r g), (ar (mc_f g)), (ar (mc_t g)), (ar (mc_g g)), (ar (mc_k g)), (ar K), (ar w), (ar l), (ar f), a_frames, a_maps, a_high, a_known, a_mapped, a_now, a_sorts, a_ints, a_classes, a_ready) := by
  unfold wpY_walk
  dsimp only
  unfold wpY_come
  dsimp only
  refine ya_number (m := 0) (K := K) (by omega) (fun k hk => by omega) (fun _ => xb_m' ?_)
  refine pk_eq 0 41 (fun c => by omega) (fun _ => ?_)
  unfold wY_come_20
  refine xb_m' ?_
  refine nm_r (nI_1 0) ⟨vp_in_nI (n := 0) (by omega) (by omega), nm_r (ar_ui K (k := 0) 0 (by omega)) ⟨vp_in_nI (n := 0) (by omega) (by omega), nm_r (ar_ui w (k := 0) 0 (by omega)) ⟨vp_in_nI (n := 0) (by omega) (by omega), nm_r (ar_ui l (k := 0) 0 (by omega)) ⟨vp_in_nI (n := 0) (by omega) (by omega), nm_r (ar_ui f (k := 0) 9 (by omega)) ?_⟩⟩⟩⟩
  refine ⟨vp_in_nI (n := 0) (by omega) (by omega), vp_in_nI (n := 0) (by omega) (by omega), nm_r (e' := ar (mf_up (mf_up w 0 0) 0 1)) ?_ ⟨600, ?_⟩⟩
  · have := mb_or (w := mf_up w 0 0 0) (d := 0) (by omega)
    rw [up_s] at this
    have e2 : ar (mf_up w 0 0) (0 : Int32).toNatClampNeg = nI 0 := rfl
    show upd (ar (mf_up w 0 0)) (nI 0).toNatClampNeg (ar (mf_up w 0 0) (0 : Int32).toNatClampNeg ||| (1 : Int32) <<< (nI 0 &&& 31)) = _
    rw [e2, this]
    exact ar_ui (mf_up w 0 0) (k := 0) 1 (by omega)
  · refine ye_13 hG hM H 600 1 (1, mf_up K 0 0, mf_up (mf_up w 0 0) 0 1, mf_up l 0 0, mf_up f 0 9, fun _ => 0) ?_ (Or.inl ⟨rfl, ?_⟩)
    · have z : ∀ k, k < 1 → k = 0 := fun k hk => by omega
      have b1 : ∀ d, (1 : Nat).testBit d = true → d = 0 := by
        intro d hd
        have : (2 ^ 0).testBit d = true := hd
        rw [Nat.testBit_two_pow] at this
        simp at this; omega
      refine ⟨⟨by show 1 ≤ 41; omega, fun k hk => ?_, fun i j hi hj _ => ?_, fun k d hk hb => ?_, fun k d hk hb => ?_, fun k d hk hb => ?_, ?_, fun k hk => ?_⟩, fun k hk => ?_⟩
      · cases z k hk
        exact ⟨by show (1 : Nat) < 128; omega, by show (0 : Nat) < 128; omega⟩
      · have := z i hi; have := z j hj; omega
      · cases z k hk
        cases b1 d hb
        exact md_R0 g
      · cases z k hk
        have hb' : (0 : Nat).testBit d = true := hb
        rw [Nat.zero_testBit] at hb'; cases hb'
      · cases z k hk
        have hb' : (0 : Nat).testBit d = true := hb
        rw [Nat.zero_testBit] at hb'; cases hb'
      · exact ⟨0, by show 0 < 1; omega, rfl, by show (1 : Nat).testBit 0 = true; decide⟩
      · cases z k hk; show (1 : Nat).testBit 0 = true; decide
      · cases z k hk
        refine ⟨fun d hd => ?_, Or.inl rfl⟩
        have hb' : (0 : Nat).testBit d = true := hd
        rw [Nat.zero_testBit] at hb'; cases hb'
    · have := me_mu_b 41 1 (mf_up l 0 0)
      show me_mu 41 1 (mf_up l 0 0) + 2 ≤ 600; omega
end
