/-! ===== the reference: walking ===== -/
section
variable {f_length f_handlers f_many f_there f_typed f_wrongNumber f_wrongPlace f_size f_why f_height f_objects f_line f_begun f_last f_end : Int32} {a_parent a_begin a_op a_arg a_from a_to a_target a_caught a_places a_heights a_gone a_worst a_frames a_maps a_high a_known a_mapped a_now a_sorts a_ints a_classes a_ready : Nat → Int32}
variable {g : md_C}
/-- m, K, heights, gone, worst, first depths (kept by nobody) -/
abbrev my_S : Type := Nat × (Nat → Nat) × (Nat → Nat) × (Nat → Nat) × (Nat → Nat) × (Nat → Nat)
def ys_m (s : my_S) : Nat := s.1
def ys_K (s : my_S) : Nat → Nat := s.2.1
def ys_w (s : my_S) : Nat → Nat := s.2.2.1
def ys_l (s : my_S) : Nat → Nat := s.2.2.2.1
def ys_f (s : my_S) : Nat → Nat := s.2.2.2.2.1
def ys_D (s : my_S) : Nat → Nat := s.2.2.2.2.2
def my_f (g : md_C) (p x f : Nat) : Prop := (∀ d, x.testBit d = true → md_W g p d = 0 ∨ f ≤ md_W g p d) ∧ (f = 9 ∨ ∃ d, x.testBit d = true ∧ md_W g p d = f ∧ f ≠ 0)
def my_J (g : md_C) (E : Nat → Nat → Prop) (s : my_S) : Prop :=
  me_I g 41 (ys_m s = 41) E (ys_m s) (ys_K s) (ys_w s) (ys_l s) (ys_D s) ∧ (∀ k, k < ys_m s → my_f g (ys_K s k) (ys_l s k) (ys_f s k))
def my_le (s z : my_S) : Prop := ys_m s ≤ ys_m z ∧ (∀ k, k < ys_m s → ys_K z k = ys_K s k ∧ ys_l z k = ys_l s k) ∧ me_mu 41 (ys_m z) (ys_l z) ≤ me_mu 41 (ys_m s) (ys_l s) ∧ (ys_m s = 41 → ys_m z = 41) ∧ (∀ q d, me_at (ys_m s) (ys_K s) (ys_w s) q d → me_at (ys_m z) (ys_K z) (ys_w z) q d)
theorem my_ler (s : my_S) : my_le s s := ⟨Nat.le_refl _, fun _ _ => ⟨rfl, rfl⟩, Nat.le_refl _, fun h => h, fun _ _ h => h⟩
theorem my_let {s z y : my_S} (a : my_le s z) (b : my_le z y) : my_le s y := by
  obtain ⟨a1, a2, a3, a4, a5⟩ := a
  obtain ⟨b1, b2, b3, b4, b5⟩ := b
  refine ⟨by omega, fun k hk => ?_, by omega, fun h => b4 (a4 h), fun q d h => b5 q d (a5 q d h)⟩
  have x := a2 k hk
  have y := b2 k (by omega)
  exact ⟨y.1.trans x.1, y.2.trans x.2⟩
theorem ye_KV {E : Nat → Nat → Prop} {s : my_S} (hG : md_G g) (hM : md_M g) (J : my_J g E s) {k : Nat} (hk : k < ys_m s) : md_V g (ys_K s k) :=
  (md_RV hG hM (J.1.2.2.2.1 k _ hk (J.1.2.2.2.2.2.2.2 k hk))).1
theorem ye_come {post : SY → Prop} {E : Nat → Nat → Prop} {s : my_S} {p h : Nat} (hG : md_G g) (hM : md_M g) (J : my_J g E s) (hE : ∀ k d, ys_m s ≤ k → ¬ E k d) (r : md_R g p h) (H : ∀ z : my_S, my_J g E z → my_le s z → (ys_m z = 41 ∨ me_at (ys_m z) (ys_K z) (ys_w z) p h) → post ((nI (mc_cc g)), (nI (mc_hc g)), (nI (ys_m z)), f_there, f_typed, f_wrongNumber, f_wrongPlace, f_size, f_why, f_height, f_objects, f_line, f_begun, f_last, f_end, (ar (mc_p g)), (ar (mc_e g)), (ar (mc_o g)), (mc_r g), (ar (mc_f g)), (ar (mc_t g)), (ar (mc_g g)), (ar (mc_k g)), (ar (ys_K z)), (ar (ys_w z)), (ar (ys_l z)), (ar (ys_f z)), a_frames, a_maps, a_high, a_known, a_mapped, a_now, a_sorts, a_ints, a_classes, a_ready)) : wpY_come post ((nI (mc_cc g)), (nI (mc_hc g)), (nI (ys_m s)), f_there, f_typed, f_wrongNumber, f_wrongPlace, f_size, f_why, f_height, f_objects, f_line, f_begun, f_last, f_end, (ar (mc_p g)), (ar (mc_e g)), (ar (mc_o g)), (mc_r g), (ar (mc_f g)), (ar (mc_t g)), (ar (mc_g g)), (ar (mc_k g)), (ar (ys_K s)), (ar (ys_w s)), (ar (ys_l s)), (ar (ys_f s)), a_frames, a_maps, a_high, a_known, a_mapped, a_now, a_sorts, a_ints, a_classes, a_ready) (nI p) (nI h) := by
  have hm := J.1.1
  obtain ⟨vp, hh⟩ := md_RV hG hM r
  have hp := md_Vlt hG.1 vp
  have hK : ∀ k, k < ys_m s → ys_K s k < 1327104 := fun k hk => md_Vlt hG.1 (ye_KV hG hM J hk)
  unfold wpY_come
  dsimp only
  refine ya_num hm hK hp (fun j hj e => ?_) (fun hn => ?_)
  · refine xb_n' (by omega) ?_
    unfold wY_come_20
    refine xb_n' (by omega) ⟨vp_in_nI (by omega) (by omega), vp_in_nI (by omega) (by omega), nm_r (e' := ar (mf_up (ys_w s) j (ys_w s j ||| 2 ^ h))) ?_ ?_⟩
    · rw [ar_at _ (by omega), mb_or (by omega), ar_ui _ _ (by omega)]
    · obtain ⟨I', at', up'⟩ := me_old J.1 hj e r hh (w' := mf_up (ys_w s) j (ys_w s j ||| 2 ^ h)) (fun k _ nk => up_n nk) up_s
      exact H (ys_m s, ys_K s, mf_up (ys_w s) j (ys_w s j ||| 2 ^ h), ys_l s, ys_f s, ys_D s) ⟨I', J.2⟩ ⟨Nat.le_refl _, fun _ _ => ⟨rfl, rfl⟩, Nat.le_refl _, fun h => h, up'⟩ (Or.inr at')
  · refine xb_m' ?_
    refine pk_eq (ys_m s) 41 (fun e41 => H s J (my_ler s) (Or.inl e41)) (fun n41 => ?_)
    unfold wY_come_20
    refine xb_m' ?_
    refine nm_r (nI_1 _) ⟨vp_in_nI (by omega) (by omega), nm_r (ar_ui _ _ (by omega)) ⟨vp_in_nI (by omega) (by omega), nm_r (ar_ui _ 0 (by omega)) ⟨vp_in_nI (by omega) (by omega), nm_r (ar_ui _ 0 (by omega)) ⟨vp_in_nI (by omega) (by omega), nm_r (ar_ui _ 9 (by omega)) ?_⟩⟩⟩⟩
    refine ⟨vp_in_nI (by omega) (by omega), vp_in_nI (by omega) (by omega), nm_r (e' := ar (mf_up (mf_up (ys_w s) (ys_m s) 0) (ys_m s) (2 ^ h))) ?_ ?_⟩
    · rw [ar_at _ (by omega), mb_or (by omega), ar_ui _ _ (by omega), up_s, Nat.zero_or]
    · have hs : ∀ k, k < ys_m s → mf_up (ys_K s) (ys_m s) p k = ys_K s k ∧ mf_up (mf_up (ys_w s) (ys_m s) 0) (ys_m s) (2 ^ h) k = ys_w s k ∧ mf_up (ys_l s) (ys_m s) 0 k = ys_l s k ∧ mf_up (ys_D s) (ys_m s) h k = ys_D s k := by
        intro k hk
        rw [up_n (by omega), up_n (by omega), up_n (by omega), up_n (by omega), up_n (by omega)]
        exact ⟨rfl, rfl, rfl, rfl⟩
      have J1 : me_I g 41 (ys_m s + 1 = 41) E (ys_m s) (ys_K s) (ys_w s) (ys_l s) (ys_D s) := me_ov J.1 (fun z => absurd z n41)
      obtain ⟨I', at', up'⟩ := me_new J1 (by omega) hn r hh hs up_s up_s up_s up_s (fun d => hE _ d (Nat.le_refl _))
      refine H (ys_m s + 1, mf_up (ys_K s) (ys_m s) p, mf_up (mf_up (ys_w s) (ys_m s) 0) (ys_m s) (2 ^ h), mf_up (ys_l s) (ys_m s) 0, mf_up (ys_f s) (ys_m s) 9, mf_up (ys_D s) (ys_m s) h) ⟨I', fun k hk => ?_⟩ ⟨Nat.le_succ _, fun k hk => ⟨(hs k hk).1, (hs k hk).2.2.1⟩, me_mu_new (fun k hk => (hs k hk).2.2.1) up_s, fun z => absurd z n41, up'⟩ (Or.inr at')
      show my_f g (mf_up (ys_K s) (ys_m s) p k) (mf_up (ys_l s) (ys_m s) 0 k) (mf_up (ys_f s) (ys_m s) 9 k)
      by_cases e : k = ys_m s
      · subst e; rw [up_s, up_s, up_s]
        refine ⟨fun d hd => ?_, Or.inl rfl⟩
        rw [Nat.zero_testBit] at hd; cases hd
      · have hk' : k < ys_m s + 1 := hk
        rw [up_n e, up_n e, up_n e]; exact J.2 k (by omega)
def my_dn (z : my_S) (C : Nat → Nat → Prop) : Prop := ∀ p h, C p h → ys_m z = 41 ∨ me_at (ys_m z) (ys_K z) (ys_w z) p h
theorem my_dnl {z y : my_S} {C : Nat → Nat → Prop} (a : my_le z y) (h : my_dn z C) : my_dn y C := by
  intro p d c
  rcases h p d c with x | x
  · exact Or.inl (a.2.2.2.1 x)
  · exact Or.inr (a.2.2.2.2 p d x)
theorem ye_109 {post : SY → Prop} {s : my_S} {k d p : Nat} (hG : md_G g) (hM : md_M g) (hp : md_R g p d) (hW : md_W g p d = 0) (hk : k < ys_m s) (hKp : ys_K s k = p) (H : ∀ z : my_S, my_J g (fun _ _ => False) z → my_le s z → post ((nI (mc_cc g)), (nI (mc_hc g)), (nI (ys_m z)), f_there, f_typed, f_wrongNumber, f_wrongPlace, f_size, f_why, f_height, f_objects, f_line, f_begun, f_last, f_end, (ar (mc_p g)), (ar (mc_e g)), (ar (mc_o g)), (mc_r g), (ar (mc_f g)), (ar (mc_t g)), (ar (mc_g g)), (ar (mc_k g)), (ar (ys_K z)), (ar (ys_w z)), (ar (ys_l z)), (ar (ys_f z)), a_frames, a_maps, a_high, a_known, a_mapped, a_now, a_sorts, a_ints, a_classes, a_ready)) : ∀ e x, x + e = mc_hc g → ∀ z : my_S, my_J g (fun k' d' => k' = k ∧ d' = d) z → my_le s z → my_dn z (mx_T g x p d) → wY_goOn_109 post (nI p) (e + 1) (nI x) (nI (mc_cc g)) (nI (mc_hc g)) (nI (ys_m z)) f_there f_typed f_wrongNumber f_wrongPlace f_size f_why f_height f_objects f_line f_begun f_last f_end (ar (mc_p g)) (ar (mc_e g)) (ar (mc_o g)) (mc_r g) (ar (mc_f g)) (ar (mc_t g)) (ar (mc_g g)) (ar (mc_k g)) (ar (ys_K z)) (ar (ys_w z)) (ar (ys_l z)) (ar (ys_f z)) a_frames a_maps a_high a_known a_mapped a_now a_sorts a_ints a_classes a_ready := by
  have vp := (md_RV hG hM hp).1
  have hpl := md_Vlt hG.1 vp
  have hhc := hG.2.1
  intro e
  induction e with
  | zero =>
    intro x hx z J le dn
    refine pk_le (mc_hc g) x (fun _ => ?_) (fun c => by omega)
    refine H z ⟨me_close J.1 (fun _ p' h' t => dn p' h' ?_), J.2⟩ le
    rw [(le.2.1 k hk).1, hKp] at t
    have : x = mc_hc g := by omega
    subst this; exact t
  | succ e ih =>
    intro x hx z J le dn
    refine pk_le (mc_hc g) x (fun c => by omega) (fun _ => ⟨vp_in_nI (by omega) (by omega), ?_⟩)
    rw [ar_at _ (by omega)]
    refine ya_at (by omega) (ya_cov hG (by omega) (by omega) (fun cv => xb_1 ?_) (fun cv => xb_0 ?_))
    · have r' : md_R g (md_at p (mc_g g x)) 1 := md_Rs hp ⟨hW, Or.inr (Or.inr ⟨x, by omega, cv, rfl, rfl⟩)⟩
      refine ye_come (h := 1) hG hM J (fun k' d' h1 h2 => ?_) r' (fun y Jy ley at' => ?_)
      · have := le.1; omega
      · refine nm_r (nI_1 x) (ih (x + 1) (by omega) y Jy (my_let le ley) ?_)
        rintro p' h' (t | t | ⟨i, hi, c1, c2, c3⟩)
        · exact my_dnl ley dn p' h' (Or.inl t)
        · exact my_dnl ley dn p' h' (Or.inr (Or.inl t))
        · by_cases ei : i = x
          · subst ei; rw [c2, c3]; exact at'
          · exact my_dnl ley dn p' h' (Or.inr (Or.inr ⟨i, by omega, c1, c2, c3⟩))
    · refine nm_r (nI_1 x) (ih (x + 1) (by omega) z J le ?_)
      rintro p' h' (t | t | ⟨i, hi, c1, c2, c3⟩)
      · exact dn p' h' (Or.inl t)
      · exact dn p' h' (Or.inr (Or.inl t))
      · by_cases ei : i = x
        · subst ei; exact absurd c1 cv
        · exact dn p' h' (Or.inr (Or.inr ⟨i, by omega, c1, c2, c3⟩))
end
