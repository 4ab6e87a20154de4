/-! ===== the class: leading on, and all passes ===== -/
section
variable {f_codeCount f_coverCount f_placeCount f_tooMany f_layAnswer f_wrongKind f_wrongKey f_grown f_frameDepth f_frameThere f_lastReason f_valueDepth f_objectCount f_hasRun f_begun f_nowAt f_endClass : Int32} {a_parent a_entry a_code a_operand a_coverFrom a_coverTo a_coverTarget a_coverClass a_placeKey a_placeDepth a_cameWith a_ledWith a_faults a_found a_hasFound a_kept a_hasMap a_frame a_kind a_value a_objectClass a_objectReady : Nat → Int32}
variable {g : md_C}
def mx_dn (z : mx_S) (C : Nat → Nat → Prop) : Prop := ∀ p h, C p h → xs_t z = 1 ∨ me_at (xs_m z) (xs_K z) (xs_w z) p h
theorem mx_dnl {z y : mx_S} {C : Nat → Nat → Prop} (a : mx_le z y) (h : mx_dn z C) : mx_dn y C := by
  intro p d c
  rcases h p d c with x | x
  · exact Or.inl (a.2.2.2.1 x)
  · exact Or.inr (a.2.2.2.2 p d x)
def mx_T (g : md_C) (x p d p' h' : Nat) : Prop := (md_gb (mc_o g (p % 24)) ∧ p' = p + 1 ∧ h' = md_th g p d) ∨ (md_L g p = some p' ∧ h' = md_th g p d) ∨ (∃ y, y < x ∧ md_cv g y p ∧ p' = md_at p (mc_g g y) ∧ h' = 1)
theorem xe_108 {post : SX → Prop} {s : mx_S} {k d p : Nat} (hG : md_G g) (hM : md_M g) (hp : md_R g p d) (hW : md_W g p d = 0) (hk : k < xs_m s) (hKp : xs_K s k = p) (H : ∀ z : mx_S, mx_J g (fun _ _ => False) z → mx_le s z → post ((nI (mc_cc g)), (nI (mc_hc g)), (nI (xs_m z)), (nI (xs_t z)), f_layAnswer, f_wrongKind, f_wrongKey, f_grown, f_frameDepth, f_frameThere, f_lastReason, f_valueDepth, f_objectCount, f_hasRun, f_begun, f_nowAt, f_endClass, (ar (mc_p g)), (ar (mc_e g)), (ar (mc_o g)), (mc_r g), (ar (mc_f g)), (ar (mc_t g)), (ar (mc_g g)), (ar (mc_k g)), (ar (xs_kr z)), (ar (xs_D z)), (ar (xs_w z)), (ar (xs_l z)), (ar (xs_f z)), a_found, a_hasFound, a_kept, a_hasMap, a_frame, a_kind, a_value, a_objectClass, a_objectReady)) : ∀ e x, x + e = 4 → x ≤ mc_hc g → ∀ z : mx_S, mx_J g (fun k' d' => k' = k ∧ d' = d) z → mx_le s z → mx_dn z (mx_T g x p d) → wX_leadOn_108 post (nI (md_kx p)) (nI (p % 24)) (e + 1) (nI x) (nI (mc_cc g)) (nI (mc_hc g)) (nI (xs_m z)) (nI (xs_t z)) f_layAnswer f_wrongKind f_wrongKey f_grown f_frameDepth f_frameThere f_lastReason f_valueDepth f_objectCount f_hasRun f_begun f_nowAt f_endClass (ar (mc_p g)) (ar (mc_e g)) (ar (mc_o g)) (mc_r g) (ar (mc_f g)) (ar (mc_t g)) (ar (mc_g g)) (ar (mc_k g)) (ar (xs_kr z)) (ar (xs_D z)) (ar (xs_w z)) (ar (xs_l z)) (ar (xs_f z)) a_found a_hasFound a_kept a_hasMap a_frame a_kind a_value a_objectClass a_objectReady := by
  have vp := (md_RV hG hM hp).1
  have hhc := hG.2.1
  intro e
  induction e with
  | zero =>
    intro x hx hxc z J le dn
    refine pk_le 4 x (fun _ => ?_) (fun c => by omega)
    refine H z ⟨me_close J.1 (fun _ p' h' t => dn p' h' ?_), J.2⟩ le
    rw [(le.2.1 k hk).1, hKp] at t
    have : x = mc_hc g := by omega
    subst this; exact t
  | succ e ih =>
    intro x hx hxc z J le dn
    refine pk_le 4 x (fun c => by omega) (fun _ => pk_le (mc_hc g) x (fun c => ?_) (fun c => ?_))
    · refine H z ⟨me_close J.1 (fun _ p' h' t => dn p' h' ?_), J.2⟩ le
      rw [(le.2.1 k hk).1, hKp] at t
      have : x = mc_hc g := by omega
      subst this; exact t
    · refine xa_cov hG (by omega) (by omega) (fun cv => xb_1 ?_) (fun cv => xb_0 ?_)
      · refine xa_cgt hG (by omega) (md_Vlt hG.1 vp) ?_
        have r' : md_R g (md_at p (mc_g g x)) 1 := md_Rs hp ⟨hW, Or.inr (Or.inr ⟨x, by omega, cv, rfl, rfl⟩)⟩
        refine xe_come (h := 1) hG hM J (fun k' d' h1 h2 => ?_) r' (fun y Jy ley at' => ?_)
        · have := le.1; omega
        · refine nm_r (nI_1 x) (ih (x + 1) (by omega) (by omega) y Jy (mx_let le ley) ?_)
          rintro p' h' (t | t | ⟨i, hi, c1, c2, c3⟩)
          · exact mx_dnl ley dn p' h' (Or.inl t)
          · exact mx_dnl ley dn p' h' (Or.inr (Or.inl t))
          · by_cases ei : i = x
            · subst ei; rw [c2, c3]; exact at'
            · exact mx_dnl ley dn p' h' (Or.inr (Or.inr ⟨i, by omega, c1, c2, c3⟩))
      · refine nm_r (nI_1 x) (ih (x + 1) (by omega) (by omega) z J le ?_)
        rintro p' h' (t | t | ⟨i, hi, c1, c2, c3⟩)
        · exact dn p' h' (Or.inl t)
        · exact dn p' h' (Or.inr (Or.inl t))
        · by_cases ei : i = x
          · subst ei; exact absurd c1 cv
          · exact dn p' h' (Or.inr (Or.inr ⟨i, by omega, c1, c2, c3⟩))
theorem xe_83 {post : SX → Prop} {s : mx_S} {k d p : Nat} (hG : md_G g) (hM : md_M g) (hp : md_R g p d) (hW : md_W g p d = 0) (hk : k < xs_m s) (hKp : xs_K s k = p) (H : ∀ z : mx_S, mx_J g (fun _ _ => False) z → mx_le s z → post ((nI (mc_cc g)), (nI (mc_hc g)), (nI (xs_m z)), (nI (xs_t z)), f_layAnswer, f_wrongKind, f_wrongKey, f_grown, f_frameDepth, f_frameThere, f_lastReason, f_valueDepth, f_objectCount, f_hasRun, f_begun, f_nowAt, f_endClass, (ar (mc_p g)), (ar (mc_e g)), (ar (mc_o g)), (mc_r g), (ar (mc_f g)), (ar (mc_t g)), (ar (mc_g g)), (ar (mc_k g)), (ar (xs_kr z)), (ar (xs_D z)), (ar (xs_w z)), (ar (xs_l z)), (ar (xs_f z)), a_found, a_hasFound, a_kept, a_hasMap, a_frame, a_kind, a_value, a_objectClass, a_objectReady)) {z : mx_S} (J : mx_J g (fun k' d' => k' = k ∧ d' = d) z) (le : mx_le s z) (dn : mx_dn z (fun p' h' => md_L g p = some p' ∧ h' = md_th g p d)) : wX_leadOn_83 post (nI (md_kx p)) (nI (p % 24)) (nI (md_th g p d)) (nI (mc_cc g)) (nI (mc_hc g)) (nI (xs_m z)) (nI (xs_t z)) f_layAnswer f_wrongKind f_wrongKey f_grown f_frameDepth f_frameThere f_lastReason f_valueDepth f_objectCount f_hasRun f_begun f_nowAt f_endClass (ar (mc_p g)) (ar (mc_e g)) (ar (mc_o g)) (mc_r g) (ar (mc_f g)) (ar (mc_t g)) (ar (mc_g g)) (ar (mc_k g)) (ar (xs_kr z)) (ar (xs_D z)) (ar (xs_w z)) (ar (xs_l z)) (ar (xs_f z)) a_found a_hasFound a_kept a_hasMap a_frame a_kind a_value a_objectClass a_objectReady := by
  have vp := (md_RV hG hM hp).1
  have hi := md_Vi hG.1 vp
  have hcc := hG.1
  have f1 := (md_W0 hW).1
  unfold wX_leadOn_83
  refine ⟨vp_in_nI (by omega) (by omega), ?_⟩
  rw [ar_at _ (by omega)]
  refine xa_gb (hG.2.2.1 _) (fun b => xb_1 ?_) (fun b => xb_0 ?_)
  · have hlt : p % 24 + 1 < mc_cc g := by
      have : ¬ p % 24 + 1 = mc_cc g := fun e => f1 (Or.inl ⟨b, e⟩)
      omega
    rw [nI_1, ← xk_1 p (by omega)]
    have r' : md_R g (p + 1) (md_th g p d) := md_Rs hp ⟨hW, Or.inl ⟨b, rfl, rfl⟩⟩
    refine xe_come hG hM J (fun k' d' h1 h2 => ?_) r' (fun y Jy ley at' => ⟨5, ?_⟩)
    · have := le.1; omega
    · refine xe_108 hG hM hp hW hk hKp H 4 0 rfl (by omega) y Jy (mx_let le ley) ?_
      rintro p' h' (⟨_, c2, c3⟩ | t | ⟨i, hi, _⟩)
      · rw [c2, c3]; exact at'
      · exact mx_dnl ley dn p' h' t
      · omega
  · refine ⟨5, xe_108 hG hM hp hW hk hKp H 4 0 rfl (by omega) z J le ?_⟩
    rintro p' h' (⟨c, _⟩ | t | ⟨i, hi, _⟩)
    · exact absurd c b
    · exact dn p' h' t
    · omega
theorem mx_fold {p x f d : Nat} (F : mx_f1 g p x f) : ∃ f', nI f ||| nI (md_fb g p d) = nI f' ∧ mx_f1 g p (x ||| 2 ^ d) f' := by
  obtain ⟨a, b, c, e, i, rfl, h1, h2, h3, h4, h5⟩ := F
  refine ⟨_, mb_fmor _ _ _ _ _ _ _ _ _ _, ⟨_, _, _, _, _, rfl, ?_, ?_, ?_, ?_, ?_⟩⟩
  · rw [Bool.or_eq_true, h1, decide_eq_true_eq]
    constructor
    · rintro (⟨h, q, r⟩ | r)
      · exact ⟨h, mb_tb.mpr (Or.inl q), r⟩
      · exact ⟨d, mb_tb.mpr (Or.inr rfl), r⟩
    · rintro ⟨h, q, r⟩
      exact Or.inr r
  · rw [Bool.or_eq_true, h2, decide_eq_true_eq]
    constructor
    · rintro (⟨h, q, r⟩ | r)
      · exact ⟨h, mb_tb.mpr (Or.inl q), r⟩
      · exact ⟨d, mb_tb.mpr (Or.inr rfl), r⟩
    · rintro ⟨h, q, r⟩
      rcases mb_tb.mp q with q | q
      · exact Or.inl ⟨h, q, r⟩
      · subst q; exact Or.inr r
  · rw [Bool.or_eq_true, h3, decide_eq_true_eq]
    constructor
    · rintro (⟨h, q, r⟩ | r)
      · exact ⟨h, mb_tb.mpr (Or.inl q), r⟩
      · exact ⟨d, mb_tb.mpr (Or.inr rfl), r⟩
    · rintro ⟨h, q, r⟩
      rcases mb_tb.mp q with q | q
      · exact Or.inl ⟨h, q, r⟩
      · subst q; exact Or.inr r
  · rw [Bool.or_eq_true, h4, decide_eq_true_eq]
    constructor
    · rintro (⟨h, q, r⟩ | r)
      · exact ⟨h, mb_tb.mpr (Or.inl q), r⟩
      · exact ⟨d, mb_tb.mpr (Or.inr rfl), r⟩
    · rintro ⟨h, q, r⟩
      exact Or.inr r
  · rw [Bool.or_eq_true, h5, decide_eq_true_eq]
    constructor
    · rintro (⟨h, q, r⟩ | r)
      · exact ⟨h, mb_tb.mpr (Or.inl q), r⟩
      · exact ⟨d, mb_tb.mpr (Or.inr rfl), r⟩
    · rintro ⟨h, q, r⟩
      exact Or.inr r
theorem md_fb0 {p h : Nat} : nI (md_fb g p h) = 0 ↔ md_W g p h = 0 := by
  unfold md_fb
  rw [mb_fm0]
  simp only [decide_eq_false_iff_not]
  constructor
  · rintro ⟨a, b, c, d, e⟩; exact mw_0 a b c d e
  · exact md_W0
theorem xe_lead {post : SX → Prop} {s : mx_S} {k d : Nat} (hG : md_G g) (hM : md_M g) (J : mx_J g (fun _ _ => False) s) (hk : k < xs_m s) (hb : (xs_w s k).testBit d = true) (hnl : ¬ (xs_l s k).testBit d = true) (H : ∀ z : mx_S, mx_J g (fun _ _ => False) z → me_mu 40 (xs_m z) (xs_l z) < me_mu 40 (xs_m s) (xs_l s) → xs_m s ≤ xs_m z → post ((nI (mc_cc g)), (nI (mc_hc g)), (nI (xs_m z)), (nI (xs_t z)), f_layAnswer, f_wrongKind, f_wrongKey, f_grown, f_frameDepth, f_frameThere, f_lastReason, f_valueDepth, f_objectCount, f_hasRun, f_begun, f_nowAt, f_endClass, (ar (mc_p g)), (ar (mc_e g)), (ar (mc_o g)), (mc_r g), (ar (mc_f g)), (ar (mc_t g)), (ar (mc_g g)), (ar (mc_k g)), (ar (xs_kr z)), (ar (xs_D z)), (ar (xs_w z)), (ar (xs_l z)), (ar (xs_f z)), a_found, a_hasFound, a_kept, a_hasMap, a_frame, a_kind, a_value, a_objectClass, a_objectReady)) : wpX_leadOn post ((nI (mc_cc g)), (nI (mc_hc g)), (nI (xs_m s)), (nI (xs_t s)), f_layAnswer, f_wrongKind, f_wrongKey, f_grown, f_frameDepth, f_frameThere, f_lastReason, f_valueDepth, f_objectCount, f_hasRun, f_begun, f_nowAt, f_endClass, (ar (mc_p g)), (ar (mc_e g)), (ar (mc_o g)), (mc_r g), (ar (mc_f g)), (ar (mc_t g)), (ar (mc_g g)), (ar (mc_k g)), (ar (xs_kr s)), (ar (xs_D s)), (ar (xs_w s)), (ar (mf_up (xs_l s) k (xs_l s k ||| 2 ^ d))), (ar (xs_f s)), a_found, a_hasFound, a_kept, a_hasMap, a_frame, a_kind, a_value, a_objectClass, a_objectReady) (nI k) (nI d) := by
  have hcc := hG.1
  have hm := J.1.1
  have r := J.1.2.2.2.1 k d hk hb
  obtain ⟨vp, hd⟩ := md_RV hG hM r
  have hkr := J.2.1 k hk
  obtain ⟨f', ef, Ff⟩ := mx_fold (d := d) (J.2.2.1 k hk)
  have JK : ∀ p, p = xs_K s k → md_R g p d → md_V g p → wpX_leadOn post ((nI (mc_cc g)), (nI (mc_hc g)), (nI (xs_m s)), (nI (xs_t s)), f_layAnswer, f_wrongKind, f_wrongKey, f_grown, f_frameDepth, f_frameThere, f_lastReason, f_valueDepth, f_objectCount, f_hasRun, f_begun, f_nowAt, f_endClass, (ar (mc_p g)), (ar (mc_e g)), (ar (mc_o g)), (mc_r g), (ar (mc_f g)), (ar (mc_t g)), (ar (mc_g g)), (ar (mc_k g)), (ar (xs_kr s)), (ar (xs_D s)), (ar (xs_w s)), (ar (mf_up (xs_l s) k (xs_l s k ||| 2 ^ d))), (ar (xs_f s)), a_found, a_hasFound, a_kept, a_hasMap, a_frame, a_kind, a_value, a_objectClass, a_objectReady) (nI k) (nI d) := by
    intro p ep r vp
    rw [← ep] at hkr ef Ff
    have hp := md_Vlt hcc vp
    have hkx := md_kxlt p hp
    have hi := md_Vi hcc vp
    have h20 := hG.2.2.1 (p % 24)
    let s2 : mx_S := (xs_m s, xs_K s, xs_t s, xs_kr s, xs_D s, xs_w s, mf_up (xs_l s) k (xs_l s k ||| 2 ^ d), mf_up (xs_f s) k f')
    have J2 : mx_J g (fun k' d' => k' = k ∧ d' = d) s2 := by
      refine ⟨me_mark J.1 hk hb (fun k' _ nk => up_n nk) up_s, J.2.1, fun k' hk' => ?_, J.2.2.2⟩
      show mx_f1 g (xs_K s k') (mf_up (xs_l s) k (xs_l s k ||| 2 ^ d) k') (mf_up (xs_f s) k f' k')
      by_cases e : k' = k
      · subst e; rw [up_s, up_s, ← ep]; exact Ff
      · rw [up_n e, up_n e]; exact J.2.2.1 k' hk'
    have mu2 : me_mu 40 (xs_m s2) (xs_l s2) < me_mu 40 (xs_m s) (xs_l s) := me_mu_mark hm hk (by omega) hnl (fun k' _ nk => up_n nk) up_s
    have H2 : ∀ z : mx_S, mx_J g (fun _ _ => False) z → mx_le s2 z → post ((nI (mc_cc g)), (nI (mc_hc g)), (nI (xs_m z)), (nI (xs_t z)), f_layAnswer, f_wrongKind, f_wrongKey, f_grown, f_frameDepth, f_frameThere, f_lastReason, f_valueDepth, f_objectCount, f_hasRun, f_begun, f_nowAt, f_endClass, (ar (mc_p g)), (ar (mc_e g)), (ar (mc_o g)), (mc_r g), (ar (mc_f g)), (ar (mc_t g)), (ar (mc_g g)), (ar (mc_k g)), (ar (xs_kr z)), (ar (xs_D z)), (ar (xs_w z)), (ar (xs_l z)), (ar (xs_f z)), a_found, a_hasFound, a_kept, a_hasMap, a_frame, a_kind, a_value, a_objectClass, a_objectReady) := by
      intro z Jz le
      exact H z Jz (Nat.lt_of_le_of_lt le.2.2.1 mu2) le.1
    unfold wpX_leadOn
    dsimp only
    refine ⟨vp_in_nI (by omega) (by omega), nm_r (e' := nI (md_kx p)) (by rw [ar_at _ (by omega), hkr]) ?_⟩
    refine nm_r (e' := nI (p % 24)) (by rw [xk_31 hkx, xk_i]) ?_
    refine xa_fo hG hM.1 vp hd ?_
    refine ⟨vp_in_nI (by omega) (by omega), vp_in_nI (by omega) (by omega), nm_r (e' := ar (mf_up (xs_f s) k f')) (by rw [ar_at _ (by omega), ef, ar_ui _ _ (by omega)]) ?_⟩
    refine br_c (fun c => ?_) (fun c => ?_)
    · have W0 := md_fb0.mp c
      obtain ⟨f1, f2, f3, f4, f5⟩ := md_W0 W0
      have t2 := md_tk2 (mc_o g (p % 24))
      have p2 := md_pu2 (mc_o g (p % 24))
      refine ⟨vp_in_nI (by omega) (by omega), ?_⟩
      rw [ar_at _ (by omega)]
      refine xa_tk h20 ⟨vp_in_nI (by omega) (by omega), xa_pu h20 ?_⟩
      refine nm_r (e' := nI (md_th g p d)) (mi_add d (by omega) _ (by omega) _ (by omega) (by omega)) ?_
      have hn0 : mc_o g (p % 24) = 16 → 0 < md_n p := fun o => Nat.pos_of_ne_zero (fun z => f5 ⟨o, z⟩)
      refine xa_jk hG vp (fun o z => f4 ⟨o, Or.inl z⟩) hn0 (fun o => ?_) (fun q hq => ?_) (fun hq => ?_)
      · obtain ⟨v, e, _⟩ := md_Vcl hcc vp (hn0 o)
        have := md_Vi hcc v
        have : ¬ md_c p (md_n p - 1) + 1 = mc_cc g := fun z => f1 (Or.inr ⟨o, hn0 o, z⟩)
        omega
      · have r' : md_R g q (md_th g p d) := md_Rs r ⟨W0, Or.inr (Or.inl ⟨hq, rfl⟩)⟩
        have vq := (md_RV hG hM r').1
        have := md_kxlt q (md_Vlt hcc vq)
        refine xb_n (by omega) ?_
        refine xe_come (s := s2) hG hM J2 (fun k' d' h1 h2 => ?_) r' (fun y Jy ley at' => ?_)
        · have h1' : xs_m s ≤ k' := h1
          omega
        · refine xe_83 hG hM r W0 (s := s2) hk ep.symm H2 Jy ley ?_
          rintro p' h' ⟨c1, c2⟩
          rw [hq] at c1
          cases c1
          rw [c2]; exact at'
      · refine xb_m (xe_83 hG hM r W0 (s := s2) hk ep.symm H2 J2 (mx_ler s2) ?_)
        rintro p' h' ⟨c1, c2⟩
        rw [hq] at c1
        cases c1
    · have W1 : ¬ md_W g p d = 0 := fun z => c (md_fb0.mpr z)
      refine H2 s2 ⟨me_close J2.1 (fun z => ?_), J2.2⟩ (mx_ler s2)
      have z' : md_W g (xs_K s k) d = 0 := z
      rw [← ep] at z'
      exact absurd z' W1
  exact JK _ rfl r vp
end
