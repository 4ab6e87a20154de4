/-! ===== the class: coming to places ===== -/
section
variable {f_codeCount f_coverCount f_placeCount f_tooMany f_layAnswer f_wrongKind f_wrongKey f_grown f_frameDepth f_frameThere f_lastReason f_valueDepth f_objectCount f_hasRun f_begun f_nowAt f_endClass : Int32} {a_parent a_entry a_code a_operand a_coverFrom a_coverTo a_coverTarget a_coverClass a_placeKey a_placeDepth a_cameWith a_ledWith a_faults a_found a_hasFound a_kept a_hasMap a_frame a_kind a_value a_objectClass a_objectReady : Nat → Int32}
variable {g : md_C}
/-- m, K, tooMany, raw keys, first depths, came, led, faults -/
abbrev mx_S : Type := Nat × (Nat → Nat) × Nat × (Nat → Nat) × (Nat → Nat) × (Nat → Nat) × (Nat → Nat) × (Nat → Nat)
def xs_m (s : mx_S) : Nat := s.1
def xs_K (s : mx_S) : Nat → Nat := s.2.1
def xs_t (s : mx_S) : Nat := s.2.2.1
def xs_kr (s : mx_S) : Nat → Nat := s.2.2.2.1
def xs_D (s : mx_S) : Nat → Nat := s.2.2.2.2.1
def xs_w (s : mx_S) : Nat → Nat := s.2.2.2.2.2.1
def xs_l (s : mx_S) : Nat → Nat := s.2.2.2.2.2.2.1
def xs_f (s : mx_S) : Nat → Nat := s.2.2.2.2.2.2.2
/-- the fault bits of a place that has led on with the depths in x -/
def mx_f1 (g : md_C) (p x f : Nat) : Prop := ∃ a b c d e : Bool, f = mb_fm a b c d e ∧ (a = true ↔ ∃ h, x.testBit h = true ∧ md_f1 g p) ∧ (b = true ↔ ∃ h, x.testBit h = true ∧ md_f2 g p h) ∧ (c = true ↔ ∃ h, x.testBit h = true ∧ md_f3 g p h) ∧ (d = true ↔ ∃ h, x.testBit h = true ∧ md_f4 g p) ∧ (e = true ↔ ∃ h, x.testBit h = true ∧ md_f5 g p)
def mx_J (g : md_C) (E : Nat → Nat → Prop) (s : mx_S) : Prop :=
  me_I g 40 (xs_t s = 1) E (xs_m s) (xs_K s) (xs_w s) (xs_l s) (xs_D s) ∧
  (∀ k, k < xs_m s → xs_kr s k = md_kx (xs_K s k)) ∧
  (∀ k, k < xs_m s → mx_f1 g (xs_K s k) (xs_l s k) (xs_f s k)) ∧
  (xs_t s = 0 ∨ xs_t s = 1 ∧ xs_m s = 40 ∧ ∃ p h, md_R g p h ∧ ∀ j, j < xs_m s → xs_K s j ≠ p)
/-- later states -/
def mx_le (s z : mx_S) : Prop := xs_m s ≤ xs_m z ∧ (∀ k, k < xs_m s → xs_K z k = xs_K s k ∧ xs_l z k = xs_l s k) ∧ me_mu 40 (xs_m z) (xs_l z) ≤ me_mu 40 (xs_m s) (xs_l s) ∧ (xs_t s = 1 → xs_t z = 1) ∧ (∀ q d, me_at (xs_m s) (xs_K s) (xs_w s) q d → me_at (xs_m z) (xs_K z) (xs_w z) q d)
theorem mx_ler (s : mx_S) : mx_le s s := ⟨Nat.le_refl _, fun _ _ => ⟨rfl, rfl⟩, Nat.le_refl _, fun h => h, fun _ _ h => h⟩
theorem mx_let {s z y : mx_S} (a : mx_le s z) (b : mx_le z y) : mx_le s y := by
  obtain ⟨a1, a2, a3, a4, a5⟩ := a
  obtain ⟨b1, b2, b3, b4, b5⟩ := b
  refine ⟨by omega, fun k hk => ?_, by omega, fun h => b4 (a4 h), fun q d h => b5 q d (a5 q d h)⟩
  have x := a2 k hk
  have y := b2 k (by omega)
  exact ⟨y.1.trans x.1, y.2.trans x.2⟩
theorem xa_placeOf {post : Int32 → Prop} {m : Nat} {kr : Nat → Nat} {x : Int32} (hm : m ≤ 40) (h1 : ∀ k, k < m → nI (kr k) = x → (∀ j, j < k → ¬ nI (kr j) = x) → post (nI k)) (h0 : (∀ j, j < m → ¬ nI (kr j) = x) → post (-1)) : wpX_placeOf post (f_codeCount, f_coverCount, (nI m), f_tooMany, f_layAnswer, f_wrongKind, f_wrongKey, f_grown, f_frameDepth, f_frameThere, f_lastReason, f_valueDepth, f_objectCount, f_hasRun, f_begun, f_nowAt, f_endClass, a_parent, a_entry, a_code, a_operand, a_coverFrom, a_coverTo, a_coverTarget, a_coverClass, (ar kr), a_placeDepth, a_cameWith, a_ledWith, a_faults, a_found, a_hasFound, a_kept, a_hasMap, a_frame, a_kind, a_value, a_objectClass, a_objectReady) x := by
  have L : ∀ d k, k + d = 40 → k ≤ m → (∀ j, j < k → ¬ nI (kr j) = x) → wX_placeOf_2 post x f_codeCount f_coverCount (nI m) f_tooMany f_layAnswer f_wrongKind f_wrongKey f_grown f_frameDepth f_frameThere f_lastReason f_valueDepth f_objectCount f_hasRun f_begun f_nowAt f_endClass a_parent a_entry a_code a_operand a_coverFrom a_coverTo a_coverTarget a_coverClass (ar kr) a_placeDepth a_cameWith a_ledWith a_faults a_found a_hasFound a_kept a_hasMap a_frame a_kind a_value a_objectClass a_objectReady (d + 1) (nI k) := by
    intro d
    induction d with
    | zero =>
      intro k hk hkm hno
      refine pk_le 40 k (fun _ => h0 (fun j hj => hno j (by omega))) (fun c => by omega)
    | succ d ih =>
      intro k hk hkm hno
      refine pk_le 40 k (fun c => by omega) (fun _ => pk_le m k (fun c => h0 (fun j hj => hno j (by omega))) (fun c => ⟨vp_in_nI (by omega) (by omega), ?_⟩))
      rw [ar_at kr (by omega)]
      refine br_c (fun e => h1 k c e hno) (fun e => nm_r (nI_1 k) (ih (k + 1) (by omega) (by omega) (fun j hj => ?_)))
      by_cases q : j = k
      · subst q; exact e
      · exact hno j (by omega)
  exact ⟨41, L 40 0 rfl (by omega) (fun j hj => by omega)⟩
/-- the place of a key -/
theorem xa_po {post : Int32 → Prop} {m p : Nat} {kr K : Nat → Nat} (hm : m ≤ 40) (hkr : ∀ k, k < m → kr k = md_kx (K k)) (hK : ∀ k, k < m → K k < 1327104) (hp : p < 1327104) (h1 : ∀ k, k < m → K k = p → post (nI k)) (h0 : (∀ j, j < m → K j ≠ p) → post (-1)) : wpX_placeOf post (f_codeCount, f_coverCount, (nI m), f_tooMany, f_layAnswer, f_wrongKind, f_wrongKey, f_grown, f_frameDepth, f_frameThere, f_lastReason, f_valueDepth, f_objectCount, f_hasRun, f_begun, f_nowAt, f_endClass, a_parent, a_entry, a_code, a_operand, a_coverFrom, a_coverTo, a_coverTarget, a_coverClass, (ar kr), a_placeDepth, a_cameWith, a_ledWith, a_faults, a_found, a_hasFound, a_kept, a_hasMap, a_frame, a_kind, a_value, a_objectClass, a_objectReady) (nI (md_kx p)) := by
  have I : ∀ k, k < m → (nI (kr k) = nI (md_kx p) ↔ K k = p) := by
    intro k hk
    have a := md_kxlt _ (hK k hk)
    have b := md_kxlt _ hp
    rw [hkr k hk, nI_eq (by omega) (by omega), md_kx_eq]
  refine xa_placeOf hm (fun k hk e _ => h1 k hk ((I k hk).mp e)) (fun h => h0 (fun j hj e => h j hj ((I j hj).mpr e)))
theorem xa_po_none {post : Int32 → Prop} {m : Nat} {kr K : Nat → Nat} (hm : m ≤ 40) (hkr : ∀ k, k < m → kr k = md_kx (K k)) (hK : ∀ k, k < m → K k < 1327104) (h0 : post (-1)) : wpX_placeOf post (f_codeCount, f_coverCount, (nI m), f_tooMany, f_layAnswer, f_wrongKind, f_wrongKey, f_grown, f_frameDepth, f_frameThere, f_lastReason, f_valueDepth, f_objectCount, f_hasRun, f_begun, f_nowAt, f_endClass, a_parent, a_entry, a_code, a_operand, a_coverFrom, a_coverTo, a_coverTarget, a_coverClass, (ar kr), a_placeDepth, a_cameWith, a_ledWith, a_faults, a_found, a_hasFound, a_kept, a_hasMap, a_frame, a_kind, a_value, a_objectClass, a_objectReady) (-1) := by
  refine xa_placeOf hm (fun k hk e _ => ?_) (fun _ => h0)
  exfalso
  have a := md_kxlt _ (hK k hk)
  rw [hkr k hk] at e
  have := nI_pos' (n := md_kx (K k)) (by omega)
  rw [e] at this
  exact absurd this (by decide)
theorem xe_KV {E : Nat → Nat → Prop} {s : mx_S} (hG : md_G g) (hM : md_M g) (J : mx_J g E s) {k : Nat} (hk : k < xs_m s) : md_V g (xs_K s k) :=
  (md_RV hG hM (J.1.2.2.2.1 k _ hk (J.1.2.2.2.2.2.2.2 k hk))).1
theorem xe_come {post : SX → Prop} {E : Nat → Nat → Prop} {s : mx_S} {p h : Nat} (hG : md_G g) (hM : md_M g) (J : mx_J g E s) (hE : ∀ k d, xs_m s ≤ k → ¬ E k d) (r : md_R g p h) (H : ∀ z : mx_S, mx_J g E z → mx_le s z → (xs_t z = 1 ∨ me_at (xs_m z) (xs_K z) (xs_w z) p h) → post ((nI (mc_cc g)), (nI (mc_hc g)), (nI (xs_m z)), (nI (xs_t z)), f_layAnswer, f_wrongKind, f_wrongKey, f_grown, f_frameDepth, f_frameThere, f_lastReason, f_valueDepth, f_objectCount, f_hasRun, f_begun, f_nowAt, f_endClass, (ar (mc_p g)), (ar (mc_e g)), (ar (mc_o g)), (mc_r g), (ar (mc_f g)), (ar (mc_t g)), (ar (mc_g g)), (ar (mc_k g)), (ar (xs_kr z)), (ar (xs_D z)), (ar (xs_w z)), (ar (xs_l z)), (ar (xs_f z)), a_found, a_hasFound, a_kept, a_hasMap, a_frame, a_kind, a_value, a_objectClass, a_objectReady)) : wpX_comeTo post ((nI (mc_cc g)), (nI (mc_hc g)), (nI (xs_m s)), (nI (xs_t s)), f_layAnswer, f_wrongKind, f_wrongKey, f_grown, f_frameDepth, f_frameThere, f_lastReason, f_valueDepth, f_objectCount, f_hasRun, f_begun, f_nowAt, f_endClass, (ar (mc_p g)), (ar (mc_e g)), (ar (mc_o g)), (mc_r g), (ar (mc_f g)), (ar (mc_t g)), (ar (mc_g g)), (ar (mc_k g)), (ar (xs_kr s)), (ar (xs_D s)), (ar (xs_w s)), (ar (xs_l s)), (ar (xs_f s)), a_found, a_hasFound, a_kept, a_hasMap, a_frame, a_kind, a_value, a_objectClass, a_objectReady) (nI (md_kx p)) (nI h) := by
  have hm := J.1.1
  obtain ⟨vp, hh⟩ := md_RV hG hM r
  have hp := md_Vlt hG.1 vp
  have hK : ∀ k, k < xs_m s → xs_K s k < 1327104 := fun k hk => md_Vlt hG.1 (xe_KV hG hM J hk)
  unfold wpX_comeTo
  dsimp only
  refine xa_po (K := xs_K s) hm J.2.1 hK hp (fun j hj e => ?_) (fun hn => ?_)
  · refine xb_n' (by omega) ⟨vp_in_nI (by omega) (by omega), vp_in_nI (by omega) (by omega), nm_r (e' := ar (mf_up (xs_w s) j (xs_w s j ||| 2 ^ h))) ?_ ?_⟩
    · rw [ar_at _ (by omega), mb_or (by omega), ar_ui _ _ (by omega)]
    · obtain ⟨I', at', up'⟩ := me_old J.1 hj e r hh (w' := mf_up (xs_w s) j (xs_w s j ||| 2 ^ h)) (fun k _ nk => up_n nk) up_s
      exact H (xs_m s, xs_K s, xs_t s, xs_kr s, xs_D s, mf_up (xs_w s) j (xs_w s j ||| 2 ^ h), xs_l s, xs_f s) ⟨I', J.2⟩ ⟨Nat.le_refl _, fun _ _ => ⟨rfl, rfl⟩, Nat.le_refl _, fun h => h, up'⟩ (Or.inr at')
  · refine xb_m' ?_
    refine pk_lt (xs_m s) 40 (fun hlt => ?_) (fun hge => ?_)
    · refine nm_r (nI_1 _) ⟨vp_in_nI (by omega) (by omega), nm_r (ar_ui _ _ (by omega)) ⟨vp_in_nI (by omega) (by omega), nm_r (ar_ui _ _ (by omega)) ⟨vp_in_nI (by omega) (by omega), nm_r (ar_ui _ 0 (by omega)) ⟨vp_in_nI (by omega) (by omega), nm_r (ar_ui _ 0 (by omega)) ⟨vp_in_nI (by omega) (by omega), nm_r (ar_ui _ 0 (by omega)) ?_⟩⟩⟩⟩⟩
      refine ⟨vp_in_nI (by omega) (by omega), vp_in_nI (by omega) (by omega), nm_r (e' := ar (mf_up (mf_up (xs_w s) (xs_m s) 0) (xs_m s) (2 ^ h))) ?_ ?_⟩
      · rw [ar_at _ (by omega), mb_or (by omega), ar_ui _ _ (by omega), up_s, Nat.zero_or]
      · have hs : ∀ k, k < xs_m s → mf_up (xs_K s) (xs_m s) p k = xs_K s k ∧ mf_up (mf_up (xs_w s) (xs_m s) 0) (xs_m s) (2 ^ h) k = xs_w s k ∧ mf_up (xs_l s) (xs_m s) 0 k = xs_l s k ∧ mf_up (xs_D s) (xs_m s) h k = xs_D s k := by
          intro k hk
          rw [up_n (by omega), up_n (by omega), up_n (by omega), up_n (by omega), up_n (by omega)]
          exact ⟨rfl, rfl, rfl, rfl⟩
        obtain ⟨I', at', up'⟩ := me_new J.1 hlt hn r hh hs up_s up_s up_s up_s (fun d => hE _ d (Nat.le_refl _))
        refine H (xs_m s + 1, mf_up (xs_K s) (xs_m s) p, xs_t s, mf_up (xs_kr s) (xs_m s) (md_kx p), mf_up (xs_D s) (xs_m s) h, mf_up (mf_up (xs_w s) (xs_m s) 0) (xs_m s) (2 ^ h), mf_up (xs_l s) (xs_m s) 0, mf_up (xs_f s) (xs_m s) 0) ⟨I', fun k hk => ?_, fun k hk => ?_, ?_⟩ ⟨Nat.le_succ _, fun k hk => ⟨(hs k hk).1, (hs k hk).2.2.1⟩, me_mu_new (fun k hk => (hs k hk).2.2.1) up_s, fun h => h, up'⟩ (Or.inr at')
        · show mf_up (xs_kr s) (xs_m s) (md_kx p) k = md_kx (mf_up (xs_K s) (xs_m s) p k)
          by_cases e : k = xs_m s
          · subst e; rw [up_s, up_s]
          · have hk' : k < xs_m s + 1 := hk
            rw [up_n e, up_n e]; exact J.2.1 k (by omega)
        · show mx_f1 g (mf_up (xs_K s) (xs_m s) p k) (mf_up (xs_l s) (xs_m s) 0 k) (mf_up (xs_f s) (xs_m s) 0 k)
          by_cases e : k = xs_m s
          · subst e; rw [up_s, up_s, up_s]
            refine ⟨false, false, false, false, false, rfl, ?_, ?_, ?_, ?_, ?_⟩ <;> simp
          · have hk' : k < xs_m s + 1 := hk
            rw [up_n e, up_n e, up_n e]; exact J.2.2.1 k (by omega)
        · left
          rcases J.2.2.2 with x | ⟨_, x, _⟩
          · exact x
          · omega
    · have e40 : xs_m s = 40 := by omega
      refine H (xs_m s, xs_K s, 1, xs_kr s, xs_D s, xs_w s, xs_l s, xs_f s) ⟨me_ov J.1 (fun _ => rfl), J.2.1, J.2.2.1, Or.inr ⟨rfl, e40, p, h, r, hn⟩⟩ ⟨Nat.le_refl _, fun _ _ => ⟨rfl, rfl⟩, Nat.le_refl _, fun _ => rfl, fun _ _ h => h⟩ (Or.inl rfl)
theorem xa_cov {post : Int32 → Prop} {x i : Nat} (hG : md_G g) (hx : x < 4) (hi : i < 24) (h1 : mc_f g x ≤ i ∧ i < mc_t g x → post 1) (h0 : ¬ (mc_f g x ≤ i ∧ i < mc_t g x) → post 0) : wpX_covers post ((nI (mc_cc g)), (nI (mc_hc g)), f_placeCount, f_tooMany, f_layAnswer, f_wrongKind, f_wrongKey, f_grown, f_frameDepth, f_frameThere, f_lastReason, f_valueDepth, f_objectCount, f_hasRun, f_begun, f_nowAt, f_endClass, (ar (mc_p g)), (ar (mc_e g)), (ar (mc_o g)), (mc_r g), (ar (mc_f g)), (ar (mc_t g)), (ar (mc_g g)), (ar (mc_k g)), a_placeKey, a_placeDepth, a_cameWith, a_ledWith, a_faults, a_found, a_hasFound, a_kept, a_hasMap, a_frame, a_kind, a_value, a_objectClass, a_objectReady) (nI x) (nI i) := by
  have hb := hG.2.2.2.2.1 x
  unfold wpX_covers
  dsimp only
  refine ⟨vp_in_nI (by omega) (by omega), ?_⟩
  rw [ar_at _ (by omega), ar_at _ (by omega)]
  refine pk_lt i (mc_f g x) (fun c => h0 (by omega)) (fun c => ⟨vp_in_nI (by omega) (by omega), pk_le (mc_t g x) i (fun d => h0 (by omega)) (fun d => h1 ⟨c, d⟩)⟩)
theorem xa_cgt {post : Int32 → Prop} {x p : Nat} (hG : md_G g) (hx : x < 4) (hp : p < 1327104) (h : post (nI (md_kx (md_at p (mc_g g x))))) : wpX_caughtKey post ((nI (mc_cc g)), (nI (mc_hc g)), f_placeCount, f_tooMany, f_layAnswer, f_wrongKind, f_wrongKey, f_grown, f_frameDepth, f_frameThere, f_lastReason, f_valueDepth, f_objectCount, f_hasRun, f_begun, f_nowAt, f_endClass, (ar (mc_p g)), (ar (mc_e g)), (ar (mc_o g)), (mc_r g), (ar (mc_f g)), (ar (mc_t g)), (ar (mc_g g)), (ar (mc_k g)), a_placeKey, a_placeDepth, a_cameWith, a_ledWith, a_faults, a_found, a_hasFound, a_kept, a_hasMap, a_frame, a_kind, a_value, a_objectClass, a_objectReady) (nI (md_kx p)) (nI x) := by
  have hb := hG.2.2.2.2.1 x
  unfold wpX_caughtKey
  dsimp only
  refine ⟨vp_in_nI (by omega) (by omega), ?_⟩
  rw [ar_at _ (by omega), xk_31 (md_kxlt p hp), xk_i, pk_sub (xk_ge p), nI_add]
  rw [xk_at p _ hb.2.2.1] at h
  exact h
end
