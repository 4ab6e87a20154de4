/-! ===== the reference: finding types ===== -/
section
variable {f_length f_handlers f_many f_there f_typed f_wrongNumber f_wrongPlace f_size f_why f_height f_objects f_line f_begun f_last f_end : Int32} {a_parent a_begin a_op a_arg a_from a_to a_target a_caught a_places a_heights a_gone a_worst a_frames a_maps a_high a_known a_mapped a_now a_sorts a_ints a_classes a_ready : Nat → Int32}
variable {g : md_C} {m : Nat} {P D pl hi : Nat → Nat}
theorem mf_jj (t : Nat) : mt_j g t t = t := by unfold mt_j; rw [if_pos rfl]
theorem mf_hs_keep {k : Nat} {z : mf_Z} (kn : z.1.1 k = true) : ∀ x s, s < 4 → (mf_hs g m P k (z.1.2 k) x z).1.2 k s = z.1.2 k s := by
  intro x
  induction x with
  | zero => intro s _; rfl
  | succ x ih =>
    intro s hs
    simp only [mf_hs]
    split
    · show (if k = mf_ix P m (md_at (P k) (mc_g g x)) ∧ s < 5 then mf_nw g (mf_hs g m P k (z.1.2 k) x z).1 (mf_ix P m (md_at (P k) (mc_g g x))) (mf_hf g (z.1.2 k) x) s else (mf_hs g m P k (z.1.2 k) x z).1.2 k s) = z.1.2 k s
      by_cases q : k = mf_ix P m (md_at (P k) (mc_g g x)) ∧ s < 5
      · rw [if_pos q, ← q.1]
        unfold mf_nw
        rw [if_pos (mn_hsk kn x), ih s hs]
        have : mf_hf g (z.1.2 k) x s = z.1.2 k s := up_n (by omega)
        rw [this]; exact mf_jj _
      · rw [if_neg q]; exact ih s hs
    · exact ih s hs
theorem ya_throw {post : Int32 → SY → Prop} {T : mf_T} {k x : Nat} {hf fd nw f : Nat → Nat} {j : Nat} (hG : md_G g) (hM : md_M g) (Y : ml_Y g m P D) (hpl : ∀ k, k < m → pl k = P k) (hhi : ∀ k, k < m → hi k = D k) (hk : k < m) (hx : x < 4) (kn : T.1 k = true) (A : mf_A m D T hf fd) (T90 : mn_90 T) (f90 : ∀ s, f s ≤ 90) (hf4 : ∀ s, s < 4 → T.2 k s = f s) (hj : j < m) (ej : P j = md_at (P k) (mc_g g x)) (eD : D j = 1) (H : ∀ hf' fd' nw' : Nat → Nat, mf_A m D (mf_gv g T j 5 (mf_hf g f x)) hf' fd' → post (mf_b (mf_fl g T j 5 (mf_hf g f x))) ((nI (mc_cc g)), (nI (mc_hc g)), (nI m), f_there, f_typed, f_wrongNumber, f_wrongPlace, 1, f_why, f_height, f_objects, f_line, f_begun, f_last, f_end, (ar (mc_p g)), (ar (mc_e g)), (ar (mc_o g)), (mc_r g), (ar (mc_f g)), (ar (mc_t g)), (ar (mc_g g)), (ar (mc_k g)), (ar pl), a_heights, a_gone, a_worst, (ar fd'), a_maps, (ar hi), (ar hf'), a_mapped, (ar nw'), a_sorts, a_ints, a_classes, a_ready)) : wpY_throwTo post ((nI (mc_cc g)), (nI (mc_hc g)), (nI m), f_there, f_typed, f_wrongNumber, f_wrongPlace, f_size, f_why, f_height, f_objects, f_line, f_begun, f_last, f_end, (ar (mc_p g)), (ar (mc_e g)), (ar (mc_o g)), (mc_r g), (ar (mc_f g)), (ar (mc_t g)), (ar (mc_g g)), (ar (mc_k g)), (ar pl), a_heights, a_gone, a_worst, (ar fd), a_maps, (ar hi), (ar hf), a_mapped, (ar nw), a_sorts, a_ints, a_classes, a_ready) (nI k) (nI x) := by
  have hm := Y.1
  have hcc := hG.1
  have hPl : ∀ k, k < m → P k < 1327104 := fun k hk => md_Vlt hcc (mg_V hG hM Y hk)
  have hDs : ∀ q, q < m → D q ≤ 6 := fun q hq => mg_D hG hM Y hq
  have hb := hG.2.2.2.2.1 x
  unfold wpY_throwTo
  dsimp only
  refine ya_takeF (by omega) (hDs k hk) (hhi k hk) (fun nw1 h1 => ⟨vp_in_nI (by omega) (by omega), ?_⟩)
  have e3 : upd (ar nw1) 4 (3 + ar (mc_k g) (nI x).toNatClampNeg) = ar (mf_up nw1 4 (3 + mc_k g x)) := by
    rw [ar_at _ (by omega)]
    show upd (ar nw1) 4 (nI 3 + nI (mc_k g x)) = _
    rw [nI_add, ar_up]
  refine nm_r e3 ⟨vp_in_nI (by omega) (by omega), vp_in_nI (by omega) (by omega), ?_⟩
  dsimp only
  rw [ar_at _ (by omega), ar_at _ (by omega), hpl k hk]
  have := hPl k hk
  refine ya_at (by omega) ?_
  refine ya_give (d := 1) (f := mf_hf g f x) hG hm hj hpl hPl Y.2.1 ej eD.symm hDs A T90 (mn_h90 hG f90 x) (fun s hs => ?_) (fun hf' fd' A' => ⟨ya_nb _, H hf' fd' _ A'⟩)
  unfold mf_hf
  by_cases q : s = 4
  · subst q; rw [up_s, up_s]
  · rw [up_n q, up_n q, h1 s (by omega), A.2 k hk kn s (by omega)]; exact hf4 s (by omega)
theorem ya_led2 {post : Int32 → Prop} (hG : md_G g) (hM : md_M g) (Y : ml_Y g m P D) {k : Nat} (hk : k < m) (hs : ∀ q, md_L g (P k) = some q → post (nI q)) (hn : md_L g (P k) = none → post (-1)) : wpY_led post ((nI (mc_cc g)), (nI (mc_hc g)), f_many, f_there, f_typed, f_wrongNumber, f_wrongPlace, f_size, f_why, f_height, f_objects, f_line, f_begun, f_last, f_end, (ar (mc_p g)), (ar (mc_e g)), (ar (mc_o g)), (mc_r g), (ar (mc_f g)), (ar (mc_t g)), (ar (mc_g g)), (ar (mc_k g)), a_places, a_heights, a_gone, a_worst, a_frames, a_maps, a_high, a_known, a_mapped, a_now, a_sorts, a_ints, a_classes, a_ready) (nI (P k)) := by
  obtain ⟨_, _, _, _, f5⟩ := mg_W Y hk
  exact ya_led hG (mg_V hG hM Y hk) (fun o => Nat.pos_of_ne_zero (fun z => f5 ⟨o, z⟩)) hs hn
theorem ya_step {post : Int32 → SY → Prop} {J33 : _} {J41 : _} {T : mf_T} {gr : Bool} {k : Nat} {hf fd nw : Nat → Nat} (hG : md_G g) (hM : md_M g) (Y : ml_Y g m P D) (hpl : ∀ k, k < m → pl k = P k) (hhi : ∀ k, k < m → hi k = D k) (hk : k < m) (kn : T.1 k = true) (A : mf_A m D T hf fd) (T90 : mn_90 T) (H0 : mf_st g m P D k (T, gr) = none → ∀ (hf' fd' nw' : Nat → Nat) (sz : Int32), post 0 ((nI (mc_cc g)), (nI (mc_hc g)), (nI m), f_there, f_typed, f_wrongNumber, f_wrongPlace, sz, f_why, f_height, f_objects, f_line, f_begun, f_last, f_end, (ar (mc_p g)), (ar (mc_e g)), (ar (mc_o g)), (mc_r g), (ar (mc_f g)), (ar (mc_t g)), (ar (mc_g g)), (ar (mc_k g)), (ar pl), a_heights, a_gone, a_worst, (ar fd'), a_maps, (ar hi), (ar hf'), a_mapped, (ar nw'), a_sorts, a_ints, a_classes, a_ready)) (H1 : ∀ y, mf_st g m P D k (T, gr) = some y → ∀ (hf' fd' nw' : Nat → Nat) (sz : Int32), mf_A m D y.1 hf' fd' → J41 (mf_b y.2) (nI (k + 1)) (nI (mc_cc g)) (nI (mc_hc g)) (nI m) f_there f_typed f_wrongNumber f_wrongPlace sz f_why f_height f_objects f_line f_begun f_last f_end (ar (mc_p g)) (ar (mc_e g)) (ar (mc_o g)) (mc_r g) (ar (mc_f g)) (ar (mc_t g)) (ar (mc_g g)) (ar (mc_k g)) (ar pl) a_heights a_gone a_worst (ar fd') a_maps (ar hi) (ar hf') a_mapped (ar nw') a_sorts a_ints a_classes a_ready) : ∃ n, wY_findTypes_63 post J33 J41 (nI k) n (mf_b gr) 0 (nI (mc_cc g)) (nI (mc_hc g)) (nI m) f_there f_typed f_wrongNumber f_wrongPlace f_size f_why f_height f_objects f_line f_begun f_last f_end (ar (mc_p g)) (ar (mc_e g)) (ar (mc_o g)) (mc_r g) (ar (mc_f g)) (ar (mc_t g)) (ar (mc_g g)) (ar (mc_k g)) (ar pl) a_heights a_gone a_worst (ar fd) a_maps (ar hi) (ar hf) a_mapped (ar nw) a_sorts a_ints a_classes a_ready := by
  have hm := Y.1
  have hcc := hG.1
  have hhc := hG.2.1
  have v := mg_V hG hM Y hk
  have hPl : ∀ k, k < m → P k < 1327104 := fun k hk => md_Vlt hcc (mg_V hG hM Y hk)
  have hpk := hPl k hk
  have hDs : ∀ q, q < m → D q ≤ 6 := fun q hq => mg_D hG hM Y hq
  have th6 := (mg_th Y hk).2
  have L : ∀ e x, x + e = mc_hc g → ∀ (Z : mf_Z) (hf fd nw : Nat → Nat) (sz : Int32), Z = mf_hs g m P k (T.2 k) x (T, gr) → mf_A m D Z.1 hf fd → wY_findTypes_63 post J33 J41 (nI k) (e + 1) (mf_b Z.2) (nI x) (nI (mc_cc g)) (nI (mc_hc g)) (nI m) f_there f_typed f_wrongNumber f_wrongPlace sz f_why f_height f_objects f_line f_begun f_last f_end (ar (mc_p g)) (ar (mc_e g)) (ar (mc_o g)) (mc_r g) (ar (mc_f g)) (ar (mc_t g)) (ar (mc_g g)) (ar (mc_k g)) (ar pl) a_heights a_gone a_worst (ar fd) a_maps (ar hi) (ar hf) a_mapped (ar nw) a_sorts a_ints a_classes a_ready := by
    intro e
    induction e with
    | zero =>
      intro x hx Z hf fd nw sz eZ A
      have ex : x = mc_hc g := by omega
      subst ex
      refine pk_le (mc_hc g) (mc_hc g) (fun _ => ?_) (fun c => by omega)
      have kZ : Z.1.1 k = true := by rw [eZ]; exact mn_hsk kn _
      have Z90 : mn_90 Z.1 := by rw [eZ]; exact mn_hs90 hG T90 (T90 k) _
      refine ya_takeF (by omega) (hDs k hk) (hhi k hk) (fun nw1 h1 => ?_)
      refine ya_does hG hM Y hpl hk rfl (Z90 k) (fun s hs => (h1 s hs).trans (A.2 k hk kZ s hs)) (fun nd nw2 h2 => xb_1 ⟨vp_in_nI (by omega) (by omega), ?_⟩) (fun nd sz nw2 => xb_0 (H0 ?_ hf fd nw2 sz))
      · have c90 := mn_cg90 (P := P) hG (show k < 40 by omega) (Z90 k) nd
        have st : mf_st g m P D k (T, gr) = some (mf_gj g m P k (4 + md_th g (P k) (D k)) (mf_cg g P k (D k) (Z.1.2 k)) (mf_gb g P k (4 + md_th g (P k) (D k)) (mf_cg g P k (D k) (Z.1.2 k)) Z)) := by
          unfold mf_st
          dsimp only
          rw [← eZ, if_pos nd]
        have jmp : ∀ (W : mf_Z) (hf fd : Nat → Nat) (x8 : Int32), W = mf_gb g P k (4 + md_th g (P k) (D k)) (mf_cg g P k (D k) (Z.1.2 k)) Z → mf_A m D W.1 hf fd → mn_90 W.1 → ((md_L g (P k) = none ∧ x8 = -1) ∨ ∃ q, md_L g (P k) = some q ∧ x8 = nI q) → wY_findTypes_154 post J33 J41 (mf_b W.2) (nI k) x8 (nI (mc_cc g)) (nI (mc_hc g)) (nI m) f_there f_typed f_wrongNumber f_wrongPlace (nI (md_th g (P k) (D k))) f_why f_height f_objects f_line f_begun f_last f_end (ar (mc_p g)) (ar (mc_e g)) (ar (mc_o g)) (mc_r g) (ar (mc_f g)) (ar (mc_t g)) (ar (mc_g g)) (ar (mc_k g)) (ar pl) a_heights a_gone a_worst (ar fd) a_maps (ar hi) (ar hf) a_mapped (ar nw2) a_sorts a_ints a_classes a_ready := by
          intro W hf fd x8 eW A W90 h8
          unfold wY_findTypes_154
          rw [← eW] at st
          rcases h8 with ⟨hq, rfl⟩ | ⟨q, hq, rfl⟩
          · refine xb_m (nm_r (nI_1 k) ?_)
            unfold mf_gj at st
            rw [hq] at st
            exact H1 _ st hf fd nw2 _ A
          · obtain ⟨j, hj, ej, eD⟩ := mg_j Y hk hq
            have ix : mf_ix P m q = j := by rw [← ej]; exact mf_ix_eq m j Y.2.1 hj
            have := hPl j hj
            refine xb_n (by omega) (ya_give hG hm hj hpl hPl Y.2.1 ej eD.symm hDs A W90 c90 h2 (fun hf' fd' A' => ?_))
            rw [yb_or]
            unfold mf_gj at st
            rw [hq] at st
            dsimp only at st
            rw [ix] at st
            exact nm_e (nm_r (nI_1 k) (H1 _ st hf' fd' nw2 _ A'))
        rw [ar_at _ (by omega), hpl k hk]
        refine ya_bh hG v (fun b => ⟨vp_in_nI (by omega) (by omega), ?_⟩) (fun b => ⟨vp_in_nI (by omega) (by omega), ?_⟩)
        · obtain ⟨hk1, eP, eD⟩ := mg_b Y hk b
          have go : ∀ x8 : Int32, ((md_L g (P k) = none ∧ x8 = -1) ∨ ∃ q, md_L g (P k) = some q ∧ x8 = nI q) → wpY_give (fun r_281 u => match u with | (f_length, f_handlers, f_many, f_there, f_typed, f_wrongNumber, f_wrongPlace, f_size, f_why, f_height, f_objects, f_line, f_begun, f_last, f_end, a_parent, a_begin, a_op, a_arg, a_from, a_to, a_target, a_caught, a_places, a_heights, a_gone, a_worst, a_frames, a_maps, a_high, a_known, a_mapped, a_now, a_sorts, a_ints, a_classes, a_ready) => ∀ x1_319, x1_319 = mf_b Z.2 ||| r_281 → wY_findTypes_154 post J33 J41 x1_319 (nI k) x8 f_length f_handlers f_many f_there f_typed f_wrongNumber f_wrongPlace f_size f_why f_height f_objects f_line f_begun f_last f_end a_parent a_begin a_op a_arg a_from a_to a_target a_caught a_places a_heights a_gone a_worst a_frames a_maps a_high a_known a_mapped a_now a_sorts a_ints a_classes a_ready) ((nI (mc_cc g)), (nI (mc_hc g)), (nI m), f_there, f_typed, f_wrongNumber, f_wrongPlace, (nI (md_th g (P k) (D k))), f_why, f_height, f_objects, f_line, f_begun, f_last, f_end, (ar (mc_p g)), (ar (mc_e g)), (ar (mc_o g)), (mc_r g), (ar (mc_f g)), (ar (mc_t g)), (ar (mc_g g)), (ar (mc_k g)), (ar pl), a_heights, a_gone, a_worst, (ar fd), a_maps, (ar hi), (ar hf), a_mapped, (ar nw2), a_sorts, a_ints, a_classes, a_ready) (nI (P k + 1)) := by
            intro x8 h8
            refine ya_give hG hm hk1 hpl hPl Y.2.1 eP eD.symm hDs A Z90 c90 h2 (fun hf' fd' A' => ?_)
            dsimp only
            rw [yb_or]
            have eW : (mf_gv g Z.1 (k + 1) (4 + md_th g (P k) (D k)) (mf_cg g P k (D k) (Z.1.2 k)), Z.2 || mf_fl g Z.1 (k + 1) (4 + md_th g (P k) (D k)) (mf_cg g P k (D k) (Z.1.2 k))) = mf_gb g P k (4 + md_th g (P k) (D k)) (mf_cg g P k (D k) (Z.1.2 k)) Z := by
              unfold mf_gb mf_g1
              rw [if_pos b]
            exact nm_e (jmp _ hf' fd' x8 eW A' (by rw [eW]; unfold mf_gb; rw [if_pos b]; exact mn_g90 hG.2.2.2.2.2.1 Z90 c90) h8)
          refine ya_led2 hG hM Y hk (fun q hq => xb_n (by omega) (go _ (Or.inr ⟨q, hq, rfl⟩))) (fun hq => xb_n (by omega) (go _ (Or.inl ⟨hq, rfl⟩)))
        · have eW : Z = mf_gb g P k (4 + md_th g (P k) (D k)) (mf_cg g P k (D k) (Z.1.2 k)) Z := by
            unfold mf_gb; rw [if_neg b]
          refine ya_led2 hG hM Y hk (fun q hq => xb_m (jmp Z hf fd _ eW A Z90 (Or.inr ⟨q, hq, rfl⟩))) (fun hq => xb_m (jmp Z hf fd _ eW A Z90 (Or.inl ⟨hq, rfl⟩)))
      · unfold mf_st
        dsimp only
        rw [← eZ, if_neg nd]
    | succ e ih =>
      intro x hx Z hf fd nw sz eZ A
      refine pk_le (mc_hc g) x (fun c => by omega) (fun _ => ⟨vp_in_nI (by omega) (by omega), ?_⟩)
      rw [ar_at _ (by omega), hpl k hk]
      refine ya_cov hG (by omega) (by omega) (fun cv => xb_1 ?_) (fun cv => xb_0 ?_)
      · have kZ : Z.1.1 k = true := by rw [eZ]; exact mn_hsk kn _
        have Z90 : mn_90 Z.1 := by rw [eZ]; exact mn_hs90 hG T90 (T90 k) _
        obtain ⟨j, hj, ej, eD⟩ := mg_h Y hk (by omega) cv
        have ix : mf_ix P m (md_at (P k) (mc_g g x)) = j := by rw [← ej]; exact mf_ix_eq m j Y.2.1 hj
        refine ya_throw (f := T.2 k) hG hM Y hpl hhi hk (by omega) kZ A Z90 (T90 k) (fun s hs => by rw [eZ]; exact mf_hs_keep (z := (T, gr)) kn x s hs) hj ej eD (fun hf' fd' nw' A' => ?_)
        rw [yb_or]
        have eW : (mf_gv g Z.1 j 5 (mf_hf g (T.2 k) x), Z.2 || mf_fl g Z.1 j 5 (mf_hf g (T.2 k) x)) = mf_hs g m P k (T.2 k) (x + 1) (T, gr) := by
          show _ = if md_cv g x (P k) then mf_g1 g (mf_hs g m P k (T.2 k) x (T, gr)) (mf_ix P m (md_at (P k) (mc_g g x))) 5 (mf_hf g (T.2 k) x) else _
          rw [if_pos cv, ← eZ, ix]; rfl
        exact nm_e (nm_r (nI_1 x) (ih (x + 1) (by omega) _ hf' fd' nw' _ eW A'))
      · have eW : Z = mf_hs g m P k (T.2 k) (x + 1) (T, gr) := by
          show _ = if md_cv g x (P k) then mf_g1 g (mf_hs g m P k (T.2 k) x (T, gr)) (mf_ix P m (md_at (P k) (mc_g g x))) 5 (mf_hf g (T.2 k) x) else _
          rw [if_neg cv]; exact eZ
        exact nm_r (nI_1 x) (ih (x + 1) (by omega) Z hf fd nw sz eW A)
  exact ⟨mc_hc g + 1, L (mc_hc g) 0 (by omega) (T, gr) hf fd nw _ rfl A⟩
theorem ya_round {post : Int32 → SY → Prop} {J33 : _} {T0 : mf_T} (hG : md_G g) (hM : md_M g) (Y : ml_Y g m P D) (hpl : ∀ k, k < m → pl k = P k) (hhi : ∀ k, k < m → hi k = D k) (T90 : mn_90 T0) (H0 : mf_rd g m P D m (T0, false) = none → ∀ (hf' fd' nw' : Nat → Nat) (sz : Int32), post 0 ((nI (mc_cc g)), (nI (mc_hc g)), (nI m), f_there, f_typed, f_wrongNumber, f_wrongPlace, sz, f_why, f_height, f_objects, f_line, f_begun, f_last, f_end, (ar (mc_p g)), (ar (mc_e g)), (ar (mc_o g)), (mc_r g), (ar (mc_f g)), (ar (mc_t g)), (ar (mc_g g)), (ar (mc_k g)), (ar pl), a_heights, a_gone, a_worst, (ar fd'), a_maps, (ar hi), (ar hf'), a_mapped, (ar nw'), a_sorts, a_ints, a_classes, a_ready)) (H1 : ∀ y, mf_rd g m P D m (T0, false) = some y → ∀ (hf' fd' nw' : Nat → Nat) (sz : Int32), mf_A m D y.1 hf' fd' → J33 (mf_b y.2) (nI (mc_cc g)) (nI (mc_hc g)) (nI m) f_there f_typed f_wrongNumber f_wrongPlace sz f_why f_height f_objects f_line f_begun f_last f_end (ar (mc_p g)) (ar (mc_e g)) (ar (mc_o g)) (mc_r g) (ar (mc_f g)) (ar (mc_t g)) (ar (mc_g g)) (ar (mc_k g)) (ar pl) a_heights a_gone a_worst (ar fd') a_maps (ar hi) (ar hf') a_mapped (ar nw') a_sorts a_ints a_classes a_ready) : ∀ e k, k + e = m → ∀ (Z : mf_Z) (hf fd nw : Nat → Nat) (sz : Int32), mf_rd g m P D k (T0, false) = some Z → mf_A m D Z.1 hf fd → wY_findTypes_41 post J33 (e + 1) (mf_b Z.2) (nI k) (nI (mc_cc g)) (nI (mc_hc g)) (nI m) f_there f_typed f_wrongNumber f_wrongPlace sz f_why f_height f_objects f_line f_begun f_last f_end (ar (mc_p g)) (ar (mc_e g)) (ar (mc_o g)) (mc_r g) (ar (mc_f g)) (ar (mc_t g)) (ar (mc_g g)) (ar (mc_k g)) (ar pl) a_heights a_gone a_worst (ar fd) a_maps (ar hi) (ar hf) a_mapped (ar nw) a_sorts a_ints a_classes a_ready := by
  have hm := Y.1
  intro e
  induction e with
  | zero =>
    intro k hk Z hf fd nw sz eZ A
    have ek : k = m := by omega
    subst ek
    exact pk_le k k (fun _ => H1 Z eZ hf fd nw sz A) (fun c => by omega)
  | succ e ih =>
    intro k hk Z hf fd nw sz eZ A
    refine pk_le m k (fun c => by omega) (fun _ => ⟨vp_in_nI (by omega) (by omega), ?_⟩)
    rw [ar_at _ (by omega), A.1 k (by omega)]
    have Z90 := mi_rd90 hG hm k _ Z (by omega) eZ T90
    cases kk : Z.1.1 k with
    | false =>
      refine xb_0 (nm_r (nI_1 k) (ih (k + 1) (by omega) Z hf fd nw sz ?_ A))
      simp only [mf_rd]; rw [eZ]; dsimp only; rw [kk]; simp
    | true =>
      refine xb_1 ?_
      have nx : mf_rd g m P D (k + 1) (T0, false) = mf_st g m P D k Z := by
        simp only [mf_rd]; rw [eZ]; dsimp only; rw [kk]; simp
      refine ya_step (T := Z.1) (gr := Z.2) hG hM Y hpl hhi (by omega) kk A Z90 (fun hn hf' fd' nw' sz' => H0 ?_ hf' fd' nw' sz') (fun y hy hf' fd' nw' sz' A' => ih (k + 1) (by omega) y hf' fd' nw' sz' (nx.trans hy) A')
      have := mi_rdn (g := g) (m := m) (P := P) (D := D) e (k + 1) (T0, false) (nx.trans hn)
      rw [show k + 1 + e = m by omega] at this
      exact this
theorem ya_rounds {post : Int32 → SY → Prop} (hG : md_G g) (hM : md_M g) (Y : ml_Y g m P D) (hpl : ∀ k, k < m → pl k = P k) (hhi : ∀ k, k < m → hi k = D k) : ∀ n (T : mf_T) (hf fd nw : Nat → Nat) (sz : Int32), mf_mu m T < n → mn_90 T → mf_A m D T hf fd → (mf_it g m P D n T = none → ∀ (hf' fd' nw' : Nat → Nat) (sz : Int32), post 0 ((nI (mc_cc g)), (nI (mc_hc g)), (nI m), f_there, f_typed, f_wrongNumber, f_wrongPlace, sz, f_why, f_height, f_objects, f_line, f_begun, f_last, f_end, (ar (mc_p g)), (ar (mc_e g)), (ar (mc_o g)), (mc_r g), (ar (mc_f g)), (ar (mc_t g)), (ar (mc_g g)), (ar (mc_k g)), (ar pl), a_heights, a_gone, a_worst, (ar fd'), a_maps, (ar hi), (ar hf'), a_mapped, (ar nw'), a_sorts, a_ints, a_classes, a_ready)) → (∀ T', mf_it g m P D n T = some T' → ∀ (hf' fd' nw' : Nat → Nat) (sz : Int32), mf_A m D T' hf' fd' → post 1 ((nI (mc_cc g)), (nI (mc_hc g)), (nI m), f_there, f_typed, f_wrongNumber, f_wrongPlace, sz, f_why, f_height, f_objects, f_line, f_begun, f_last, f_end, (ar (mc_p g)), (ar (mc_e g)), (ar (mc_o g)), (mc_r g), (ar (mc_f g)), (ar (mc_t g)), (ar (mc_g g)), (ar (mc_k g)), (ar pl), a_heights, a_gone, a_worst, (ar fd'), a_maps, (ar hi), (ar hf'), a_mapped, (ar nw'), a_sorts, a_ints, a_classes, a_ready)) → wY_findTypes_33 post (n + 1) 1 (nI (mc_cc g)) (nI (mc_hc g)) (nI m) f_there f_typed f_wrongNumber f_wrongPlace sz f_why f_height f_objects f_line f_begun f_last f_end (ar (mc_p g)) (ar (mc_e g)) (ar (mc_o g)) (mc_r g) (ar (mc_f g)) (ar (mc_t g)) (ar (mc_g g)) (ar (mc_k g)) (ar pl) a_heights a_gone a_worst (ar fd) a_maps (ar hi) (ar hf) a_mapped (ar nw) a_sorts a_ints a_classes a_ready := by
  intro n
  induction n with
  | zero => intro T hf fd nw sz h; omega
  | succ n ih =>
    intro T hf fd nw sz hmu T90 A H0 H1
    refine xb_1 ⟨m + 1, ?_⟩
    refine ya_round hG hM Y hpl hhi T90 (fun hn => ?_) (fun y hy hf' fd' nw' sz' A' => ?_) m 0 (by omega) (T, false) hf fd nw sz rfl A
    · refine H0 ?_
      simp only [mf_it]; rw [hn]
    · have Q := mg_Qrd hG.2.2.2.2.2.1 Y m _ y (Nat.le_refl _) hy
      have y90 := mi_rd90 hG Y.1 m _ y (Nat.le_refl _) hy T90
      have it : mf_it g m P D (n + 1) T = if y.2 = true then mf_it g m P D n y.1 else some y.1 := by
        simp only [mf_it]; rw [hy]
      cases fy : y.2 with
      | true =>
        rw [fy] at it
        rw [if_pos rfl] at it
        rcases Q.2 fy with z | z
        · cases z
        · have z' : mf_mu m y.1 < mf_mu m T := z
          exact ih y.1 hf' fd' nw' sz' (by omega) y90 A' (fun h => H0 (it.trans h)) (fun T' h => H1 T' (it.trans h))
      | false =>
        rw [fy] at it
        rw [if_neg (by simp)] at it
        exact xb_0 (H1 y.1 it hf' fd' nw' sz' A')
theorem ya_start {post : SY → Prop} {nw : Nat → Nat} (H : ∀ nw' : Nat → Nat, (∀ s, s < 4 → nw' s = mc_e g s) → post ((nI (mc_cc g)), (nI (mc_hc g)), f_many, f_there, f_typed, f_wrongNumber, f_wrongPlace, 0, f_why, f_height, f_objects, f_line, f_begun, f_last, f_end, (ar (mc_p g)), (ar (mc_e g)), (ar (mc_o g)), (mc_r g), (ar (mc_f g)), (ar (mc_t g)), (ar (mc_g g)), (ar (mc_k g)), a_places, a_heights, a_gone, a_worst, a_frames, a_maps, a_high, a_known, a_mapped, (ar nw'), a_sorts, a_ints, a_classes, a_ready)) : wpY_start post ((nI (mc_cc g)), (nI (mc_hc g)), f_many, f_there, f_typed, f_wrongNumber, f_wrongPlace, f_size, f_why, f_height, f_objects, f_line, f_begun, f_last, f_end, (ar (mc_p g)), (ar (mc_e g)), (ar (mc_o g)), (mc_r g), (ar (mc_f g)), (ar (mc_t g)), (ar (mc_g g)), (ar (mc_k g)), a_places, a_heights, a_gone, a_worst, a_frames, a_maps, a_high, a_known, a_mapped, (ar nw), a_sorts, a_ints, a_classes, a_ready) := by
  have L : ∀ e s, s + e = 4 → ∀ fr : Nat → Nat, (∀ t, t < s → fr t = mc_e g t) → wY_start_7 post (nI (mc_cc g)) (nI (mc_hc g)) f_many f_there f_typed f_wrongNumber f_wrongPlace 0 f_why f_height f_objects f_line f_begun f_last f_end (e + 1) (nI s) (ar (mc_p g)) (ar (mc_e g)) (ar (mc_o g)) (mc_r g) (ar (mc_f g)) (ar (mc_t g)) (ar (mc_g g)) (ar (mc_k g)) a_places a_heights a_gone a_worst a_frames a_maps a_high a_known a_mapped (ar fr) a_sorts a_ints a_classes a_ready := by
    intro e
    induction e with
    | zero =>
      intro s hs fr h
      exact pk_le 4 s (fun _ => H fr (fun t ht => h t (by omega))) (fun c => by omega)
    | succ e ih =>
      intro s hs fr h
      refine pk_le 4 s (fun c => by omega) (fun _ => ?_)
      rw [ar_at _ (by omega)]
      refine ⟨vp_in_nI (by omega) (by omega), vp_in_nI (by omega) (by omega), nm_r (ar_ui _ _ (by omega)) (nm_r (nI_1 s) (ih (s + 1) (by omega) _ (fun t ht => ?_)))⟩
      by_cases q : t = s
      · subst q; exact up_s
      · rw [up_n q]; exact h t (by omega)
  unfold wpY_start
  dsimp only
  exact ⟨5, L 4 0 rfl nw (fun t ht => by omega)⟩
theorem ya_find {post : Int32 → SY → Prop} {hf fd nw : Nat → Nat} (hG : md_G g) (hM : md_M g) (Y : ml_Y g m P D) (hpl : ∀ k, k < m → pl k = P k) (hhi : ∀ k, k < m → hi k = D k) (H0 : mf_it g m P D 4000 (mf_T0 g) = none → ∀ (hf' fd' nw' : Nat → Nat) (sz : Int32), post 0 ((nI (mc_cc g)), (nI (mc_hc g)), (nI m), f_there, f_typed, f_wrongNumber, f_wrongPlace, sz, f_why, f_height, f_objects, f_line, f_begun, f_last, f_end, (ar (mc_p g)), (ar (mc_e g)), (ar (mc_o g)), (mc_r g), (ar (mc_f g)), (ar (mc_t g)), (ar (mc_g g)), (ar (mc_k g)), (ar pl), a_heights, a_gone, a_worst, (ar fd'), a_maps, (ar hi), (ar hf'), a_mapped, (ar nw'), a_sorts, a_ints, a_classes, a_ready)) (H1 : ∀ T', mf_it g m P D 4000 (mf_T0 g) = some T' → ∀ (hf' fd' nw' : Nat → Nat) (sz : Int32), mf_A m D T' hf' fd' → post 1 ((nI (mc_cc g)), (nI (mc_hc g)), (nI m), f_there, f_typed, f_wrongNumber, f_wrongPlace, sz, f_why, f_height, f_objects, f_line, f_begun, f_last, f_end, (ar (mc_p g)), (ar (mc_e g)), (ar (mc_o g)), (mc_r g), (ar (mc_f g)), (ar (mc_t g)), (ar (mc_g g)), (ar (mc_k g)), (ar pl), a_heights, a_gone, a_worst, (ar fd'), a_maps, (ar hi), (ar hf'), a_mapped, (ar nw'), a_sorts, a_ints, a_classes, a_ready)) : wpY_findTypes post ((nI (mc_cc g)), (nI (mc_hc g)), (nI m), f_there, f_typed, f_wrongNumber, f_wrongPlace, f_size, f_why, f_height, f_objects, f_line, f_begun, f_last, f_end, (ar (mc_p g)), (ar (mc_e g)), (ar (mc_o g)), (mc_r g), (ar (mc_f g)), (ar (mc_t g)), (ar (mc_g g)), (ar (mc_k g)), (ar pl), a_heights, a_gone, a_worst, (ar fd), a_maps, (ar hi), (ar hf), a_mapped, (ar nw), a_sorts, a_ints, a_classes, a_ready) := by
  have hm := Y.1
  have hcc := hG.1
  obtain ⟨m0, P0, D0⟩ := mg_0 Y
  have hPl : ∀ k, k < m → P k < 1327104 := fun k hk => md_Vlt hcc (mg_V hG hM Y hk)
  have hDs : ∀ q, q < m → D q ≤ 6 := fun q hq => mg_D hG hM Y hq
  have L : ∀ e k, k + e = m → ∀ hf : Nat → Nat, (∀ t, t < k → hf t = 0) → wY_findTypes_2 post (nI (mc_cc g)) (nI (mc_hc g)) (nI m) f_there f_typed f_wrongNumber f_wrongPlace f_size f_why f_height f_objects f_line f_begun f_last f_end (e + 1) (nI k) (ar (mc_p g)) (ar (mc_e g)) (ar (mc_o g)) (mc_r g) (ar (mc_f g)) (ar (mc_t g)) (ar (mc_g g)) (ar (mc_k g)) (ar pl) a_heights a_gone a_worst (ar fd) a_maps (ar hi) (ar hf) a_mapped (ar nw) a_sorts a_ints a_classes a_ready := by
    intro e
    induction e with
    | zero =>
      intro k hk hf h
      refine pk_le m k (fun _ => ?_) (fun c => by omega)
      refine ya_start (fun nw1 h1 => ?_)
      refine ya_give (q := 0) (p := 0) (d := 0) (T := (fun _ => false, fun _ _ => 0)) (f := mc_e g) hG hm m0 hpl hPl Y.2.1 P0 D0.symm hDs ⟨fun q hq => h q (by omega), fun q _ z => (by cases z)⟩ (fun p s => by show 0 ≤ 90; omega) (fun s => by have := hG.2.2.2.2.2.2 s; omega) (fun s hs => h1 s (by omega)) (fun hf' fd' A' => ⟨4001, ?_⟩)
      have ef : mf_fl g (fun _ => false, fun _ _ => 0) 0 (4 + 0) (mc_e g) = true := by unfold mf_fl; simp
      rw [ef]
      have mub := mf_mu_b m (mf_T0 g) hm
      exact ya_rounds hG hM Y hpl hhi 4000 (mf_T0 g) hf' fd' nw1 _ (by omega) (mf_T0_90 hG) A' H0 H1
    | succ e ih =>
      intro k hk hf h
      refine pk_le m k (fun c => by omega) (fun _ => ⟨vp_in_nI (by omega) (by omega), nm_r (e' := ar (mf_up hf k 0)) (by rw [mi_n0]; exact ar_ui hf 0 (by omega)) (nm_r (nI_1 k) (ih (k + 1) (by omega) _ (fun t ht => ?_)))⟩)
      by_cases q : t = k
      · subst q; exact up_s
      · rw [up_n q]; exact h t (by omega)
  unfold wpY_findTypes
  dsimp only
  exact ⟨m + 1, L m 0 (by omega) hf (fun t ht => by omega)⟩
end
