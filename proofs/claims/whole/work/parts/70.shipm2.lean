/-! SHIP: the reference, the whole call -/
section
variable {d : Nat} {σ u τ : fg_St} {Q : Int32 → fg_St → Prop} {z : fg_Z} {w : Nat → Int32} {P : fg_GP} {I : fg_GI} {T : fg_GT} {v : Int32} {s : Nat} {R : fg_GR} {B : fg_GB} {S : fg_PS}
theorem l_MO_err {e : Nat × Nat} (hP : fg_prs T = .error e) (m : fg_s8 σ τ) (hM : fg_ME τ T e) (HE : ∀ e u, fg_prs T = .error e → fg_sm fg_pN σ u → fg_sn (fun k => fg_pF8 k || k == 10) fg_pV σ u → fg_TxM u (0, T.2) → fg_F u 187 11 = nI e.2 → Q ((-10) - nI e.1) u) : fg_Run (d + 1) 126 32 [some (.ref 187), some (.int (nI e.1))] [] τ Q := by
  have hn := hM.1
  refine b_MO_ship_32 ⟨fun _ => ⟨fun q => absurd q (nI_nle (by omega) (by omega)), fun _ => HE e _ hP (m.1.tr (fg_sm_F (by decide))) ?_ ⟨Nat.zero_le _, rfl, fun i hi => absurd hi (Nat.not_lt_zero _)⟩ hM.2.1⟩, fun q => absurd q (nI_ne0 (by omega) (by omega))⟩
  exact (m.2.wk (fun k hk => by simp only [Bool.or_eq_false_iff] at hk; exact hk.1) (fun _ q => q)).tr (fg_sn_F (by decide))
theorem l_MO_fin (hw : fg_R σ 191 = w) (hs : s < 2 ^ 31 ∧ fg_F σ 187 8 = nI s) (hP : fg_prs T = .ok S) (ok : fg_Sok S) (m : fg_s8 σ τ) (r : fg_RS τ S) (f11 : fg_F τ 187 11 = -1) (HO : ∀ S u, fg_prs T = .ok S → fg_sm fg_pN σ u → fg_RI u S.1 (fg_w61 (fg_w0 S) w) (0, P.2) ((fun _ => false), I.2) (0, T.2) (-1) s (0, R.2) (0, B.2) → Q (nI (fg_zs S.1)) u) : (∃ P, fg_Run (d + 1) 124 0 [some (.ref 193), some (.ref 188), some (.int (fg_F τ 187 16)), none] [] (fg_sF (fg_sF (fg_sF (fg_sF (fg_sF τ 187 10 0) 187 0 (fg_F τ 187 14)) 187 1 (fg_F τ 187 15)) 187 2 (fg_F τ 187 16)) 187 4 (fg_F τ 187 18)) P ∧ ∀ x1 u2, P x1 u2 → (∃ P, fg_Run (d + 1) 124 0 [some (.ref 194), some (.ref 189), some (.int (fg_F u2 187 4)), none] [] u2 P ∧ ∀ x3 u4, P x3 u4 → (∃ P, fg_Run (d + 1) 124 0 [some (.ref 195), some (.ref 190), some (.int (4 * (fg_F u4 187 4))), none] [] u4 P ∧ ∀ x5 u6, P x5 u6 → (∃ P, fg_Run (d + 1) 125 0 [some (.ref 187), none] [] u6 P ∧ ∀ x7 u8, P x7 u8 → Q (fg_F u8 187 4) (fg_sR (fg_sR (fg_sF (fg_sF (fg_sF u8 187 26 0) 187 32 0) 187 30 0) 208 0 0) 208 1 0))))) := by
  have z1 := ok.1.1.1
  have z3 := ok.1.1.2.2.1
  have z4 := ok.1.1.2.2.2
  have H := fun u => HO S u hP
  rw [r.1.1, r.1.2.1, r.1.2.2.1, r.1.2.2.2]
  have mρ : fg_sm fg_pN τ (fg_sF (fg_sF (fg_sF (fg_sF (fg_sF τ 187 10 0) 187 0 (nI (fg_zH S.1))) 187 1 (nI (fg_zN S.1))) 187 2 (nI (fg_zf S.1))) 187 4 (nI (fg_zs S.1))) := ((((fg_sm_F (by decide)).tr (fg_sm_F (by decide))).tr (fg_sm_F (by decide))).tr (fg_sm_F (by decide))).tr (fg_sm_F (by decide))
  have Fρ : (fg_F (fg_sF (fg_sF (fg_sF (fg_sF (fg_sF τ 187 10 0) 187 0 (nI (fg_zH S.1))) 187 1 (nI (fg_zN S.1))) 187 2 (nI (fg_zf S.1))) 187 4 (nI (fg_zs S.1))) 187 0 = nI (fg_zH S.1) ∧ fg_F (fg_sF (fg_sF (fg_sF (fg_sF (fg_sF τ 187 10 0) 187 0 (nI (fg_zH S.1))) 187 1 (nI (fg_zN S.1))) 187 2 (nI (fg_zf S.1))) 187 4 (nI (fg_zs S.1))) 187 1 = nI (fg_zN S.1) ∧ fg_F (fg_sF (fg_sF (fg_sF (fg_sF (fg_sF τ 187 10 0) 187 0 (nI (fg_zH S.1))) 187 1 (nI (fg_zN S.1))) 187 2 (nI (fg_zf S.1))) 187 4 (nI (fg_zs S.1))) 187 2 = nI (fg_zf S.1) ∧ fg_F (fg_sF (fg_sF (fg_sF (fg_sF (fg_sF τ 187 10 0) 187 0 (nI (fg_zH S.1))) 187 1 (nI (fg_zN S.1))) 187 2 (nI (fg_zf S.1))) 187 4 (nI (fg_zs S.1))) 187 4 = nI (fg_zs S.1)) ∧ fg_F (fg_sF (fg_sF (fg_sF (fg_sF (fg_sF τ 187 10 0) 187 0 (nI (fg_zH S.1))) 187 1 (nI (fg_zN S.1))) 187 2 (nI (fg_zf S.1))) 187 4 (nI (fg_zs S.1))) 187 10 = 0 ∧ fg_F (fg_sF (fg_sF (fg_sF (fg_sF (fg_sF τ 187 10 0) 187 0 (nI (fg_zH S.1))) 187 1 (nI (fg_zN S.1))) 187 2 (nI (fg_zf S.1))) 187 4 (nI (fg_zs S.1))) 187 11 = -1 ∧ fg_F (fg_sF (fg_sF (fg_sF (fg_sF (fg_sF τ 187 10 0) 187 0 (nI (fg_zH S.1))) 187 1 (nI (fg_zN S.1))) 187 2 (nI (fg_zf S.1))) 187 4 (nI (fg_zs S.1))) 187 8 = nI s := ⟨⟨rfl, rfl, rfl, rfl⟩, rfl, f11, (m.2.1 8 rfl).trans hs.2⟩
  have Rρ : ∀ g k, fg_R (fg_sF (fg_sF (fg_sF (fg_sF (fg_sF τ 187 10 0) 187 0 (nI (fg_zH S.1))) 187 1 (nI (fg_zN S.1))) 187 2 (nI (fg_zf S.1))) 187 4 (nI (fg_zs S.1))) g k = fg_R τ g k := fun _ _ => rfl
  generalize fg_sF (fg_sF (fg_sF (fg_sF (fg_sF τ 187 10 0) 187 0 (nI (fg_zH S.1))) 187 1 (nI (fg_zN S.1))) 187 2 (nI (fg_zf S.1))) 187 4 (nI (fg_zs S.1)) = ρ at mρ Fρ Rρ ⊢
  refine fg_use (r_MO_copy (h1 := 193) (h2 := 188) (by decide) (by decide) (show _ ≤ 10 from z3) (show _ ≤ 10 from z3) (by decide) (by decide) (by decide) (fun u2 m2 h2 => ?_))
  have q2 := (m2.2 187 (by decide)).1
  rw [show fg_F u2 187 4 = nI (fg_zs S.1) from (q2 4).trans Fρ.1.2.2.2]
  refine fg_use (r_MO_copy (h1 := 194) (h2 := 189) (by decide) (by decide) (show _ ≤ 10 from z4) (show _ ≤ 10 from z4) (by decide) (by decide) (by decide) (fun u4 m4 h4 => ?_))
  have q4 := (m4.2 187 (by decide)).1
  have e4 : 4 * nI (fg_zs S.1) = nI (4 * fg_zs S.1) := by rw [show (4 : Int32) = nI 4 from rfl, pk_mul]
  rw [show fg_F u4 187 4 = nI (fg_zs S.1) from (q4 4).trans ((q2 4).trans Fρ.1.2.2.2), e4]
  refine fg_use (r_MO_copy (h1 := 195) (h2 := 190) (by decide) (by decide) (show _ ≤ 40 by omega) (show _ ≤ 40 by omega) (by decide) (by decide) (by decide) (fun u6 m6 h6 => ?_))
  have q6 := (m6.2 187 (by decide)).1
  have F6 : ∀ k, fg_F u6 187 k = fg_F ρ 187 k := fun k => (q6 k).trans ((q4 k).trans (q2 k))
  have R6 : ∀ g, g ≠ 188 → g ≠ 189 → g ≠ 190 → ∀ k, fg_R u6 g k = fg_R τ g k := fun g g1 g2 g3 k => ((m6.2 g (by simpa using g3)).2 k).trans (((m4.2 g (by simpa using g2)).2 k).trans (((m2.2 g (by simpa using g1)).2 k).trans (Rρ g k)))
  have w6 : fg_R u6 191 = w := (funext (R6 191 (by decide) (by decide) (by decide))).trans ((funext (m.2.2 191 rfl)).trans hw)
  refine fg_use (r_MO_begin ok ((F6 0).trans Fρ.1.1) ((F6 2).trans Fρ.1.2.2.1) (fun g hg => ?_) (fun u8 m8 e8 => ?_))
  · rw [(m6.2 188 (by decide)).2 g, (m4.2 188 (by decide)).2 g, h2 g, if_pos hg, Rρ]
    exact r.2.1 g hg
  · rw [w6] at e8
    have q8 := (m8.2 187 (by decide)).1
    have F8 : ∀ k, fg_F u8 187 k = fg_F ρ 187 k := fun k => (q8 k).trans (F6 k)
    rw [show fg_F u8 187 4 = nI (fg_zs S.1) from (F8 4).trans Fρ.1.2.2.2]
    have mX : fg_sm fg_pN u8 (fg_sR (fg_sR (fg_sF (fg_sF (fg_sF u8 187 26 0) 187 32 0) 187 30 0) 208 0 0) 208 1 0) := ((((fg_sm_F (by decide)).tr (fg_sm_F (by decide))).tr (fg_sm_F (by decide))).tr (fg_sm_R (by decide))).tr (fg_sm_R (by decide))
    have nX : fg_sn (fun k => k == 26 || k == 32 || k == 30) (fun g => g == 208) u8 (fg_sR (fg_sR (fg_sF (fg_sF (fg_sF u8 187 26 0) 187 32 0) 187 30 0) 208 0 0) 208 1 0) := ((((fg_sn_F (by decide)).tr (fg_sn_F (by decide))).tr (fg_sn_F (by decide))).tr (fg_sn_R (by decide))).tr (fg_sn_R (by decide))
    have FX : fg_F (fg_sR (fg_sR (fg_sF (fg_sF (fg_sF u8 187 26 0) 187 32 0) 187 30 0) 208 0 0) 208 1 0) 187 26 = 0 ∧ fg_F (fg_sR (fg_sR (fg_sF (fg_sF (fg_sF u8 187 26 0) 187 32 0) 187 30 0) 208 0 0) 208 1 0) 187 32 = 0 ∧ fg_F (fg_sR (fg_sR (fg_sF (fg_sF (fg_sF u8 187 26 0) 187 32 0) 187 30 0) 208 0 0) 208 1 0) 187 30 = 0 := ⟨rfl, rfl, rfl⟩
    have RX : ∀ i, i < 2 → fg_R (fg_sR (fg_sR (fg_sF (fg_sF (fg_sF u8 187 26 0) 187 32 0) 187 30 0) 208 0 0) 208 1 0) 208 i = 0 := fun i hi => by
      rw [fg_R_eq]
      by_cases e : i = 1
      · rw [e, fg_ut_s]
      · rw [fg_ut_n e, show i = 0 by omega, fg_R_eq, fg_ut_s]
    have mA : fg_sm fg_pN σ u8 := ((((m.1.tr mρ).tr (m2.wk (fun g hg => by have : ¬ 187 ≤ g := of_decide_eq_false hg; simp; omega))).tr (m4.wk (fun g hg => by have : ¬ 187 ≤ g := of_decide_eq_false hg; simp; omega))).tr (m6.wk (fun g hg => by have : ¬ 187 ≤ g := of_decide_eq_false hg; simp; omega))).tr (m8.wk fg_p191N)
    have H := H _ (mA.tr mX)
    generalize fg_sR (fg_sR (fg_sF (fg_sF (fg_sF u8 187 26 0) 187 32 0) 187 30 0) 208 0 0) 208 1 0 = X at nX FX RX H ⊢
    have eX : fg_R X 191 = fg_w61 (fg_w0 S) w := (funext (nX.2 191 rfl)).trans e8
    have WW := fg_Wk.w (fg_w0_Wk ok) ok.1 (fg_w61_in (a := fg_w0 S) (b := w))
    have PW := fg_Pt_w (fg_w0_pt ok) ok.1 (fg_w61_in (a := fg_w0 S) (b := w))
    refine H ⟨eX, ⟨⟨ok.1, ⟨⟨?_, ?_, ?_, ?_⟩, fun e he => ?_, fun e he j hj => ?_⟩, by rw [eX]; exact WW.1, by rw [eX]; exact PW⟩, WW⟩, ⟨Nat.zero_le _, FX.2.2, fun j hj => absurd hj (Nat.not_lt_zero _)⟩, fun i hi => ⟨RX i hi, fun q => absurd (show false = true from q) (by decide)⟩, ⟨Nat.zero_le _, ?_, fun i hi => absurd hi (Nat.not_lt_zero _)⟩, ?_, ⟨hs.1, ?_⟩, ⟨⟨FX.1, Nat.zero_le _⟩, fun i hi => absurd hi (Nat.not_lt_zero _)⟩, ⟨⟨Nat.zero_le _, FX.2.1⟩, fun i hi => absurd hi (Nat.not_lt_zero _)⟩⟩
    · exact (nX.1 0 rfl).trans ((F8 0).trans Fρ.1.1)
    · exact (nX.1 1 rfl).trans ((F8 1).trans Fρ.1.2.1)
    · exact (nX.1 2 rfl).trans ((F8 2).trans Fρ.1.2.2.1)
    · exact (nX.1 4 rfl).trans ((F8 4).trans Fρ.1.2.2.2)
    · rw [nX.2 189 rfl e, (m8.2 189 (by decide)).2 e, (m6.2 189 (by decide)).2 e, h4 e, if_pos he, (m2.2 194 (by decide)).2 e, Rρ]
      exact r.2.2.1 e he
    · have hl := ok.1.2.1 e he
      have he' : e < fg_zs S.1 := he
      have hj' : j < fg_zl S.1 e := hj
      rw [nX.2 190 rfl _, (m8.2 190 (by decide)).2 _, h6 _, if_pos (by omega), (m4.2 195 (by decide)).2 _, (m2.2 195 (by decide)).2 _, Rρ]
      exact r.2.2.2 e he j hj
    · exact (nX.1 10 rfl).trans ((F8 10).trans Fρ.2.1)
    · exact (nX.1 11 rfl).trans ((F8 11).trans Fρ.2.2.1)
    · exact (nX.1 8 rfl).trans ((F8 8).trans Fρ.2.2.2)
theorem fg_let_m {p : Nat} (t : fg_TxM σ T) : fg_let T p < 0 ↔ fg_let T p = -1 := by
  unfold fg_let
  by_cases q : p < T.1
  · rw [if_pos q]
    have := (t.2.2 p q).2
    exact ⟨fun x => absurd x (nI_pos (by omega)), fun x => absurd x (fg_nm1 (by omega))⟩
  · rw [if_neg q]
    exact ⟨fun _ => rfl, fun _ => by decide⟩
theorem l_MO_loop (hw : fg_R σ 191 = w) (hs : s < 2 ^ 31 ∧ fg_F σ 187 8 = nI s) (HE : ∀ e u, fg_prs T = .error e → fg_sm fg_pN σ u → fg_sn (fun k => fg_pF8 k || k == 10) fg_pV σ u → fg_TxM u (0, T.2) → fg_F u 187 11 = nI e.2 → Q ((-10) - nI e.1) u) (HO : ∀ S u, fg_prs T = .ok S → fg_sm fg_pN σ u → fg_RI u S.1 (fg_w61 (fg_w0 S) w) (0, P.2) ((fun _ => false), I.2) (0, T.2) (-1) s (0, R.2) (0, B.2) → Q (nI (fg_zs S.1)) u) : ∀ m S p (τ : fg_St), T.1 < p + m → fg_prs T = fg_all T m S p → fg_s8 σ τ → fg_MS τ T p → fg_RS τ S → fg_Sok S → 1 ≤ fg_zH S.1 → fg_Run (d + 4) 126 32 [some (.ref 187), some (.int 0)] [] τ Q := by
  intro m
  induction m with
  | zero =>
    intro S p τ hm hP m1 t r ok hH
    exact absurd hm (by have := t.2.1.1; omega)
  | succ m ih =>
    intro S p τ hm hP m1 t r ok hH
    have hb := fg_skp_le _ p rfl t.2.1.1
    refine b_MO_ship_32 ⟨fun q => absurd rfl q, fun _ => fg_use (r_MO_here t (fun u2 m2 h2 => ?_))⟩
    rw [fg_let_m h2.1]
    refine ⟨fun q => ⟨fun _ => ?_, fun q0 => absurd (by decide) q0⟩, fun q => fg_use (r_MO_clause h2 (fg_skp_i _ p rfl) (r.s3 m2) ok hH (fun u3 x m3 h3 => ?_))⟩
    · refine l_MO_fin (S := S) hw hs ?_ ok (m1.tr m2.to8) (r.s3 m2) h2.2.2 HO
      rw [hP, fg_all, if_pos q]
    · rw [fg_all, if_neg q] at hP
      cases hC : fg_cla T S (fg_skp T p) with
      | error e =>
        rw [hC] at h3 hP
        obtain ⟨rfl, hM⟩ := h3
        exact l_MO_err hP ((m1.tr m2.to8).tr m3) hM HE
      | ok a =>
        rw [hC] at h3 hP
        obtain ⟨⟨rfl, t3⟩, r3⟩ := h3
        obtain ⟨k1, k2⟩ := fg_cla_ok ok hH hC
        have hq := fg_cla_pos hb.2 hC
        exact ih a.1 a.2 u3 (by omega) hP ((m1.tr m2.to8).tr m3) t3 r3 k1 k2
theorem g_MO_ship (t0 : fg_TxM σ T) (hw : fg_R σ 191 = w) (hs : s < 2 ^ 31 ∧ fg_F σ 187 8 = nI s) (HE : ∀ e u, fg_prs T = .error e → fg_sm fg_pN σ u → fg_sn (fun k => fg_pF8 k || k == 10) fg_pV σ u → fg_TxM u (0, T.2) → fg_F u 187 11 = nI e.2 → Q ((-10) - nI e.1) u) (HO : ∀ S u, fg_prs T = .ok S → fg_sm fg_pN σ u → fg_RI u S.1 (fg_w61 (fg_w0 S) w) (0, P.2) ((fun _ => false), I.2) (0, T.2) (-1) s (0, R.2) (0, B.2) → Q (nI (fg_zs S.1)) u) : fg_Run (d + 4) 126 0 [some (.ref 187), none] [] σ Q := by
  refine b_MO_ship_0 ?_
  have m0 : fg_s8 σ (fg_sF (fg_sF (fg_sF (fg_sF (fg_sF (fg_sF σ 187 11 (-1)) 187 12 0) 187 14 0) 187 15 0) 187 16 0) 187 18 0) := (((((fg_s8_F (by decide)).tr (fg_s8_F (by decide))).tr (fg_s8_F (by decide))).tr (fg_s8_F (by decide))).tr (fg_s8_F (by decide))).tr (fg_s8_F (by decide))
  have S0 : fg_MS (fg_sF (fg_sF (fg_sF (fg_sF (fg_sF (fg_sF σ 187 11 (-1)) 187 12 0) 187 14 0) 187 15 0) 187 16 0) 187 18 0) T 0 := ⟨⟨t0.1, t0.2.1, t0.2.2⟩, ⟨Nat.zero_le _, rfl⟩, rfl⟩
  have F0 : fg_F (fg_sF (fg_sF (fg_sF (fg_sF (fg_sF (fg_sF σ 187 11 (-1)) 187 12 0) 187 14 0) 187 15 0) 187 16 0) 187 18 0) 187 14 = 0 ∧ fg_F (fg_sF (fg_sF (fg_sF (fg_sF (fg_sF (fg_sF σ 187 11 (-1)) 187 12 0) 187 14 0) 187 15 0) 187 16 0) 187 18 0) 187 15 = 0 ∧ fg_F (fg_sF (fg_sF (fg_sF (fg_sF (fg_sF (fg_sF σ 187 11 (-1)) 187 12 0) 187 14 0) 187 15 0) 187 16 0) 187 18 0) 187 16 = 0 ∧ fg_F (fg_sF (fg_sF (fg_sF (fg_sF (fg_sF (fg_sF σ 187 11 (-1)) 187 12 0) 187 14 0) 187 15 0) 187 16 0) 187 18 0) 187 18 = 0 := ⟨rfl, rfl, rfl, rfl⟩
  generalize fg_sF (fg_sF (fg_sF (fg_sF (fg_sF (fg_sF σ 187 11 (-1)) 187 12 0) 187 14 0) 187 15 0) 187 16 0) 187 18 0 = τ at m0 S0 F0 ⊢
  have hb := fg_skp_le (T := T) _ 0 rfl (Nat.zero_le _)
  have RS1 : ∀ (u : fg_St) (a b : Nat), fg_F u 187 14 = nI a → fg_F u 187 15 = nI b → fg_F u 187 16 = 0 → fg_F u 187 18 = 0 → fg_RS u (fg_S1 a b) := fun u a b f1 f2 f3 f4 => ⟨⟨f1, f2, f3, f4⟩, fun g hg => absurd hg (Nat.not_lt_zero _), fun e he => absurd he (Nat.not_lt_zero _), fun e he => absurd he (Nat.not_lt_zero _)⟩
  refine b_MO_ship_32 ⟨fun q => absurd rfl q, fun _ => fg_use (r_MO_here S0 (fun u2 m2 h2 => ?_))⟩
  have g14 := (m2.2.1 14 rfl).trans F0.1
  have g15 := (m2.2.1 15 rfl).trans F0.2.1
  have g16 := (m2.2.1 16 rfl).trans F0.2.2.1
  have g18 := (m2.2.1 18 rfl).trans F0.2.2.2
  rw [fg_let_m h2.1]
  refine ⟨fun q => ⟨fun _ => ?_, fun q0 => absurd (by decide) q0⟩, fun q => fg_use (r_MO_clause1 h2 (fg_skp_i _ 0 rfl) g14 (fun u3 x m3 h3 => ?_))⟩
  · refine l_MO_fin (S := fg_S1 0 0) hw hs ?_ fg_S1_ok0 (m0.tr m2.to8) (RS1 u2 0 0 g14 g15 g16 g18) h2.2.2 HO
    rw [fg_prs, if_pos q]
  · cases hC : fg_lnE T (fg_skp T 0) with
    | error e =>
      rw [hC] at h3
      obtain ⟨rfl, hM⟩ := h3
      exact l_MO_err (by rw [fg_prs, if_neg q, hC]) ((m0.tr m2.to8).tr m3) hM HE
    | ok a =>
      rw [hC] at h3
      obtain ⟨⟨rfl, t3⟩, f14, f15, f16, f18⟩ := h3
      have hx : ((1 ≤ a.1 ∧ a.1 ≤ 3) ∧ a.2.1 ≤ 3) ∧ 1 ≤ a.2.2 := by
        unfold fg_lnE at hC
        split at hC
        · rename_i e
          have hl := (fg_let_lt (c := 108) (by decide) e).1
          unfold fg_lin at hC
          split at hC
          · cases hC
          · rename_i a1 e1
            split at hC
            · cases hC
            · rename_i a2 e2
              split at hC
              · cases hC
              · rename_i q3 e3
                cases hC
                have b1 := fg_nmb_in e1
                have b2 := fg_nmb_in e2
                have p1 := fg_nmb_pos (by omega) e1
                have p2 := fg_nmb_pos p1.2 e2
                have p3 := fg_psc_pos (by decide) p2.2 e3
                exact ⟨⟨⟨b1.1, by show a1.1 ≤ 3; omega⟩, by show a2.1 ≤ 3; omega⟩, by show 1 ≤ q3; omega⟩
        · cases hC
      have t240 := t0.1
      exact l_MO_loop hw hs HE HO 240 (fg_S1 a.1 a.2.1) a.2.2 u3 (by omega) (by rw [fg_prs, if_neg q, hC]) ((m0.tr m2.to8).tr m3) t3 (RS1 u3 a.1 a.2.1 f14 f15 (f16.trans g16) (f18.trans g18)) (fg_S1_ok hx.1.1.1 hx.1.1.2 hx.1.2) hx.1.1.1
theorem c_MO_ship (h : fg_RI σ z w P I T v s R B) (H : ∀ u, fg_sm fg_pN σ u → fg_RI u (fg_shZ T z) (fg_shW T w) (fg_shP T P) (fg_shI T I) (0, T.2) (fg_shV T) s (fg_shR T R) (fg_shB T B) → Q (fg_shA T) u) : fg_Run (d + 4) 126 0 [some (.ref 187), none] [] σ Q := by
  obtain ⟨a1, a2, a3, a4, a5, a6, a7, a8, a9⟩ := h
  refine g_MO_ship (P := P) (I := I) (R := R) (B := B) a5 a1 a7 (fun e u hP m n t f => ?_) (fun S u hP m h => ?_)
  · rw [fg_shZ, fg_shW, fg_shP, fg_shI, fg_shV, fg_shR, fg_shB, fg_shA, hP] at H
    exact H u m ⟨(funext (n.2 191 rfl)).trans a1, ⟨a2.1.sn n rfl rfl rfl rfl rfl rfl rfl, a2.2⟩, a3.sn n rfl rfl, a4.sn n rfl rfl, t, f, ⟨a7.1, (n.1 8 rfl).trans a7.2⟩, a8.sn n rfl rfl rfl, a9.sn n rfl rfl rfl⟩
  · rw [fg_shZ, fg_shW, fg_shP, fg_shI, fg_shV, fg_shR, fg_shB, fg_shA, hP] at H
    exact H u m h
end
