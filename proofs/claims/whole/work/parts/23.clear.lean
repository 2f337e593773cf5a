/-! HOW SIGNALS LOOK: see, likeOf, clearOnes, the class's clear set -/
section
variable {d : Nat} {Q : Int32 → fg_St → Prop} {h : Nat} {z : fg_Z} {s : Nat × Nat} {lf : Nat → Nat}
theorem fg_w2 {hz wd : Nat} (hh : hz ≤ 2) (hw : wd ≤ 1) : nI (2 * hz + wd) / 2 = nI hz ∧ nI (2 * hz + wd) - nI (2 * hz + wd) / 2 * 2 = nI wd := by
  constructor
  · rw [show (2 : Int32) = nI 2 from rfl, pk_div (by omega) (by decide) (by decide)]
    congr 1
    omega
  · rw [show (2 : Int32) = nI 2 from rfl, pk_rem (by omega) (by decide) (by decide)]
    congr 1
    omega
theorem fg_lw_lt {σ : fg_St} {w : Nat → Int32} {hz wd : Nat} (hD : fg_DkX σ 15 z w) : ∀ g, g < fg_zf z → fg_lw w hz wd g < 200 := by
  intro g hg
  obtain ⟨k, a, b, e1, e2, e3, e4, e5⟩ := hD.1 g hg
  rw [fg_lw_eq e1.1 e1.2.1 e1.2.2 e5]
  exact fg_lk_lt e1.1 e1.2.1 e1.2.2
/-- see: the looks of the flags and the packed looks of the signals that can go up -/
theorem l_WA_see {σ : fg_St} {w : Nat → Int32} {hz wd : Nat} (Sh : h = 3 ∨ h = 9) (hzo : fg_Zok z) (hX : fg_ShX σ h z) (hD : fg_DkX σ 15 z w) (hh : hz ≤ 2) (hw : wd ≤ 1) (hu : fg_F σ 33 3 = nI (fg_set (fg_upb z s) (fg_zs z))) (hr : ∀ e j, e < fg_zs z → j < 4 → fg_R σ 34 (e * 4 + j) = fg_pi (fg_rx z s e j)) (H : ∀ u, fg_sm fg_pS σ u → (∀ g, g < fg_zf z → fg_R u 35 g = nI (fg_lw w hz wd g)) → (∀ e, e < fg_zs z → fg_upb z s e = true → fg_R u 36 e = nI (fg_sg z s (fg_lw w hz wd) e)) → Q 0 u) : ∀ m i (τ : fg_St), i + m = 10 → fg_sm fg_pS σ τ → (∀ g, g < fg_zf z → g < i → fg_R τ 35 g = nI (fg_lw w hz wd g)) → fg_Run (d + 3) 55 3 [some (.ref 33), some (.ref h), some (.ref 15), some (.int (nI (2 * hz + wd))), some (.int (nI i))] [] τ Q := by
  have hs := hzo.1.2.2.2
  have hf := hzo.1.2.2.1
  have sp := fg_shpS Sh
  have hw2 := fg_w2 hh hw
  intro m
  induction m with
  | zero =>
    intro i τ hi hsm hl
    have hi : i = 10 := by omega
    subst hi
    refine b_WA_see_3 Sh ⟨fun _ => ?_, fun q => absurd (nI_le (a := 10) (b := 10) (by decide) (by decide)) q⟩
    have hX' := hX.sm hsm sp.1 sp.2.1 sp.2.2
    rw [((hsm.2 33 (by decide)).1 3).trans hu]
    have hb : fg_set (fg_upb z s) (fg_zs z) < 1024 := Nat.lt_of_lt_of_le (fg_set_lt _ _) (fg_p10 hs)
    refine fg_use (r_WA_sign Sh hzo hX' hb (fg_lw_lt hD) (fun e j he hj => ((hsm.2 34 (by decide)).2 _).trans (hr e j he hj)) (fun g hg => hl g hg (by omega)) (fun u hsu hsg => ?_))
    refine H u (hsm.tr (hsu.wk (fun g hg => ?_))) (fun g hg => ((hsu.2 35 (by decide)).2 g).trans (hl g hg (by omega))) (fun e he hup => ?_)
    · unfold fg_pS at hg
      simp only [Bool.or_eq_false_iff] at hg
      exact hg.2
    · rw [hsg e he, if_pos]
      rw [fg_set_bit, decide_eq_true he, hup]
      rfl
  | succ m ih =>
    intro i τ hi hsm hl
    refine b_WA_see_3 Sh ⟨fun q => absurd q (nI_ge (b := 10) (by omega) (by decide)), fun _ => ?_⟩
    rw [hw2.2, hw2.1, nI_clamp (by omega), nI_1]
    have go : ∀ x : Int32, (i < fg_zf z → x = nI (fg_lw w hz wd i)) → vp_in (nI i) 10 ∧ fg_Run (d + 3) 55 3 [some (.ref 33), some (.ref h), some (.ref 15), some (.int (nI (2 * hz + wd))), some (.int (nI (i + 1)))] [] (fg_sR τ 35 i x) Q := by
      intro x hx
      refine ⟨vp_in_nI (by omega) (by decide), ih (i + 1) _ (by omega) (hsm.tr (fg_sm_R (by decide))) (fun g hg hi2 => ?_)⟩
      rw [fg_R_sR]
      by_cases e1 : g = i
      · rw [if_pos ⟨rfl, e1⟩, e1]
        exact hx (by omega)
      · rw [if_neg (fun q => e1 q.2)]
        exact hl g hg (by omega)
    by_cases hg : i < fg_zf z
    · obtain ⟨k, a, b, e1, e2, e3, e4, e5⟩ := hD.1 i hg
      refine fg_use (r_DK_lookIn (by omega) e1.1 e1.2.1 e1.2.2 hh hw (((hsm.2 16 (by decide)).2 i).trans e2) (((hsm.2 17 (by decide)).2 i).trans e3) (((hsm.2 18 (by decide)).2 i).trans e4) ?_)
      refine go _ (fun _ => ?_)
      rw [fg_lw_eq e1.1 e1.2.1 e1.2.2 e5]
    · exact fg_use (fg_any_lookIn (by omega) (fun x => go x (fun q => absurd q hg)))
theorem r_WA_see {σ : fg_St} {w : Nat → Int32} {hz wd : Nat} (Sh : h = 3 ∨ h = 9) (hzo : fg_Zok z) (hX : fg_ShX σ h z) (hD : fg_DkX σ 15 z w) (hh : hz ≤ 2) (hw : wd ≤ 1) (hu : fg_F σ 33 3 = nI (fg_set (fg_upb z s) (fg_zs z))) (hr : ∀ e j, e < fg_zs z → j < 4 → fg_R σ 34 (e * 4 + j) = fg_pi (fg_rx z s e j)) (H : ∀ u, fg_sm fg_pS σ u → (∀ g, g < fg_zf z → fg_R u 35 g = nI (fg_lw w hz wd g)) → (∀ e, e < fg_zs z → fg_upb z s e = true → fg_R u 36 e = nI (fg_sg z s (fg_lw w hz wd) e)) → Q 0 u) : fg_Run (d + 3) 55 0 [some (.ref 33), some (.ref h), some (.ref 15), some (.int (nI (2 * hz + wd))), none] [] σ Q :=
  b_WA_see_0 Sh (l_WA_see Sh hzo hX hD hh hw hu hr H 10 0 σ rfl fg_sm.rfl' (fun g _ hg => absurd hg (by omega)))
theorem fg_sg_lt (hz : fg_Zok z) (hlf : ∀ g, g < fg_zf z → lf g < 200) {e : Nat} (he : e < fg_zs z) : fg_sg z s lf e < 2 ^ 32 := by
  have h0 := fg_Lx_le hz (s := s) hlf he 0
  have h1 := fg_Lx_le hz (s := s) hlf he 1
  have h2 := fg_Lx_le hz (s := s) hlf he 2
  have h3 := fg_Lx_le hz (s := s) hlf he 3
  unfold fg_sg
  omega
theorem fg_nIeq {a b : Nat} (ha : a < 2 ^ 32) (hb : b < 2 ^ 32) : nI a = nI b ↔ a = b := by
  constructor
  · intro e
    have := congrArg (fun x : Int32 => x.toBitVec.toNat) e
    simp only [pk_tn ha, pk_tn hb] at this
    exact this
  · intro e
    rw [e]
/-- the class's watch as it stands behind see -/
def fg_Wt2 (z : fg_Z) (s : Nat × Nat) (lf : Nat → Nat) (σ : fg_St) : Prop := fg_F σ 33 3 = nI (fg_set (fg_upb z s) (fg_zs z)) ∧ ∀ e, e < fg_zs z → fg_upb z s e = true → fg_R σ 36 e = nI (fg_sg z s lf e)
theorem l_WA_likeOf {σ : fg_St} {e : Nat} (Sh : h = 3 ∨ h = 9) (hz : fg_Zok z) (hX : fg_ShX σ h z) (hlf : ∀ g, g < fg_zf z → lf g < 200) (hw : fg_Wt2 z s lf σ) (he : e < fg_zs z) (hup : fg_upb z s e = true) (H : Q (nI (fg_set (fg_lke z s lf e) (fg_zs z))) σ) : ∀ m i, i + m = fg_zs z → fg_Run (d + 1) 58 26 [some (.ref 33), some (.ref h), some (.int (nI e)), some (.int (nI (fg_set (fg_lke z s lf e) i))), some (.int (nI i))] [] σ Q := by
  have hs := hz.1.2.2.2
  have hb : fg_set (fg_upb z s) (fg_zs z) < 1024 := Nat.lt_of_lt_of_le (fg_set_lt _ _) (fg_p10 hs)
  intro m
  induction m with
  | zero =>
    intro i hi
    have hi : i = fg_zs z := by omega
    subst hi
    refine b_WA_likeOf_26 Sh ⟨fun _ => H, fun q => absurd ?_ q⟩
    rw [hX.1.2.2.2]
    exact nI_le (Nat.le_refl _) (by omega)
  | succ m ih =>
    intro i hi
    have ih := ih (i + 1) (by omega)
    have hst := fg_set_step (p := fg_lke z s lf e) (n := i) (by omega)
    refine b_WA_likeOf_26 Sh ⟨fun q => absurd q (by rw [hX.1.2.2.2]; exact nI_ge (by omega) (by omega)), fun _ => ⟨fun q => absurd q (nI_ge (b := 10) (by omega) (by decide)), fun _ => ?_⟩⟩
    rw [hw.1]
    refine fg_use (r_FS_has (by omega) (by omega) ?_)
    rw [nI_1, nI_clamp (by omega), nI_clamp (by omega)]
    have hbit : (fg_set (fg_upb z s) (fg_zs z)).testBit i = fg_upb z s i := by rw [fg_set_bit, decide_eq_true (by omega)]; rfl
    rw [hbit]
    have no : fg_lke z s lf e i = false → nI (fg_set (fg_lke z s lf e) i) = nI (fg_set (fg_lke z s lf e) (i + 1)) := by
      intro q
      rw [fg_set, q]
      simp
    cases hu : fg_upb z s i
    · refine ⟨fun _ => ?_, fun q => absurd rfl q⟩
      rw [no (by unfold fg_lke; rw [hu]; simp)]
      exact ih
    · refine ⟨fun q => absurd q (by decide), fun _ => ⟨vp_in_nI (by omega) (by decide), vp_in_nI (by omega) (by decide), ?_⟩⟩
      rw [hw.2 i (by omega) hu, hw.2 e he hup, fg_nIeq (fg_sg_lt hz hlf (by omega)) (fg_sg_lt hz hlf he)]
      refine ⟨fun q => ?_, fun q => ?_⟩
      · rw [no (by unfold fg_lke; rw [hu, hup]; simpa using q)]
        exact ih
      · rw [if_pos (by unfold fg_lke; rw [hu, hup]; simpa using q)] at hst
        rw [hst]
        exact ih
/-- likeOf -/
theorem r_WA_likeOf {σ : fg_St} {e : Nat} (Sh : h = 3 ∨ h = 9) (hz : fg_Zok z) (hX : fg_ShX σ h z) (hlf : ∀ g, g < fg_zf z → lf g < 200) (hw : fg_Wt2 z s lf σ) (he : e < fg_zs z) (H : Q (nI (fg_set (fg_lke z s lf e) (fg_zs z))) σ) : fg_Run (d + 1) 58 0 [some (.ref 33), some (.ref h), some (.int (nI e)), none, none] [] σ Q := by
  have hs := hz.1.2.2.2
  have hb : fg_set (fg_upb z s) (fg_zs z) < 1024 := Nat.lt_of_lt_of_le (fg_set_lt _ _) (fg_p10 hs)
  refine b_WA_likeOf_0 Sh (fg_use (r_SH_hasSignal Sh hz hX ?_))
  rw [fg_isn_nI he (by omega)]
  refine ⟨fun q => absurd q (by decide), fun _ => ?_⟩
  rw [hw.1]
  refine fg_use (r_FS_has (by omega) (by omega) ?_)
  have hbit : (fg_set (fg_upb z s) (fg_zs z)).testBit e = fg_upb z s e := by rw [fg_set_bit, decide_eq_true he]; rfl
  rw [hbit]
  cases hu : fg_upb z s e
  · refine ⟨fun q => absurd rfl q, fun _ => ?_⟩
    have : fg_set (fg_lke z s lf e) (fg_zs z) = 0 := by
      apply Nat.eq_of_testBit_eq
      intro i
      rw [fg_set_bit]
      unfold fg_lke
      rw [hu]
      simp
    rw [this] at H
    exact H
  · exact ⟨fun _ => l_WA_likeOf Sh hz hX hlf hw he hu H (fg_zs z) 0 (by omega), fun q => absurd q (by decide)⟩
end
