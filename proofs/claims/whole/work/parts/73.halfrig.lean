/-! Deck.rig over the class's cells alone (laid by wip/whole/clone.py) -/
set_option maxRecDepth 100000 in
theorem bh_DK_rig_0 {d : Nat} {σ : fg_St} {Q : Int32 → fg_St → Prop} {h1 : Nat} (Sh1 : h1 = 3 ∨ h1 = 9) (H : fh_Run (d + 1) 0 2 [some (.ref 15), some (.ref h1), some (.int 0)] [] σ Q) : fh_Run (d + 1) 0 0 [some (.ref 15), some (.ref h1), none] [] σ Q := by
  rcases Sh1 with rfl | rfl
  · exact fh_blk [0, 2, 66] 3 (H)
  · exact fh_blk [0, 2, 66] 3 (H)
set_option maxRecDepth 100000 in
theorem bh_DK_rig_2 {d : Nat} {σ : fg_St} {Q : Int32 → fg_St → Prop} {h1 : Nat} {y2 : Int32} (Sh1 : h1 = 3 ∨ h1 = 9) (H : ((10 ≤ y2 → fh_Run (d + 1) 0 66 [some (.ref 15), some (.ref h1), some (.int 0)] [] σ Q) ∧ (¬ (10 ≤ y2) → (vp_in y2 10 ∧ (vp_in y2 10 ∧ (vp_in y2 10 ∧ (vp_in y2 10 ∧ (vp_in y2 10 ∧ (vp_in y2 10 ∧ (vp_in y2 10 ∧ (vp_in y2 10 ∧ fh_Run (d + 1) 0 2 [some (.ref 15), some (.ref h1), some (.int (y2 + 1))] [] (fg_sR (fg_sR (fg_sR (fg_sR (fg_sR σ 16 y2.toNatClampNeg (fg_R σ (h1 + 1) y2.toNatClampNeg)) 17 y2.toNatClampNeg (fg_R (fg_sR σ 16 y2.toNatClampNeg (fg_R σ (h1 + 1) y2.toNatClampNeg)) (h1 + 2) y2.toNatClampNeg)) 18 y2.toNatClampNeg (fg_R (fg_sR (fg_sR σ 16 y2.toNatClampNeg (fg_R σ (h1 + 1) y2.toNatClampNeg)) 17 y2.toNatClampNeg (fg_R (fg_sR σ 16 y2.toNatClampNeg (fg_R σ (h1 + 1) y2.toNatClampNeg)) (h1 + 2) y2.toNatClampNeg)) (h1 + 3) y2.toNatClampNeg)) 19 y2.toNatClampNeg 0) 20 y2.toNatClampNeg (-1)) Q))))))))))) : fh_Run (d + 1) 0 2 [some (.ref 15), some (.ref h1), some (.int y2)] [] σ Q := by
  rcases Sh1 with rfl | rfl
  · exact fh_blk [0, 2, 66] 40 (⟨fun z1 => (H.1 z1), fun z2 => ⟨rfl, ⟨rfl, ⟨rfl, ⟨(H.2 z2).1, ⟨rfl, ⟨(H.2 z2).2.1, ⟨rfl, ⟨rfl, ⟨rfl, ⟨(H.2 z2).2.2.1, ⟨rfl, ⟨(H.2 z2).2.2.2.1, ⟨rfl, ⟨rfl, ⟨rfl, ⟨(H.2 z2).2.2.2.2.1, ⟨rfl, ⟨(H.2 z2).2.2.2.2.2.1, ⟨rfl, ⟨rfl, ⟨(H.2 z2).2.2.2.2.2.2.1, ⟨rfl, ⟨rfl, ⟨(H.2 z2).2.2.2.2.2.2.2.1, (H.2 z2).2.2.2.2.2.2.2.2⟩⟩⟩⟩⟩⟩⟩⟩⟩⟩⟩⟩⟩⟩⟩⟩⟩⟩⟩⟩⟩⟩⟩⟩⟩)
  · exact fh_blk [0, 2, 66] 40 (⟨fun z1 => (H.1 z1), fun z2 => ⟨rfl, ⟨rfl, ⟨rfl, ⟨(H.2 z2).1, ⟨rfl, ⟨(H.2 z2).2.1, ⟨rfl, ⟨rfl, ⟨rfl, ⟨(H.2 z2).2.2.1, ⟨rfl, ⟨(H.2 z2).2.2.2.1, ⟨rfl, ⟨rfl, ⟨rfl, ⟨(H.2 z2).2.2.2.2.1, ⟨rfl, ⟨(H.2 z2).2.2.2.2.2.1, ⟨rfl, ⟨rfl, ⟨(H.2 z2).2.2.2.2.2.2.1, ⟨rfl, ⟨rfl, ⟨(H.2 z2).2.2.2.2.2.2.2.1, (H.2 z2).2.2.2.2.2.2.2.2⟩⟩⟩⟩⟩⟩⟩⟩⟩⟩⟩⟩⟩⟩⟩⟩⟩⟩⟩⟩⟩⟩⟩⟩⟩)
set_option maxRecDepth 100000 in
theorem bh_DK_rig_66 {d : Nat} {σ : fg_St} {Q : Int32 → fg_St → Prop} {h1 : Nat} {y2 : Int32} (Sh1 : h1 = 3 ∨ h1 = 9) (H : ((3 ≤ y2 → (∃ P, fh_Run d 30 0 [some (.ref h1)] [] (fg_sF (fg_sF (fg_sF (fg_sF σ 15 7 0) 15 8 0) 15 9 0) 15 10 0) P ∧ ∀ x1 u2, P x1 u2 → ((x1 = 0 → Q 0 (fg_sF u2 15 11 0)) ∧ (¬ (x1 = 0) → Q 0 (fg_sF u2 15 11 1))))) ∧ (¬ (3 ≤ y2) → (∃ P, fh_Run d 11 0 [some (.ref 15), some (.int y2), none] [] σ P ∧ ∀ x3 u4, P x3 u4 → fh_Run (d + 1) 0 66 [some (.ref 15), some (.ref h1), some (.int (y2 + 1))] [] u4 Q)))) : fh_Run (d + 1) 0 66 [some (.ref 15), some (.ref h1), some (.int y2)] [] σ Q := by
  rcases Sh1 with rfl | rfl
  · exact fh_blk [0, 2, 66] 23 (⟨fun z3 => ⟨rfl, ⟨rfl, ⟨rfl, ⟨rfl, ⟨rfl, (match (H.1 z3) with | ⟨z5, z6, z7f⟩ => ⟨z5, z6, fun x1 u2 z7p => ⟨fun z8 => ⟨rfl, ((z7f x1 u2 z7p).1 z8)⟩, fun z9 => ⟨rfl, ((z7f x1 u2 z7p).2 z9)⟩⟩⟩)⟩⟩⟩⟩⟩, fun z4 => ⟨rfl, (match (H.2 z4) with | ⟨z10, z11, z12f⟩ => ⟨z10, z11, fun x3 u4 z12p => (z12f x3 u4 z12p)⟩)⟩⟩)
  · exact fh_blk [0, 2, 66] 23 (⟨fun z3 => ⟨rfl, ⟨rfl, ⟨rfl, ⟨rfl, ⟨rfl, (match (H.1 z3) with | ⟨z5, z6, z7f⟩ => ⟨z5, z6, fun x1 u2 z7p => ⟨fun z8 => ⟨rfl, ((z7f x1 u2 z7p).1 z8)⟩, fun z9 => ⟨rfl, ((z7f x1 u2 z7p).2 z9)⟩⟩⟩)⟩⟩⟩⟩⟩, fun z4 => ⟨rfl, (match (H.2 z4) with | ⟨z10, z11, z12f⟩ => ⟨z10, z11, fun x3 u4 z12p => (z12f x3 u4 z12p)⟩)⟩⟩)
set_option maxRecDepth 100000 in
theorem bh_DK_emptyLine_0 {d : Nat} {σ : fg_St} {Q : Int32 → fg_St → Prop} {a0 : Int32} (H : (vp_in a0 3 ∧ fh_Run d 11 9 [some (.ref 15), some (.int a0), some (.int 0)] [] (fg_sR σ 21 a0.toNatClampNeg (-1)) Q)) : fh_Run d 11 0 [some (.ref 15), some (.int a0), none] [] σ Q := fh_blk [0, 9] 8 (⟨rfl, ⟨rfl, ⟨H.1, H.2⟩⟩⟩)
set_option maxRecDepth 100000 in
theorem bh_DK_emptyLine_9 {d : Nat} {σ : fg_St} {Q : Int32 → fg_St → Prop} {y1 : Int32} {y2 : Int32} (H : ((4 ≤ y2 → Q 0 σ) ∧ (¬ (4 ≤ y2) → (vp_in ((y1 * 4) + y2) 12 ∧ fh_Run d 11 9 [some (.ref 15), some (.int y1), some (.int (y2 + 1))] [] (fg_sR σ 22 (((y1 * 4) + y2).toNatClampNeg) (-1)) Q)))) : fh_Run d 11 9 [some (.ref 15), some (.int y1), some (.int y2)] [] σ Q := fh_blk [0, 9] 15 (⟨fun z70 => (H.1 z70), fun z71 => ⟨rfl, ⟨rfl, ⟨(H.2 z71).1, (H.2 z71).2⟩⟩⟩⟩)
set_option maxRecDepth 100000 in
theorem bh_SH_stands_0 {d : Nat} {σ : fg_St} {Q : Int32 → fg_St → Prop} {h0 : Nat} (Sh0 : h0 = 3 ∨ h0 = 9) (H : (((fg_F σ h0 0) ≤ 0 → Q 0 σ) ∧ (¬ ((fg_F σ h0 0) ≤ 0) → Q 1 σ))) : fh_Run d 30 0 [some (.ref h0)] [] σ Q := by
  rcases Sh0 with rfl | rfl
  · exact fh_blk [0] 6 (⟨rfl, ⟨fun z203 => ⟨(by decide), (H.1 z203)⟩, fun z204 => ⟨(by decide), (H.2 z204)⟩⟩⟩)
  · exact fh_blk [0] 6 (⟨rfl, ⟨fun z203 => ⟨(by decide), (H.1 z203)⟩, fun z204 => ⟨(by decide), (H.2 z204)⟩⟩⟩)
theorem fh_use {d i : Nat} {L : List (Option Value)} {σ : fg_St} {K : Int32 → fg_St → Prop} (h : fh_Run d i 0 L [] σ K) : ∃ P, fh_Run d i 0 L [] σ P ∧ ∀ x u, P x u → K x u := ⟨K, h, fun _ _ z => z⟩
section
variable {d : Nat} {σ u : fg_St} {Q : Int32 → fg_St → Prop} {h : Nat} {z : fg_Z} {S : fg_PS}
theorem rh_SH_stands (Sh : h = 3 ∨ h = 9) (hz : fg_Zok z) (hX : fg_ShX σ h z) (H : Q (fg_b (decide (0 < fg_zH z))) σ) : fh_Run d 30 0 [some (.ref h)] [] σ Q := by
  refine bh_SH_stands_0 Sh ?_
  rw [hX.1.1]
  have e : (nI (fg_zH z)).toInt = (fg_zH z : Int) := nI_toInt (by have := hz.1.1; omega)
  have z0 : (0 : Int32).toInt = 0 := rfl
  refine ⟨fun q => ?_, fun q => ?_⟩
  · rw [fg_le', e, z0] at q
    rw [decide_eq_false (by omega)] at H
    exact H
  · rw [fg_le', e, z0] at q
    rw [decide_eq_true (by omega)] at H
    exact H
theorem lh_DK_emptyLine (hh : h < 3) : ∀ m i (σ : fg_St), i + m = 4 → (∀ u, fg_sm (fun g => g == 22) σ u → (∀ k, fg_R u 22 k = if 4 * h + i ≤ k ∧ k < 4 * h + 4 then -1 else fg_R σ 22 k) → Q 0 u) → fh_Run d 11 9 [some (.ref 15), some (.int (nI h)), some (.int (nI i))] [] σ Q := by
  intro m
  induction m with
  | zero =>
    intro i σ hi H
    have hi : i = 4 := by omega
    subst hi
    exact bh_DK_emptyLine_9 ⟨fun _ => H σ fg_sm.rfl' (fun k => by rw [if_neg (by omega)]), fun q => absurd (nI_le (a := 4) (by omega) (by omega)) q⟩
  | succ m ih =>
    intro i σ hi H
    refine bh_DK_emptyLine_9 ⟨fun q => absurd q (nI_ge (b := 4) (by omega) (by decide)), fun _ => ?_⟩
    rw [fg_lit4, nI_clamp (by omega), nI_1]
    refine ⟨vp_in_nI (by omega) (by decide), ih (i + 1) _ (by omega) (fun u m1 hu => H u ((fg_sm_R (by decide)).tr m1) (fun k => ?_))⟩
    rw [hu k, fg_R_eq]
    by_cases e : k = h * 4 + i
    · rw [if_neg (by omega), e, fg_ut_s, if_pos (by omega)]
    · rw [fg_ut_n e]
      by_cases e2 : 4 * h + (i + 1) ≤ k ∧ k < 4 * h + 4
      · rw [if_pos e2, if_pos (by omega)]
      · rw [if_neg e2, if_neg (by omega)]
theorem rh_DK_emptyLine (hh : h < 3) (H : ∀ u, fg_sm (fun g => g == 21 || g == 22) σ u → (∀ k, fg_R u 21 k = if k = h then -1 else fg_R σ 21 k) → (∀ k, fg_R u 22 k = if 4 * h ≤ k ∧ k < 4 * h + 4 then -1 else fg_R σ 22 k) → Q 0 u) : fh_Run d 11 0 [some (.ref 15), some (.int (nI h)), none] [] σ Q := by
  refine bh_DK_emptyLine_0 ⟨vp_in_nI (by omega) (by decide), ?_⟩
  rw [nI_clamp (by omega)]
  refine lh_DK_emptyLine hh 4 0 _ rfl (fun u m1 hu => H u ((fg_sm_R (by decide)).tr (m1.wk (fun g hg => by simp at hg ⊢; exact hg.2))) (fun k => ?_) (fun k => ?_))
  · rw [(m1.2 21 (by decide)).2 k, fg_R_eq]
    by_cases e : k = h
    · rw [if_pos e, e, fg_ut_s]
    · rw [if_neg e, fg_ut_n e]
  · rw [hu k]
    rfl
theorem lh_DK_rig1 (Sh : h = 3 ∨ h = 9) (H : ∀ u, fg_sm (fg_pH 15) σ u → (∀ g, g < 10 → fg_rgd σ u h g) → fh_Run (d + 1) 0 66 [some (.ref 15), some (.ref h), some (.int 0)] [] u Q) : ∀ m i (τ : fg_St), i + m = 10 → fg_sm (fg_pH 15) σ τ → (∀ g, g < i → fg_rgd σ τ h g) → fh_Run (d + 1) 0 2 [some (.ref 15), some (.ref h), some (.int (nI i))] [] τ Q := by
  have i15 : ∀ k, 15 ≤ k → k < 23 → fg_pH 15 k = true := fun k => fg_p15
  intro m
  induction m with
  | zero =>
    intro i τ hi m1 hr
    have hi : i = 10 := by omega
    subst hi
    exact bh_DK_rig_2 Sh ⟨fun _ => H τ m1 hr, fun q => absurd (nI_le (a := 10) (by omega) (by omega)) q⟩
  | succ m ih =>
    intro i τ hi m1 hr
    have vi : vp_in (nI i) 10 := vp_in_nI (by omega) (by decide)
    refine bh_DK_rig_2 Sh ⟨fun q => absurd q (nI_ge (b := 10) (by omega) (by decide)), fun _ => ⟨vi, vi, vi, vi, vi, vi, vi, vi, ?_⟩⟩
    have r1 : fg_R τ (h + 1) i = fg_R σ (h + 1) i := (m1.2 _ (fg_pH_no (by omega))).2 i
    have r2 : fg_R τ (h + 2) i = fg_R σ (h + 2) i := (m1.2 _ (fg_pH_no (by omega))).2 i
    have r3 : fg_R τ (h + 3) i = fg_R σ (h + 3) i := (m1.2 _ (fg_pH_no (by omega))).2 i
    rw [nI_clamp (by omega), fg_R_ne (a := h + 2) (by omega), fg_R_ne (a := h + 3) (by omega), fg_R_ne (a := h + 3) (by omega), r1, r2, r3, nI_1]
    refine ih (i + 1) _ (by omega) (m1.tr (((((fg_sm_R (i15 16 (by omega) (by omega))).tr (fg_sm_R (i15 17 (by omega) (by omega)))).tr (fg_sm_R (i15 18 (by omega) (by omega)))).tr (fg_sm_R (i15 19 (by omega) (by omega)))).tr (fg_sm_R (i15 20 (by omega) (by omega))))) (fun g hg => ?_)
    have e16 : fg_R (fg_sR (fg_sR (fg_sR (fg_sR (fg_sR τ 16 i (fg_R σ (h + 1) i)) 17 i (fg_R σ (h + 2) i)) 18 i (fg_R σ (h + 3) i)) 19 i 0) 20 i (-1)) 16 g = fg_ut (fg_R τ 16) i (fg_R σ (h + 1) i) g := by
      rw [fg_R_ne (by decide), fg_R_ne (by decide), fg_R_ne (by decide), fg_R_ne (by decide), fg_R_eq]
    have e17 : fg_R (fg_sR (fg_sR (fg_sR (fg_sR (fg_sR τ 16 i (fg_R σ (h + 1) i)) 17 i (fg_R σ (h + 2) i)) 18 i (fg_R σ (h + 3) i)) 19 i 0) 20 i (-1)) 17 g = if g = i then fg_R σ (h + 2) i else fg_R τ 17 g := by
      rw [fg_R_ne (by decide), fg_R_ne (by decide), fg_R_ne (by decide), fg_R_eq]
      by_cases e : g = i
      · rw [if_pos e, e, fg_ut_s]
      · rw [if_neg e, fg_ut_n e, fg_R_ne (by decide)]
    have e18 : fg_R (fg_sR (fg_sR (fg_sR (fg_sR (fg_sR τ 16 i (fg_R σ (h + 1) i)) 17 i (fg_R σ (h + 2) i)) 18 i (fg_R σ (h + 3) i)) 19 i 0) 20 i (-1)) 18 g = if g = i then fg_R σ (h + 3) i else fg_R τ 18 g := by
      rw [fg_R_ne (by decide), fg_R_ne (by decide), fg_R_eq]
      by_cases e : g = i
      · rw [if_pos e, e, fg_ut_s]
      · rw [if_neg e, fg_ut_n e, fg_R_ne (by decide), fg_R_ne (by decide)]
    have e19 : fg_R (fg_sR (fg_sR (fg_sR (fg_sR (fg_sR τ 16 i (fg_R σ (h + 1) i)) 17 i (fg_R σ (h + 2) i)) 18 i (fg_R σ (h + 3) i)) 19 i 0) 20 i (-1)) 19 g = if g = i then 0 else fg_R τ 19 g := by
      rw [fg_R_ne (by decide), fg_R_eq]
      by_cases e : g = i
      · rw [if_pos e, e, fg_ut_s]
      · rw [if_neg e, fg_ut_n e, fg_R_ne (by decide), fg_R_ne (by decide), fg_R_ne (by decide)]
    have e20 : fg_R (fg_sR (fg_sR (fg_sR (fg_sR (fg_sR τ 16 i (fg_R σ (h + 1) i)) 17 i (fg_R σ (h + 2) i)) 18 i (fg_R σ (h + 3) i)) 19 i 0) 20 i (-1)) 20 g = if g = i then -1 else fg_R τ 20 g := by
      rw [fg_R_eq]
      by_cases e : g = i
      · rw [if_pos e, e, fg_ut_s]
      · rw [if_neg e, fg_ut_n e, fg_R_ne (by decide), fg_R_ne (by decide), fg_R_ne (by decide), fg_R_ne (by decide)]
    unfold fg_rgd
    rw [e16, e17, e18, e19, e20]
    by_cases e : g = i
    · rw [if_pos e, if_pos e, if_pos e, if_pos e, e, fg_ut_s]
      exact ⟨rfl, rfl, rfl, rfl, rfl⟩
    · rw [if_neg e, if_neg e, if_neg e, if_neg e, fg_ut_n e]
      exact hr g (by omega)
theorem lh_DK_rig2 (Sh : h = 3 ∨ h = 9) (H : ∀ u, fg_sm (fun g => g == 21 || g == 22) σ u → (∀ k, k < 3 → fg_R u 21 k = -1) → (∀ k, k < 12 → fg_R u 22 k = -1) → (∃ P, fh_Run d 30 0 [some (.ref h)] [] (fg_sF (fg_sF (fg_sF (fg_sF u 15 7 0) 15 8 0) 15 9 0) 15 10 0) P ∧ ∀ x1 u2, P x1 u2 → ((x1 = 0 → Q 0 (fg_sF u2 15 11 0)) ∧ (¬ (x1 = 0) → Q 0 (fg_sF u2 15 11 1))))) : ∀ m i (τ : fg_St), i + m = 3 → fg_sm (fun g => g == 21 || g == 22) σ τ → (∀ k, k < i → fg_R τ 21 k = -1) → (∀ k, k < 4 * i → fg_R τ 22 k = -1) → fh_Run (d + 1) 0 66 [some (.ref 15), some (.ref h), some (.int (nI i))] [] τ Q := by
  intro m
  induction m with
  | zero =>
    intro i τ hi m1 h1 h2
    have hi : i = 3 := by omega
    subst hi
    exact bh_DK_rig_66 Sh ⟨fun _ => H τ m1 h1 h2, fun q => absurd (nI_le (a := 3) (by omega) (by omega)) q⟩
  | succ m ih =>
    intro i τ hi m1 h1 h2
    refine bh_DK_rig_66 Sh ⟨fun q => absurd q (nI_ge (b := 3) (by omega) (by decide)), fun _ => fh_use (rh_DK_emptyLine (h := i) (by omega) (fun u m2 e1 e2 => ?_))⟩
    rw [nI_1]
    refine ih (i + 1) u (by omega) (m1.tr m2) (fun k hk => ?_) (fun k hk => ?_)
    · rw [e1]
      by_cases e : k = i
      · rw [if_pos e]
      · rw [if_neg e]
        exact h1 k (by omega)
    · rw [e2]
      by_cases e : 4 * i ≤ k ∧ k < 4 * i + 4
      · rw [if_pos e]
      · rw [if_neg e]
        exact h2 k (by omega)
theorem rh_DK_rig (Sh : h = 3 ∨ h = 9) (D : fg_DS σ h S) (ok : fg_Sok S) (H : ∀ u, fg_sm (fg_pH 15) σ u → fg_DkX u 15 S.1 (fg_w0 S) → Q 0 u) : fh_Run (d + 1) 0 0 [some (.ref 15), some (.ref h), none] [] σ Q := by
  have h10 := ok.1.1.2.2.1
  have i15 : ∀ k, 15 ≤ k → k < 23 → fg_pH 15 k = true := fun k => fg_p15
  refine bh_DK_rig_0 Sh (lh_DK_rig1 Sh (fun ρ m1 hr => ?_) 10 0 σ rfl fg_sm.rfl' (fun g hg => absurd hg (Nat.not_lt_zero _)))
  refine lh_DK_rig2 Sh (fun u m2 e21 e22 => ?_) 3 0 ρ rfl fg_sm.rfl' (fun k hk => absurd hk (Nat.not_lt_zero _)) (fun k hk => absurd hk (Nat.not_lt_zero _))
  have M : fg_sm (fg_pH 15) σ u := m1.tr (m2.wk (fun g hg => by
    simp only [Bool.or_eq_false_iff, beq_eq_false_iff_ne]
    constructor
    · intro e
      rw [e] at hg
      exact absurd hg (by decide)
    · intro e
      rw [e] at hg
      exact absurd hg (by decide)))
  have m3 : fg_sm (fg_pH 15) u (fg_sF (fg_sF (fg_sF (fg_sF u 15 7 0) 15 8 0) 15 9 0) 15 10 0) := (((fg_sm_F (i15 15 (by omega) (by omega))).tr (fg_sm_F (i15 15 (by omega) (by omega)))).tr (fg_sm_F (i15 15 (by omega) (by omega)))).tr (fg_sm_F (i15 15 (by omega) (by omega)))
  have D3 := D.sm (M.tr m3) (fun g h1 h2 => fg_pH_no (by omega))
  have fin : ∀ x : Int32, x = fg_w0 S 59 → Q 0 (fg_sF (fg_sF (fg_sF (fg_sF (fg_sF u 15 7 0) 15 8 0) 15 9 0) 15 10 0) 15 11 x) := fun x hx => by
    refine H _ ((M.tr m3).tr (fg_sm_F (i15 15 (by omega) (by omega)))) ⟨fun g hg => ?_, fun g hg => ⟨?_, ?_⟩, ?_, ?_, ⟨?_, ?_, ?_⟩, fun k hk => ?_, fun k hk => ?_⟩
    · obtain ⟨q1, q2, q3, q4, q5⟩ := hr g (by omega)
      obtain ⟨o1, o2, o3⟩ := D.2 g hg
      refine ⟨(S.2 g).1, (S.2 g).2.1, (S.2 g).2.2, ok.2 g hg, ?_, ?_, ?_, by unfold fg_w0; rw [if_pos hg]⟩
      · exact ((m2.2 16 (by decide)).2 g).trans (q1.trans o1)
      · exact ((m2.2 17 (by decide)).2 g).trans (q2.trans o2)
      · exact ((m2.2 18 (by decide)).2 g).trans (q3.trans o3)
    · rw [fg_w0_0 ok (by omega)]
      exact ((m2.2 19 (by decide)).2 g).trans (hr g (by omega)).2.2.2.1
    · rw [fg_w0_m ok (by omega)]
      exact ((m2.2 20 (by decide)).2 g).trans (hr g (by omega)).2.2.2.2
    · rw [fg_set_none _ (fun i hi => by rw [fg_w0_0 ok (by omega)]; rfl)]
      rfl
    · rw [fg_set_none _ (fun i hi => by
        by_cases h1 : 1 ≤ i
        · rw [fg_w0_m ok (by omega)]
          simp
        · simp [h1])]
      rfl
    · rw [fg_w0_0 ok (by omega)]
      rfl
    · rw [fg_w0_0 ok (by omega)]
      rfl
    · exact hx
    · rw [fg_w0_m ok (by omega)]
      exact e21 k hk
    · rw [fg_w0_m ok (by omega)]
      exact e22 k hk
  refine fh_use (rh_SH_stands Sh ok.1 D3.1 (fg_bt' (fun e => fin 1 ?_) (fun e => fin 0 ?_)))
  · have e := of_decide_eq_true e
    rw [fg_w0_59 ok, if_neg (by omega)]
  · have e := of_decide_eq_false e
    rw [fg_w0_59 ok, if_pos (by omega)]
end
