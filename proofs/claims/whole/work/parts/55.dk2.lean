/-! THE DECK OF THE CLASS: hoisted, hauled down -/
section
variable {d : Nat} {σ : fg_St} {Q : Int32 → fg_St → Prop} {z : fg_Z} {w : Nat → Int32} {h : Nat}
theorem l_DK_raise {r : Nat → Nat} (hz : fg_Zok z) (hh : h < 3) (ok : ∀ j, j < 4 → fg_pok z (r j)) (hr : ∀ j, j < 4 → fg_R σ 32 j = fg_pi (r j)) (H : ∀ u, fg_sm (fg_pH 15) σ u → fg_DkX u 15 z (fg_hw w h r 4) → Q (nI (fg_ns r 4)) u) : ∀ m i (τ : fg_St), i + m = 4 → fg_sm (fg_pH 15) σ τ → fg_DkX τ 15 z (fg_hw w h r i) → fg_Run d 9 13 [some (.ref 15), some (.int (nI h)), none, some (.ref 32), some (.int (nI (fg_ns r i))), some (.int (nI i)), none] [] τ Q := by
  have h10 := hz.1.2.2.1
  intro m
  induction m with
  | zero =>
    intro i τ hi m1 D
    have hi : i = 4 := by omega
    subst hi
    exact b_DK_raise_13 ⟨fun _ => H τ m1 D, fun q => absurd (nI_le (a := 4) (by omega) (by omega)) q⟩
  | succ m ih =>
    intro i τ hi m1 D
    have er : fg_R τ 32 i = fg_pi (r i) := ((m1.2 32 (fg_pH_no (by omega))).2 i).trans (hr i (by omega))
    refine b_DK_raise_13 ⟨fun q => absurd q (nI_ge (b := 4) (by omega) (by decide)), fun _ => ⟨by decide, fun q => absurd q (nI_ge (b := 4) (by omega) (by decide)), fun _ => ⟨by decide, vp_in_nI (by show i < 4; omega) (by decide), ?_⟩⟩⟩
    rw [fg_lit4, nI_clamp (by omega), nI_clamp (by omega), er, nI_1, show h * 4 + i = 4 * h + i by omega]
    refine ⟨vp_in_nI (by omega) (by decide), ?_⟩
    have D6 := fun x => D.u6 hz (q := 4 * h + i) (x := x) (by omega)
    have s6 : ∀ x, fg_sm (fg_pH 15) σ (fg_sR τ 22 (4 * h + i) x) := fun x => m1.tr (fg_sm_R (fg_p15 (by omega) (by omega)))
    rcases ok i (by omega) with e | e | e
    · have ep : fg_pi (r i) = -1 := by rw [e]; rfl
      rw [ep]
      refine ⟨fun _ => ⟨fun _ => ?_, fun q => absurd (by decide) q⟩, fun q => absurd (by decide) q⟩
      have en : fg_ns r (i + 1) = fg_ns r i := by rw [fg_ns, if_neg (fun x => x.2 e)]; rfl
      have := ih (i + 1) _ (by omega) (s6 (-1)) (by rw [fg_hw, fg_h1, if_pos e]; exact D6 (-1))
      rw [en] at this
      exact this
    · have ep : fg_pi (r i) = nI (r i) := if_neg (by omega)
      rw [ep]
      refine ⟨fun _ => ⟨fun q => absurd q (nI_pos (by omega)), fun _ => ⟨fun q => absurd q (nI_ge (b := 10) (by omega) (by decide)), fun _ => ⟨vp_in_nI (by omega) (by decide), ?_⟩⟩⟩, fun q => absurd (nI_le (b := 20) (by omega) (by decide)) q⟩
      rw [nI_clamp (by omega)]
      have en : fg_ns r (i + 1) = fg_ns r i := by rw [fg_ns, if_neg (by omega)]; rfl
      have := ih (i + 1) _ (by omega) ((s6 (nI (r i))).tr (fg_sm_R (fg_p15 (k := 20) (by omega) (by omega)))) (by rw [fg_hw, fg_h1, if_neg (by omega), if_pos (by omega)]; exact (D6 (nI (r i))).u4 hz e)
      rw [en] at this
      exact this
    · have ep : fg_pi (r i) = nI (r i) := if_neg (by omega)
      rw [ep]
      refine ⟨fun q => absurd q (nI_ge (a := 20) (b := r i) (by omega) (by omega)), fun _ => ?_⟩
      have en : fg_ns r (i + 1) = fg_ns r i + 1 := by rw [fg_ns, if_pos (by omega)]
      have e20 : nI (r i) - 20 = nI (r i - 20) := pk_sub (b := 20) (by omega)
      rw [e20, fg_shl1 (by omega), D.f8, fg_or, nI_1]
      have := ih (i + 1) _ (by omega) ((s6 (nI (r i))).tr (fg_sm_F (k := 8) (x := nI (fg_set (fun k => decide (1 ≤ k ∧ ¬ fg_hw w h r i (39 + k) = -1)) 4 ||| 2 ^ (r i - 20))) (fg_p15 (k := 15) (by omega) (by omega)))) (by
        rw [fg_hw, fg_h1, if_neg (by omega), if_neg (by omega)]
        refine (D6 (nI (r i))).u8 hz (by omega) (by omega) ?_
        rw [fg_set_in _ _ _ (by omega)]
        refine congrArg nI (fg_set_ext (fun k hk => ?_))
        by_cases ek : k = r i - 20
        · rw [ek, fg_ut_s]
          have n1 : ¬ nI h = -1 := fg_nm1 (by omega)
          have n2 : 1 ≤ r i - 20 := by omega
          simp [n1, n2]
        · rw [fg_ut_n (by omega), fg_ut_n (by omega)]
          simp [ek])
      rw [en] at this
      exact this
theorem r_DK_raise {r : Nat → Nat} {e : Nat} (hz : fg_Zok z) (hh : h < 3) (ok : ∀ j, j < 4 → fg_pok z (r j)) (hr : ∀ j, j < 4 → fg_R σ 32 j = fg_pi (r j)) (D : fg_DkX σ 15 z w) (H : ∀ u, fg_sm (fg_pH 15) σ u → fg_DkX u 15 z (fg_ut (fg_hw w h r 4) (43 + h) (nI e)) → Q (nI (fg_ns r 4)) u) : fg_Run d 9 0 [some (.ref 15), some (.int (nI h)), some (.int (nI e)), some (.ref 32), none, none, none] [] σ Q := by
  refine b_DK_raise_0 ⟨vp_in_nI (by omega) (by decide), ?_⟩
  rw [nI_clamp (by omega)]
  have s0 : fg_sm (fg_pH 15) σ (fg_sR σ 21 h (nI e)) := fg_sm_R (fg_p15 (by omega) (by omega))
  refine l_DK_raise (σ := fg_sR σ 21 h (nI e)) (w := fg_ut w (43 + h) (nI e)) hz hh ok (fun j hj => (fg_R_ne (by decide)).trans (hr j hj)) (fun u m D' => H u (s0.tr m) ?_) 4 0 _ rfl fg_sm.rfl' (D.u5 hz hh)
  rw [fg_hw_ut hz ok hh 4 (by omega)] at D'
  exact D'
theorem l_DK_emptyLine (hh : h < 3) : ∀ m i (σ : fg_St), i + m = 4 → (∀ u, fg_sm (fun g => g == 22) σ u → (∀ k, fg_R u 22 k = if 4 * h + i ≤ k ∧ k < 4 * h + 4 then -1 else fg_R σ 22 k) → Q 0 u) → fg_Run d 11 9 [some (.ref 15), some (.int (nI h)), some (.int (nI i))] [] σ Q := by
  intro m
  induction m with
  | zero =>
    intro i σ hi H
    have hi : i = 4 := by omega
    subst hi
    exact b_DK_emptyLine_9 ⟨fun _ => H σ fg_sm.rfl' (fun k => by rw [if_neg (by omega)]), fun q => absurd (nI_le (a := 4) (by omega) (by omega)) q⟩
  | succ m ih =>
    intro i σ hi H
    refine b_DK_emptyLine_9 ⟨fun q => absurd q (nI_ge (b := 4) (by omega) (by decide)), fun _ => ?_⟩
    rw [fg_lit4, nI_clamp (by omega), nI_1]
    refine ⟨vp_in_nI (by omega) (by decide), ih (i + 1) _ (by omega) (fun u m1 hu => H u ((fg_sm_R (by decide)).tr m1) (fun k => ?_))⟩
    rw [hu k, fg_R_eq]
    by_cases e : k = h * 4 + i
    · rw [if_neg (by omega), e, fg_ut_s, if_pos (by omega)]
    · rw [fg_ut_n e]
      by_cases e2 : 4 * h + (i + 1) ≤ k ∧ k < 4 * h + 4
      · rw [if_pos e2, if_pos (by omega)]
      · rw [if_neg e2, if_neg (by omega)]
theorem r_DK_emptyLine (hh : h < 3) (H : ∀ u, fg_sm (fun g => g == 21 || g == 22) σ u → (∀ k, fg_R u 21 k = if k = h then -1 else fg_R σ 21 k) → (∀ k, fg_R u 22 k = if 4 * h ≤ k ∧ k < 4 * h + 4 then -1 else fg_R σ 22 k) → Q 0 u) : fg_Run d 11 0 [some (.ref 15), some (.int (nI h)), none] [] σ Q := by
  refine b_DK_emptyLine_0 ⟨vp_in_nI (by omega) (by decide), ?_⟩
  rw [nI_clamp (by omega)]
  refine l_DK_emptyLine hh 4 0 _ rfl (fun u m1 hu => H u ((fg_sm_R (by decide)).tr (m1.wk (fun g hg => by simp at hg ⊢; exact hg.2))) (fun k => ?_) (fun k => ?_))
  · rw [(m1.2 21 (by decide)).2 k, fg_R_eq]
    by_cases e : k = h
    · rw [if_pos e, e, fg_ut_s]
    · rw [if_neg e, fg_ut_n e]
  · rw [hu k]
    rfl
/-- the lines' rows put anew -/
theorem fg_DkX.e67 {τ u : fg_St} {w' : Nat → Int32} (D : fg_DkX τ 15 z w) (m : fg_sm (fun g => g == 21 || g == 22) τ u) (e0 : ∀ g, g < fg_zf z → w' g = w g ∧ w' (10 + g) = w (10 + g) ∧ w' (20 + g) = w (20 + g) ∧ w' (30 + g) = w (30 + g)) (e4 : ∀ k, 1 ≤ k → k ≤ 3 → w' (39 + k) = w (39 + k)) (e5 : w' 60 = w 60 ∧ w' 58 = w 58 ∧ w' 59 = w 59) (e6 : ∀ k, k < 3 → fg_R u 21 k = w' (43 + k)) (e7 : ∀ k, k < 12 → fg_R u 22 k = w' (46 + k)) : fg_DkX u 15 z w' := by
  obtain ⟨d1, d2, d3, d4, d5, d6, d7⟩ := D
  have f := (m.2 15 (by decide)).1
  refine ⟨fun g hg => ?_, fun g hg => ⟨?_, ?_⟩, (f 7).trans (d3.trans ?_), (f 8).trans (d4.trans ?_), ⟨(f 9).trans (d5.1.trans e5.1.symm), (f 10).trans (d5.2.1.trans e5.2.1.symm), (f 11).trans (d5.2.2.trans e5.2.2.symm)⟩, e6, e7⟩
  · obtain ⟨k, a, b, g1, g2, g3, g4, g5⟩ := d1 g hg
    exact ⟨k, a, b, g1, ((m.2 16 (by decide)).2 g).trans g2, ((m.2 17 (by decide)).2 g).trans g3, ((m.2 18 (by decide)).2 g).trans g4, (e0 g hg).1.trans g5⟩
  · exact ((m.2 19 (by decide)).2 g).trans ((d2 g hg).1.trans (e0 g hg).2.1.symm)
  · exact ((m.2 20 (by decide)).2 g).trans ((d2 g hg).2.trans (e0 g hg).2.2.1.symm)
  · exact congrArg nI (fg_set_ext (fun g hg => by rw [(e0 g hg).2.2.2]))
  · refine congrArg nI (fg_set_ext (fun k hk => ?_))
    by_cases h1 : 1 ≤ k
    · rw [e4 k h1 (by omega)]
    · simp [h1]
theorem l_DK_lower {x : Int32} (hz : fg_Zok z) (W : fg_Wk z w) (hh : h < fg_zH z) (H : ∀ u, fg_sm (fg_pH 15) σ u → fg_DkX u 15 z (fg_wL w h) → Q x u) : ∀ m i (τ : fg_St), i + m = 4 → fg_sm (fg_pH 15) σ τ → fg_DkX τ 15 z (fg_lwr w h i) → fg_Run (d + 1) 10 9 [some (.ref 15), some (.int (nI h)), some (.int x), some (.int (nI i)), none] [] τ Q := by
  have h10 := hz.1.2.2.1
  have h3 := hz.1.1
  have o := fg_lwr_o hz W (h := h) (by omega)
  intro m
  induction m with
  | zero =>
    intro i τ hi m1 D
    have hi : i = 4 := by omega
    subst hi
    refine b_DK_lower_9 ⟨fun _ => fg_use (r_DK_emptyLine (by omega) (fun u m2 h21 h22 => H u (m1.tr (m2.wk (fun g hg => ?_))) ?_)), fun q => absurd (nI_le (a := 4) (by omega) (by omega)) q⟩
    · simp only [Bool.or_eq_false_iff, beq_eq_false_iff_ne]
      constructor
      · intro e
        rw [e] at hg
        exact absurd hg (by decide)
      · intro e
        rw [e] at hg
        exact absurd hg (by decide)
    · refine D.e67 m2 (fun g hg => ⟨?_, ?_, ?_, ?_⟩) (fun k k1 k3 => ?_) ⟨?_, ?_, ?_⟩ (fun k hk => ?_) (fun k hk => ?_)
      · rw [o 4 (by omega) g (by omega)]
        unfold fg_wL fg_lg
        rw [if_neg (by omega), if_neg (by omega)]
      · rw [o 4 (by omega) _ (by omega)]
        unfold fg_wL fg_lg
        rw [if_neg (by omega), if_neg (by omega)]
      · have v := fg_lwr_20 hz W (h := h) (by omega) hg 4 (by omega)
        have i10 := W.C.2.2.2.2.1 g h hg (by omega)
        unfold fg_wL fg_lg
        rw [if_neg (by omega)]
        by_cases q : w (20 + g) = nI h
        · rw [if_pos ⟨by omega, q⟩, v.1 (i10.mp q)]
        · rw [if_neg (fun y => q y.2), v.2 (fun y => q (i10.mpr y))]
      · rw [o 4 (by omega) _ (by omega)]
        unfold fg_wL fg_lg
        rw [if_neg (by omega), if_neg (by omega)]
      · have v := fg_lwr_39 hz W (h := h) (by omega) k1 k3 4 (by omega)
        have i10 := W.C.2.2.2.2.2 k h k1 k3 (by omega)
        unfold fg_wL fg_lg
        rw [if_neg (by omega)]
        by_cases q : w (39 + k) = nI h
        · rw [if_pos ⟨by omega, q⟩, v.1 (i10.mp q)]
        · rw [if_neg (fun y => q y.2), v.2 (fun y => q (i10.mpr y))]
      · rw [o 4 (by omega) _ (by omega)]
        unfold fg_wL fg_lg
        rw [if_neg (by omega), if_neg (by omega)]
      · rw [o 4 (by omega) _ (by omega)]
        unfold fg_wL fg_lg
        rw [if_neg (by omega), if_neg (by omega)]
      · rw [o 4 (by omega) _ (by omega)]
        unfold fg_wL fg_lg
        rw [if_neg (by omega), if_neg (by omega)]
      · rw [h21 k]
        unfold fg_wL fg_lg
        by_cases e : k = h
        · rw [if_pos e, if_pos (by omega)]
        · rw [if_neg e, if_neg (by omega), if_neg (by omega), D.r5 hk, o 4 (by omega) _ (by omega)]
      · rw [h22 k]
        unfold fg_wL fg_lg
        by_cases e : 4 * h ≤ k ∧ k < 4 * h + 4
        · rw [if_pos e, if_pos (by omega)]
        · rw [if_neg e, if_neg (by omega), if_neg (by omega), D.r6 hk, o 4 (by omega) _ (by omega)]
  | succ m ih =>
    intro i τ hi m1 D
    refine b_DK_lower_9 ⟨fun q => absurd q (nI_ge (b := 4) (by omega) (by decide)), fun _ => ?_⟩
    have ep : fg_R τ 22 (h * 4 + i) = w (46 + (4 * h + i)) := by
      rw [D.r6 (by omega), show h * 4 + i = 4 * h + i by omega, o i (by omega) _ (by omega)]
    rw [fg_lit4, nI_clamp (by omega), ep, nI_1]
    refine ⟨vp_in_nI (by omega) (by decide), ?_⟩
    rcases W.C.2.2.2.1 h i (by omega) (by omega) with e | ⟨g, hg, e⟩ | ⟨s, s1, s3, e⟩
    · have D2 : fg_DkX τ 15 z (fg_lwr w h (i + 1)) := by rw [fg_lwr, e, fg_l1_m]; exact D
      rw [e]
      exact ⟨fun _ => ⟨fun _ => ih (i + 1) τ (by omega) m1 D2, fun q => absurd (by decide) q⟩, fun q => absurd (by decide) q⟩
    · have D2 : fg_DkX (fg_sR τ 20 g (-1)) 15 z (fg_lwr w h (i + 1)) := by rw [fg_lwr, e, fg_l1_f (by omega)]; exact D.u4 hz hg
      rw [e, nI_clamp (by omega)]
      exact ⟨fun _ => ⟨fun q => absurd q (nI_pos (by omega)), fun _ => ⟨fun q => absurd q (nI_ge (b := 10) (by omega) (by decide)), fun _ => ⟨vp_in_nI (by omega) (by decide), ih (i + 1) _ (by omega) (m1.tr (fg_sm_R (fg_p15 (by omega) (by omega)))) D2⟩⟩⟩, fun q => absurd (nI_le (b := 20) (by omega) (by decide)) q⟩
    · have e20 : nI (20 + s) - 20 = nI s := by
        have := pk_sub (a := 20 + s) (b := 20) (by omega)
        rw [show 20 + s - 20 = s by omega] at this
        exact this
      rw [e, e20, fg_shl1 (by omega), D.f8, fg_andn, fg_set_out _ _ _ (by omega)]
      refine ⟨fun q => absurd q (nI_ge (a := 20) (b := 20 + s) (by omega) (by omega)), fun _ => ih (i + 1) _ (by omega) (m1.tr (fg_sm_F (fg_p15 (by omega) (by omega)))) ?_⟩
      rw [fg_lwr, e, fg_l1_s s3]
      refine D.u8 hz s1 s3 (congrArg nI (fg_set_ext (fun k hk => ?_)))
      by_cases ek : k = s
      · rw [ek, fg_ut_s]
        simp
      · rw [fg_ut_n (by omega)]
        simp [ek]
theorem r_DK_lower (hz : fg_Zok z) (W : fg_Wk z w) (D : fg_DkX σ 15 z w) (hh : h < fg_zH z) (H : ∀ u, fg_sm (fg_pH 15) σ u → fg_DkX u 15 z (fg_wL w h) → Q (w (43 + h)) u) : fg_Run (d + 1) 10 0 [some (.ref 15), some (.int (nI h)), none, none, none] [] σ Q := by
  have h3 := hz.1.1
  refine b_DK_lower_0 ⟨vp_in_nI (by omega) (by decide), ?_⟩
  rw [nI_clamp (by omega), D.r5 (by omega)]
  exact l_DK_lower hz W hh H 4 0 σ rfl fg_sm.rfl' D
end
