/-! THE DECK OF THE CLASS CHANGES: sewn, a day, hoisted, hauled down -/
theorem fg_set_in (p : Nat → Bool) (n i : Nat) (hi : i < n) : fg_set p n ||| 2 ^ i = fg_set (fun g => p g || g == i) n := by
  apply Nat.eq_of_testBit_eq
  intro j
  rw [Nat.testBit_or, fg_set_bit, fg_set_bit, Nat.testBit_two_pow]
  by_cases e : j = i
  · subst e
    simp [hi]
  · have : (j == i) = false := by simpa using e
    have e2 : ¬ i = j := fun q => e q.symm
    simp [this, e2]
/-- how many substitutes -/
def fg_ns (r : Nat → Nat) : Nat → Nat
  | 0 => 0
  | n + 1 => fg_ns r n + (if 20 < r n ∧ ¬ r n = 99 then 1 else 0)
def fg_l1 (W : Nat → Int32) (p : Int32) : Nat → Int32 := if p = -1 then W else if p.toNatClampNeg < 20 then fg_ut W (20 + p.toNatClampNeg) (-1) else fg_ut W (39 + (p.toNatClampNeg - 20)) (-1)
def fg_lwr (w : Nat → Int32) (h : Nat) : Nat → Nat → Int32
  | 0 => w
  | i + 1 => fg_l1 (fg_lwr w h i) (w (46 + (4 * h + i)))
theorem fg_l1_m {W : Nat → Int32} : fg_l1 W (-1) = W := if_pos rfl
theorem fg_l1_f {W : Nat → Int32} {g : Nat} (h : g < 20) : fg_l1 W (nI g) = fg_ut W (20 + g) (-1) := by
  unfold fg_l1
  rw [if_neg (fg_nm1 (by omega)), nI_clamp (by omega), if_pos h]
theorem fg_l1_s {W : Nat → Int32} {k : Nat} (h : k ≤ 3) : fg_l1 W (nI (20 + k)) = fg_ut W (39 + k) (-1) := by
  unfold fg_l1
  rw [if_neg (fg_nm1 (by omega)), nI_clamp (by omega), if_neg (by omega), show 20 + k - 20 = k by omega]
section
variable {z : fg_Z} {w : Nat → Int32} {h : Nat}
theorem fg_lwr_o (hz : fg_Zok z) (W : fg_Wk z w) (hh : h < 3) : ∀ i, i ≤ 4 → ∀ k, (k < 20 ∨ (30 ≤ k ∧ k < 40) ∨ 43 ≤ k) → fg_lwr w h i k = w k := by
  have h10 := hz.1.2.2.1
  intro i
  induction i with
  | zero => intro _ k _; rfl
  | succ i ih =>
    intro hi k hk
    rw [fg_lwr]
    rcases W.C.2.2.2.1 h i hh (by omega) with e | ⟨g, hg, e⟩ | ⟨s, s1, s3, e⟩
    · rw [e, fg_l1_m]
      exact ih (by omega) k hk
    · rw [e, fg_l1_f (by omega), fg_ut_n (by omega)]
      exact ih (by omega) k hk
    · rw [e, fg_l1_s s3, fg_ut_n (by omega)]
      exact ih (by omega) k hk
theorem fg_lwr_20 (hz : fg_Zok z) (W : fg_Wk z w) (hh : h < 3) {g : Nat} (hg : g < fg_zf z) : ∀ i, i ≤ 4 → ((∃ j, j < i ∧ w (46 + (4 * h + j)) = nI g) → fg_lwr w h i (20 + g) = -1) ∧ ((¬ ∃ j, j < i ∧ w (46 + (4 * h + j)) = nI g) → fg_lwr w h i (20 + g) = w (20 + g)) := by
  have h10 := hz.1.2.2.1
  intro i
  induction i with
  | zero => intro _; exact ⟨fun ⟨j, hj, _⟩ => absurd hj (by omega), fun _ => rfl⟩
  | succ i ih =>
    intro hi
    have ih := ih (by omega)
    have up : (∃ j, j < i + 1 ∧ w (46 + (4 * h + j)) = nI g) ↔ ((∃ j, j < i ∧ w (46 + (4 * h + j)) = nI g) ∨ w (46 + (4 * h + i)) = nI g) := by
      constructor
      · rintro ⟨j, hj, q⟩
        by_cases e : j = i
        · exact Or.inr (e ▸ q)
        · exact Or.inl ⟨j, by omega, q⟩
      · rintro (⟨j, hj, q⟩ | q)
        · exact ⟨j, by omega, q⟩
        · exact ⟨i, by omega, q⟩
    rw [up, fg_lwr]
    rcases W.C.2.2.2.1 h i hh (by omega) with e | ⟨g', hg', e⟩ | ⟨s, s1, s3, e⟩
    · have n : ¬ w (46 + (4 * h + i)) = nI g := by rw [e]; exact fun q => fg_nm1 (by omega) q.symm
      simp only [n, or_false]
      rw [e, fg_l1_m]
      exact ih
    · rw [e, fg_l1_f (by omega), nI_eq (by omega) (by omega)]
      by_cases e2 : g' = g
      · subst e2
        rw [fg_ut_s]
        exact ⟨fun _ => rfl, fun q => absurd (Or.inr rfl) q⟩
      · rw [fg_ut_n (by omega)]
        simp only [e2, or_false]
        exact ih
    · have n : ¬ w (46 + (4 * h + i)) = nI g := by rw [e, nI_eq (by omega) (by omega)]; omega
      simp only [n, or_false]
      rw [e, fg_l1_s s3, fg_ut_n (by omega)]
      exact ih
theorem fg_lwr_39 (hz : fg_Zok z) (W : fg_Wk z w) (hh : h < 3) {k : Nat} (k1 : 1 ≤ k) (k3 : k ≤ 3) : ∀ i, i ≤ 4 → ((∃ j, j < i ∧ w (46 + (4 * h + j)) = nI (20 + k)) → fg_lwr w h i (39 + k) = -1) ∧ ((¬ ∃ j, j < i ∧ w (46 + (4 * h + j)) = nI (20 + k)) → fg_lwr w h i (39 + k) = w (39 + k)) := by
  have h10 := hz.1.2.2.1
  intro i
  induction i with
  | zero => intro _; exact ⟨fun ⟨j, hj, _⟩ => absurd hj (by omega), fun _ => rfl⟩
  | succ i ih =>
    intro hi
    have ih := ih (by omega)
    have up : (∃ j, j < i + 1 ∧ w (46 + (4 * h + j)) = nI (20 + k)) ↔ ((∃ j, j < i ∧ w (46 + (4 * h + j)) = nI (20 + k)) ∨ w (46 + (4 * h + i)) = nI (20 + k)) := by
      constructor
      · rintro ⟨j, hj, q⟩
        by_cases e : j = i
        · exact Or.inr (e ▸ q)
        · exact Or.inl ⟨j, by omega, q⟩
      · rintro (⟨j, hj, q⟩ | q)
        · exact ⟨j, by omega, q⟩
        · exact ⟨i, by omega, q⟩
    rw [up, fg_lwr]
    rcases W.C.2.2.2.1 h i hh (by omega) with e | ⟨g', hg', e⟩ | ⟨s, s1, s3, e⟩
    · have n : ¬ w (46 + (4 * h + i)) = nI (20 + k) := by rw [e]; exact fun q => fg_nm1 (by omega) q.symm
      simp only [n, or_false]
      rw [e, fg_l1_m]
      exact ih
    · have n : ¬ w (46 + (4 * h + i)) = nI (20 + k) := by rw [e, nI_eq (by omega) (by omega)]; omega
      simp only [n, or_false]
      rw [e, fg_l1_f (by omega), fg_ut_n (by omega)]
      exact ih
    · rw [e, fg_l1_s s3, nI_eq (by omega) (by omega)]
      by_cases e2 : s = k
      · subst e2
        rw [fg_ut_s]
        exact ⟨fun _ => rfl, fun q => absurd (Or.inr rfl) q⟩
      · rw [fg_ut_n (by omega)]
        have e3 : ¬ 20 + s = 20 + k := by omega
        simp only [e3, or_false]
        exact ih
end
section
variable {d : Nat} {σ : fg_St} {Q : Int32 → fg_St → Prop} {z : fg_Z} {w : Nat → Int32} {h f : Nat}
theorem fg_p15 {k : Nat} (h1 : 15 ≤ k) (h2 : k < 23) : fg_pH 15 k = true := fg_pH_in h1 (by omega)
theorem r_DK_canBeSewn (hz : fg_Zok z) (D : fg_DkX σ 15 z w) (hf : f < fg_zf z) (H : Q (fg_b (decide (w (20 + f) = -1 ∧ w (30 + f) = 1))) σ) : fg_Run (d + 1) 7 0 [some (.ref 15), some (.int (nI f))] [] σ Q := by
  have h10 := hz.1.2.2.1
  have ht := fg_tn_lt (w := w) hz
  refine b_DK_canBeSewn_0 ⟨fun q => absurd q (nI_pos (by omega)), fun _ => ⟨fun q => absurd q (nI_ge (b := 10) (by omega) (by decide)), fun _ => ⟨vp_in_nI (by omega) (by decide), ?_⟩⟩⟩
  rw [nI_clamp (by omega), D.r4 hf, D.f7]
  refine ⟨fun q => ?_, fun q => fg_use (r_FS_has (by omega) (by omega) ?_)⟩
  · rw [decide_eq_false (fun x => q x.1)] at H
    exact H
  · rw [fg_tn_bit hf]
    by_cases e : w (30 + f) = 1
    · rw [decide_eq_true ⟨q, e⟩] at H
      rw [decide_eq_true e]
      exact ⟨fun q => absurd q (by decide), fun _ => H⟩
    · rw [decide_eq_false (fun x => e x.2)] at H
      rw [decide_eq_false e]
      exact ⟨fun _ => H, fun q => absurd rfl q⟩
theorem r_DK_mend (hz : fg_Zok z) (D : fg_DkX σ 15 z w) (hf : f < fg_zf z) (H : ∀ u, fg_sm (fg_pH 15) σ u → fg_DkX u 15 z (fg_wS w f) → Q 0 u) : fg_Run d 8 0 [some (.ref 15), some (.int (nI f))] [] σ Q := by
  have h10 := hz.1.2.2.1
  refine b_DK_mend_0 ⟨fun q => absurd q (nI_pos (by omega)), fun _ => ⟨fun q => absurd q (nI_ge (b := 10) (by omega) (by decide)), fun _ => ⟨vp_in_nI (by omega) (by decide), ?_⟩⟩⟩
  rw [nI_clamp (by omega), D.f7, fg_shl1 (by omega), fg_andn]
  refine H _ ((fg_sm_R (fg_p15 (by omega) (by omega))).tr (fg_sm_F (fg_p15 (by omega) (by omega)))) ((D.u3 hz hf).u7 hz hf ?_)
  unfold fg_tn
  rw [fg_set_out _ _ _ (by omega)]
  refine congrArg nI (fg_set_ext (fun i hi => ?_))
  by_cases e : i = f
  · subst e
    rw [fg_ut_s]
    simp
  · rw [fg_ut_n (by omega), fg_ut_n (by omega)]
    simp [e]
theorem l_DK_passDay (Sh : h = 3 ∨ h = 9) (hz : fg_Zok z) (W : fg_Wk z w) (hF : fg_F σ h 2 = nI (fg_zf z)) (H : ∀ u, fg_sm (fg_pH 15) σ u → fg_DkX u 15 z (fg_wD z w) → Q 0 u) : ∀ m i (τ : fg_St), i + m = fg_zf z → fg_sm (fg_pH 15) σ τ → fg_DkX τ 15 z (fg_dy w i) → fg_Run (d + 1) 12 2 [some (.ref 15), some (.ref h), some (.int (nI i))] [] τ Q := by
  have h10 := hz.1.2.2.1
  have hh : h < 15 := by omega
  intro m
  induction m with
  | zero =>
    intro i τ hi m1 D
    have hi : i = fg_zf z := by omega
    subst hi
    have hF' : fg_F τ h 2 = nI (fg_zf z) := ((m1.2 h (fg_pH_no (by omega))).1 2).trans hF
    refine b_DK_passDay_2 Sh ⟨fun _ => ?_, fun q => absurd ?_ q⟩
    · rw [D.f9]
      exact H _ (m1.tr (fg_sm_F (fg_p15 (by omega) (by omega)))) (D.u9 hz)
    · rw [hF']
      exact nI_le (Nat.le_refl _) (by omega)
  | succ m ih =>
    intro i τ hi m1 D
    have hF' : fg_F τ h 2 = nI (fg_zf z) := ((m1.2 h (fg_pH_no (by omega))).1 2).trans hF
    have Wi := W.dy hz i (by omega)
    have hg : i < fg_zf z := by omega
    have ht := fg_tn_lt (w := fg_dy w i) hz
    have vi : vp_in (nI i) 10 := vp_in_nI (by omega) (by decide)
    refine b_DK_passDay_2 Sh ⟨fun q => absurd q (by rw [hF']; exact nI_ge (by omega) (by omega)), fun _ => ⟨fun q => absurd q (nI_ge (b := 10) (by omega) (by decide)), fun _ => ⟨vi, ?_⟩⟩⟩
    rw [nI_clamp (by omega), D.r4 hg, nI_1, D.f7]
    refine ⟨fun q => ih (i + 1) τ (by omega) m1 ?_, fun q => fg_use (r_FS_has (by omega) (by omega) ?_)⟩
    · rw [fg_dy, fg_q1, if_pos q]
      exact D
    · rw [fg_tn_bit hg]
      by_cases e1 : fg_dy w i (30 + i) = 1
      · rw [decide_eq_true e1]
        refine ⟨fun _ => ih (i + 1) τ (by omega) m1 ?_, fun q => absurd q (by decide)⟩
        rw [fg_dy, fg_q1, if_neg q, if_neg (by rw [e1]; decide)]
        exact D
      · have e0 : fg_dy w i (30 + i) = 0 := (Wi.1 i hg).elim (fun x => x) (fun x => absurd x e1)
        obtain ⟨n, n1, n2, n3⟩ := Wi.2.1 i hg
        have n3 := n3 e0
        have c5 : nI (n + 1) < 5 ↔ n + 1 < 5 := nI_ltI (b := 5) (by omega) (by decide)
        have q5' : nI (n + 1) = 5 ↔ n + 1 = 5 := nI_eq (b := 5) (by omega) (by decide)
        rw [decide_eq_false e1]
        refine ⟨fun q => absurd rfl q, fun _ => ⟨vi, vi, vi, ?_⟩⟩
        rw [D.r3 hg, fg_R_eq, fg_ut_s, n1, nI_1, c5]
        have D' := D.u3 hz hg (x := nI (n + 1))
        refine ⟨fun q5 => ih (i + 1) _ (by omega) (m1.tr (fg_sm_R (fg_p15 (by omega) (by omega)))) ?_, fun q5 => ih (i + 1) _ (by omega) (m1.tr ((fg_sm_R (fg_p15 (by omega) (by omega))).tr (fg_sm_F (fg_p15 (by omega) (by omega))))) ?_⟩
        · have e : fg_dy w (i + 1) = fg_ut (fg_dy w i) (10 + i) (nI (n + 1)) := by
            rw [fg_dy, fg_q1, if_neg q, if_pos e0, fg_p1, n1, nI_1, if_neg (by rw [q5']; omega)]
            have := fg_ut_id (fg_ut (fg_dy w i) (10 + i) (nI (n + 1))) (30 + i)
            rw [fg_ut_n (w := fg_dy w i) (by omega)] at this
            exact this
          rw [e]
          exact D'
        · have e : fg_dy w (i + 1) = fg_ut (fg_ut (fg_dy w i) (10 + i) (nI (n + 1))) (30 + i) 1 := by
            rw [fg_dy, fg_q1, if_neg q, if_pos e0, fg_p1, n1, nI_1, if_pos (by rw [q5']; omega)]
          rw [e]
          refine D'.u7 hz hg ?_
          rw [D.f7, fg_shl1 (by omega), fg_or]
          unfold fg_tn
          rw [fg_set_in _ _ _ hg]
          refine congrArg nI (fg_set_ext (fun j hj => ?_))
          by_cases ej : j = i
          · subst ej
            rw [fg_ut_s]
            simp
          · rw [fg_ut_n (by omega), fg_ut_n (by omega)]
            simp [ej]
theorem r_DK_passDay (Sh : h = 3 ∨ h = 9) (hz : fg_Zok z) (W : fg_Wk z w) (D : fg_DkX σ 15 z w) (hF : fg_F σ h 2 = nI (fg_zf z)) (H : ∀ u, fg_sm (fg_pH 15) σ u → fg_DkX u 15 z (fg_wD z w) → Q 0 u) : fg_Run (d + 1) 12 0 [some (.ref 15), some (.ref h), none] [] σ Q :=
  b_DK_passDay_0 Sh (l_DK_passDay Sh hz W hF H (fg_zf z) 0 σ (by omega) fg_sm.rfl' D)
end
