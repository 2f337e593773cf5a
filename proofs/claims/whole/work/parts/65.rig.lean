/-! A NEW SHIP: the deck rigged -/
def fg_w0 (S : fg_PS) (k : Nat) : Int32 := if k < fg_zf S.1 then nI (100 * (S.2 k).1 + 10 * (S.2 k).2.1 + (S.2 k).2.2) else if k = 59 then (if fg_zH S.1 = 0 then 0 else 1) else if (20 ≤ k ∧ k < 30) ∨ (40 ≤ k ∧ k < 58) then -1 else 0
theorem fg_set_none {p : Nat → Bool} : ∀ n, (∀ i, i < n → p i = false) → fg_set p n = 0 := by
  intro n
  induction n with
  | zero => intro _; rfl
  | succ n ih =>
    intro h
    rw [fg_set, ih (fun i hi => h i (by omega)), h n (by omega)]
    simp
section
variable {S : fg_PS}
theorem fg_w0_m {k : Nat} (ok : fg_Sok S) (h : (20 ≤ k ∧ k < 30) ∨ (40 ≤ k ∧ k < 58)) : fg_w0 S k = -1 := by
  have := ok.1.1.2.2.1
  unfold fg_w0
  rw [if_neg (by omega), if_neg (by omega), if_pos h]
theorem fg_w0_0 {k : Nat} (ok : fg_Sok S) (h : (10 ≤ k ∧ k < 20) ∨ (30 ≤ k ∧ k < 40) ∨ k = 58 ∨ k = 60) : fg_w0 S k = 0 := by
  have := ok.1.1.2.2.1
  unfold fg_w0
  rw [if_neg (by omega), if_neg (by omega), if_neg (by omega)]
theorem fg_w0_59 (ok : fg_Sok S) : fg_w0 S 59 = if fg_zH S.1 = 0 then 0 else 1 := by
  have := ok.1.1.2.2.1
  unfold fg_w0
  rw [if_neg (by omega), if_pos rfl]
theorem fg_w0_Wk (ok : fg_Sok S) : fg_Wk S.1 (fg_w0 S) := by
  have h10 := ok.1.1.2.2.1
  have nn : ∀ n : Nat, n < 100 → ¬ (-1 : Int32) = nI n := fun n hn x => fg_nm1 (by omega) x.symm
  refine fg_Wk_mk ⟨fun g hg => Or.inl (fg_w0_0 ok (by omega)), fun g hg => ⟨0, fg_w0_0 ok (by omega), by omega, fun _ => by omega⟩⟩ ⟨⟨0, by omega, fg_w0_0 ok (by omega)⟩, ⟨0, by omega, fg_w0_0 ok (by omega)⟩, ?_⟩ ⟨fun g hg => Or.inl (fg_w0_m ok (by omega)), fun k k1 k3 => Or.inl (fg_w0_m ok (by omega)), fun h hh => Or.inl ⟨fg_w0_m ok (by omega), fun j hj => fg_w0_m ok (by omega)⟩, fun h j hh hj => Or.inl (fg_w0_m ok (by omega)), fun g h hg hh => ?_, fun k h k1 k3 hh => ?_⟩
  · rw [fg_w0_59 ok]
    split
    · exact ⟨0, by omega, rfl⟩
    · exact ⟨1, by omega, rfl⟩
  · rw [fg_w0_m ok (by omega)]
    exact ⟨fun x => absurd x (nn h (by omega)), fun ⟨j, hj, x⟩ => absurd ((fg_w0_m ok (by omega)).symm.trans x) (nn g (by omega))⟩
  · rw [fg_w0_m ok (by omega)]
    exact ⟨fun x => absurd x (nn h (by omega)), fun ⟨j, hj, x⟩ => absurd ((fg_w0_m ok (by omega)).symm.trans x) (nn (20 + k) (by omega))⟩
theorem fg_w0_pt (ok : fg_Sok S) : fg_Pt S.1 (fg_w0 S) := fun g hg => ⟨(S.2 g).1, (S.2 g).2.1, (S.2 g).2.2, ok.2 g hg, by unfold fg_w0; rw [if_pos hg]⟩
end
section
variable {d : Nat} {σ u : fg_St} {Q : Int32 → fg_St → Prop} {h : Nat} {S : fg_PS}
def fg_rgd (σ τ : fg_St) (h g : Nat) : Prop := fg_R τ 16 g = fg_R σ (h + 1) g ∧ fg_R τ 17 g = fg_R σ (h + 2) g ∧ fg_R τ 18 g = fg_R σ (h + 3) g ∧ fg_R τ 19 g = 0 ∧ fg_R τ 20 g = -1
theorem l_DK_rig1 (Sh : h = 3 ∨ h = 9) (H : ∀ u, fg_sm (fg_pH 15) σ u → (∀ g, g < 10 → fg_rgd σ u h g) → fg_Run (d + 1) 0 66 [some (.ref 15), some (.ref h), some (.int 0)] [] u Q) : ∀ m i (τ : fg_St), i + m = 10 → fg_sm (fg_pH 15) σ τ → (∀ g, g < i → fg_rgd σ τ h g) → fg_Run (d + 1) 0 2 [some (.ref 15), some (.ref h), some (.int (nI i))] [] τ Q := by
  have i15 : ∀ k, 15 ≤ k → k < 23 → fg_pH 15 k = true := fun k => fg_p15
  intro m
  induction m with
  | zero =>
    intro i τ hi m1 hr
    have hi : i = 10 := by omega
    subst hi
    exact b_DK_rig_2 Sh ⟨fun _ => H τ m1 hr, fun q => absurd (nI_le (a := 10) (by omega) (by omega)) q⟩
  | succ m ih =>
    intro i τ hi m1 hr
    have vi : vp_in (nI i) 10 := vp_in_nI (by omega) (by decide)
    refine b_DK_rig_2 Sh ⟨fun q => absurd q (nI_ge (b := 10) (by omega) (by decide)), fun _ => ⟨vi, vi, vi, vi, vi, vi, vi, vi, ?_⟩⟩
    have r1 : fg_R τ (h + 1) i = fg_R σ (h + 1) i := (m1.2 _ (fg_pH_no (by omega))).2 i
    have r2 : fg_R τ (h + 2) i = fg_R σ (h + 2) i := (m1.2 _ (fg_pH_no (by omega))).2 i
    have r3 : fg_R τ (h + 3) i = fg_R σ (h + 3) i := (m1.2 _ (fg_pH_no (by omega))).2 i
    rw [nI_clamp (by omega), fg_R_ne (a := h + 2) (by omega), fg_R_ne (a := h + 3) (by omega), fg_R_ne (a := h + 3) (by omega), r1, r2, r3, nI_1]
    refine ih (i + 1) _ (by omega) (m1.tr (((((fg_sm_R (i15 16 (by omega) (by omega))).tr (fg_sm_R (i15 17 (by omega) (by omega)))).tr (fg_sm_R (i15 18 (by omega) (by omega)))).tr (fg_sm_R (i15 19 (by omega) (by omega)))).tr (fg_sm_R (i15 20 (by omega) (by omega))))) (fun g hg => ?_)
    have e16 : fg_R (fg_sR (fg_sR (fg_sR (fg_sR (fg_sR τ 16 i (fg_R σ (h + 1) i)) 17 i (fg_R σ (h + 2) i)) 18 i (fg_R σ (h + 3) i)) 19 i 0) 20 i (-1)) 16 g = fg_ut (fg_R τ 16) i (fg_R σ (h + 1) i) g := by
      rw [fg_R_ne (by decide), fg_R_ne (by decide), fg_R_ne (by decide), fg_R_ne (by decide), fg_R_eq]
    have e17 : fg_R (fg_sR (fg_sR (fg_sR (fg_sR (fg_sR τ 16 i (fg_R σ (h + 1) i)) 17 i (fg_R σ (h + 2) i)) 18 i (fg_R σ (h + 3) i)) 19 i 0) 20 i (-1)) 17 g = if g = i then fg_R σ (h + 2) i else fg_R τ 17 g := by
      rw [fg_R_ne (by decide), fg_R_ne (by decide), fg_R_ne (by decide), fg_R_eq]
      by_cases e : g = i
      · rw [if_pos e, e, fg_ut_s]
      · rw [if_neg e, fg_ut_n e, fg_R_ne (by decide)]
    have e18 : fg_R (fg_sR (fg_sR (fg_sR (fg_sR (fg_sR τ 16 i (fg_R σ (h + 1) i)) 17 i (fg_R σ (h + 2) i)) 18 i (fg_R σ (h + 3) i)) 19 i 0) 20 i (-1)) 18 g = if g = i then fg_R σ (h + 3) i else fg_R τ 18 g := by
      rw [fg_R_ne (by decide), fg_R_ne (by decide), fg_R_eq]
      by_cases e : g = i
      · rw [if_pos e, e, fg_ut_s]
      · rw [if_neg e, fg_ut_n e, fg_R_ne (by decide), fg_R_ne (by decide)]
    have e19 : fg_R (fg_sR (fg_sR (fg_sR (fg_sR (fg_sR τ 16 i (fg_R σ (h + 1) i)) 17 i (fg_R σ (h + 2) i)) 18 i (fg_R σ (h + 3) i)) 19 i 0) 20 i (-1)) 19 g = if g = i then 0 else fg_R τ 19 g := by
      rw [fg_R_ne (by decide), fg_R_eq]
      by_cases e : g = i
      · rw [if_pos e, e, fg_ut_s]
      · rw [if_neg e, fg_ut_n e, fg_R_ne (by decide), fg_R_ne (by decide), fg_R_ne (by decide)]
    have e20 : fg_R (fg_sR (fg_sR (fg_sR (fg_sR (fg_sR τ 16 i (fg_R σ (h + 1) i)) 17 i (fg_R σ (h + 2) i)) 18 i (fg_R σ (h + 3) i)) 19 i 0) 20 i (-1)) 20 g = if g = i then -1 else fg_R τ 20 g := by
      rw [fg_R_eq]
      by_cases e : g = i
      · rw [if_pos e, e, fg_ut_s]
      · rw [if_neg e, fg_ut_n e, fg_R_ne (by decide), fg_R_ne (by decide), fg_R_ne (by decide), fg_R_ne (by decide)]
    unfold fg_rgd
    rw [e16, e17, e18, e19, e20]
    by_cases e : g = i
    · rw [if_pos e, if_pos e, if_pos e, if_pos e, e, fg_ut_s]
      exact ⟨rfl, rfl, rfl, rfl, rfl⟩
    · rw [if_neg e, if_neg e, if_neg e, if_neg e, fg_ut_n e]
      exact hr g (by omega)
theorem l_DK_rig2 (Sh : h = 3 ∨ h = 9) (H : ∀ u, fg_sm (fun g => g == 21 || g == 22) σ u → (∀ k, k < 3 → fg_R u 21 k = -1) → (∀ k, k < 12 → fg_R u 22 k = -1) → (∃ P, fg_Run d 30 0 [some (.ref h)] [] (fg_sF (fg_sF (fg_sF (fg_sF u 15 7 0) 15 8 0) 15 9 0) 15 10 0) P ∧ ∀ x1 u2, P x1 u2 → ((x1 = 0 → Q 0 (fg_sF u2 15 11 0)) ∧ (¬ (x1 = 0) → Q 0 (fg_sF u2 15 11 1))))) : ∀ m i (τ : fg_St), i + m = 3 → fg_sm (fun g => g == 21 || g == 22) σ τ → (∀ k, k < i → fg_R τ 21 k = -1) → (∀ k, k < 4 * i → fg_R τ 22 k = -1) → fg_Run (d + 1) 0 66 [some (.ref 15), some (.ref h), some (.int (nI i))] [] τ Q := by
  intro m
  induction m with
  | zero =>
    intro i τ hi m1 h1 h2
    have hi : i = 3 := by omega
    subst hi
    exact b_DK_rig_66 Sh ⟨fun _ => H τ m1 h1 h2, fun q => absurd (nI_le (a := 3) (by omega) (by omega)) q⟩
  | succ m ih =>
    intro i τ hi m1 h1 h2
    refine b_DK_rig_66 Sh ⟨fun q => absurd q (nI_ge (b := 3) (by omega) (by decide)), fun _ => fg_use (r_DK_emptyLine (h := i) (by omega) (fun u m2 e1 e2 => ?_))⟩
    rw [nI_1]
    refine ih (i + 1) u (by omega) (m1.tr m2) (fun k hk => ?_) (fun k hk => ?_)
    · rw [e1]
      by_cases e : k = i
      · rw [if_pos e]
      · rw [if_neg e]
        exact h1 k (by omega)
    · rw [e2]
      by_cases e : 4 * i ≤ k ∧ k < 4 * i + 4
      · rw [if_pos e]
      · rw [if_neg e]
        exact h2 k (by omega)
theorem r_DK_rig (Sh : h = 3 ∨ h = 9) (D : fg_DS σ h S) (ok : fg_Sok S) (H : ∀ u, fg_sm (fg_pH 15) σ u → fg_DkX u 15 S.1 (fg_w0 S) → Q 0 u) : fg_Run (d + 1) 0 0 [some (.ref 15), some (.ref h), none] [] σ Q := by
  have h10 := ok.1.1.2.2.1
  have i15 : ∀ k, 15 ≤ k → k < 23 → fg_pH 15 k = true := fun k => fg_p15
  refine b_DK_rig_0 Sh (l_DK_rig1 Sh (fun ρ m1 hr => ?_) 10 0 σ rfl fg_sm.rfl' (fun g hg => absurd hg (Nat.not_lt_zero _)))
  refine l_DK_rig2 Sh (fun u m2 e21 e22 => ?_) 3 0 ρ rfl fg_sm.rfl' (fun k hk => absurd hk (Nat.not_lt_zero _)) (fun k hk => absurd hk (Nat.not_lt_zero _))
  have M : fg_sm (fg_pH 15) σ u := m1.tr (m2.wk (fun g hg => by
    simp only [Bool.or_eq_false_iff, beq_eq_false_iff_ne]
    constructor
    · intro e
      rw [e] at hg
      exact absurd hg (by decide)
    · intro e
      rw [e] at hg
      exact absurd hg (by decide)))
  have m3 : fg_sm (fg_pH 15) u (fg_sF (fg_sF (fg_sF (fg_sF u 15 7 0) 15 8 0) 15 9 0) 15 10 0) := (((fg_sm_F (i15 15 (by omega) (by omega))).tr (fg_sm_F (i15 15 (by omega) (by omega)))).tr (fg_sm_F (i15 15 (by omega) (by omega)))).tr (fg_sm_F (i15 15 (by omega) (by omega)))
  have D3 := D.sm (M.tr m3) (fun g h1 h2 => fg_pH_no (by omega))
  have fin : ∀ x : Int32, x = fg_w0 S 59 → Q 0 (fg_sF (fg_sF (fg_sF (fg_sF (fg_sF u 15 7 0) 15 8 0) 15 9 0) 15 10 0) 15 11 x) := fun x hx => by
    refine H _ ((M.tr m3).tr (fg_sm_F (i15 15 (by omega) (by omega)))) ⟨fun g hg => ?_, fun g hg => ⟨?_, ?_⟩, ?_, ?_, ⟨?_, ?_, ?_⟩, fun k hk => ?_, fun k hk => ?_⟩
    · obtain ⟨q1, q2, q3, q4, q5⟩ := hr g (by omega)
      obtain ⟨o1, o2, o3⟩ := D.2 g hg
      refine ⟨(S.2 g).1, (S.2 g).2.1, (S.2 g).2.2, ok.2 g hg, ?_, ?_, ?_, by unfold fg_w0; rw [if_pos hg]⟩
      · exact ((m2.2 16 (by decide)).2 g).trans (q1.trans o1)
      · exact ((m2.2 17 (by decide)).2 g).trans (q2.trans o2)
      · exact ((m2.2 18 (by decide)).2 g).trans (q3.trans o3)
    · rw [fg_w0_0 ok (by omega)]
      exact ((m2.2 19 (by decide)).2 g).trans (hr g (by omega)).2.2.2.1
    · rw [fg_w0_m ok (by omega)]
      exact ((m2.2 20 (by decide)).2 g).trans (hr g (by omega)).2.2.2.2
    · rw [fg_set_none _ (fun i hi => by rw [fg_w0_0 ok (by omega)]; rfl)]
      rfl
    · rw [fg_set_none _ (fun i hi => by
        by_cases h1 : 1 ≤ i
        · rw [fg_w0_m ok (by omega)]
          simp
        · simp [h1])]
      rfl
    · rw [fg_w0_0 ok (by omega)]
      rfl
    · rw [fg_w0_0 ok (by omega)]
      rfl
    · exact hx
    · rw [fg_w0_m ok (by omega)]
      exact e21 k hk
    · rw [fg_w0_m ok (by omega)]
      exact e22 k hk
  refine fg_use (r_SH_stands Sh ok.1 D3.1 (fg_bt' (fun e => fin 1 ?_) (fun e => fin 0 ?_)))
  · have e := of_decide_eq_true e
    rw [fg_w0_59 ok, if_neg (by omega)]
  · have e := of_decide_eq_false e
    rw [fg_w0_59 ok, if_pos (by omega)]
/-- nothing of the reference changed -/
def fg_sc (σ u : fg_St) : Prop := ∀ g, 187 ≤ g → (∀ k, fg_F u g k = fg_F σ g k) ∧ ∀ k, fg_R u g k = fg_R σ g k
theorem fg_sc.of {P : Nat → Bool} (m : fg_sm P σ u) (h : ∀ g, 187 ≤ g → P g = false) : fg_sc σ u := fun g hg => m.2 g (h g hg)
theorem fg_sc.tr {v : fg_St} (a : fg_sc σ u) (b : fg_sc u v) : fg_sc σ v := fun g hg => ⟨fun k => ((b g hg).1 k).trans ((a g hg).1 k), fun k => ((b g hg).2 k).trans ((a g hg).2 k)⟩
theorem fg_RI.sc {z : fg_Z} {w : Nat → Int32} {P : fg_GP} {I : fg_GI} {T : fg_GT} {v : Int32} {s : Nat} {R : fg_GR} {B : fg_GB} (h : fg_RI σ z w P I T v s R B) (m : fg_sc σ u) : fg_RI u z w P I T v s R B := by
  have n : fg_sn fg_no (fun g => decide (g < 187)) σ u := ⟨fun k _ => (m 187 (by omega)).1 k, fun g hg => (m g (by simpa using hg)).2⟩
  obtain ⟨a1, a2, a3, a4, a5, a6, a7, a8, a9⟩ := h
  exact ⟨(funext (n.2 191 rfl)).trans a1, ⟨a2.1.sn n rfl rfl rfl rfl rfl rfl rfl, a2.2⟩, a3.sn n rfl rfl, a4.sn n rfl rfl, a5.sn n rfl rfl, (n.1 11 rfl).trans a6, ⟨a7.1, (n.1 8 rfl).trans a7.2⟩, a8.sn n rfl rfl rfl, a9.sn n rfl rfl rfl⟩
end
