/-! SHIP: the class -/
def fg_shZ (T : fg_GT) (z : fg_Z) : fg_Z := match fg_prs T with
  | .ok S => S.1
  | .error _ => z
def fg_shW (T : fg_GT) (w : Nat → Int32) : Nat → Int32 := match fg_prs T with
  | .ok S => fg_w61 (fg_w0 S) w
  | .error _ => w
def fg_shP (T : fg_GT) (P : fg_GP) : fg_GP := match fg_prs T with
  | .ok _ => (0, P.2)
  | .error _ => P
def fg_shI (T : fg_GT) (I : fg_GI) : fg_GI := match fg_prs T with
  | .ok _ => ((fun _ => false), I.2)
  | .error _ => I
def fg_shV (T : fg_GT) : Int32 := match fg_prs T with
  | .ok _ => -1
  | .error e => nI e.2
def fg_shR (T : fg_GT) (R : fg_GR) : fg_GR := match fg_prs T with
  | .ok _ => (0, R.2)
  | .error _ => R
def fg_shB (T : fg_GT) (B : fg_GB) : fg_GB := match fg_prs T with
  | .ok _ => (0, B.2)
  | .error _ => B
def fg_shA (T : fg_GT) : Int32 := match fg_prs T with
  | .ok S => nI (fg_zs S.1)
  | .error e => (-10) - nI e.1
section
variable {d : Nat} {σ u : fg_St} {Q : Int32 → fg_St → Prop} {z : fg_Z} {w : Nat → Int32} {P : fg_GP} {I : fg_GI} {T : fg_GT} {v : Int32} {s : Nat} {R : fg_GR} {B : fg_GB}
theorem l_FS_ship (H : ∀ u, fg_sm (fun g => g == 41 || g == 50) σ u → (∀ i, i < 2 → fg_F u (41 + 9 * i) 2 = 0) → (∃ P, fg_Run d 19 0 [some (.ref 26)] [] u P ∧ ∀ x1 u2, P x1 u2 → (fg_kd u2.1 = 6 ∧ Q (fg_F u2 u2.1 3) u2))) : ∀ m i (τ : fg_St), i + m = 2 → fg_sm (fun g => g == 41 || g == 50) σ τ → (∀ j, j < i → fg_F τ (41 + 9 * j) 2 = 0) → fg_Run (d + 1) 61 78 [some (.ref 0), none, none, some (.int (nI i))] [] τ Q := by
  intro m
  induction m with
  | zero =>
    intro i τ hi m1 h1
    have hi : i = 2 := by omega
    subst hi
    exact b_FS_ship_78 ⟨fun _ => H τ m1 h1, fun q => absurd (nI_le (a := 2) (by omega) (by omega)) q⟩
  | succ m ih =>
    intro i τ hi m1 h1
    have hi2 : i = 0 ∨ i = 1 := by omega
    refine b_FS_ship_78 ⟨fun q => absurd q (nI_ge (b := 2) (by omega) (by decide)), fun _ => ⟨vp_in_nI (by omega) (by decide), ?_⟩⟩
    rw [nI_clamp (by omega), nI_1]
    refine ⟨fg_kd1 i (by omega), ih (i + 1) _ (by omega) (m1.tr (fg_sm_F (by rcases hi2 with rfl | rfl <;> decide))) (fun j hj => ?_)⟩
    rw [fg_F_sF]
    by_cases e : j = i
    · rw [if_pos ⟨rfl, by omega⟩]
    · rw [if_neg (by omega)]
      exact h1 j (by omega)
theorem c_FS_ship (h : fg_CI σ z w P I T v s R B) (H : ∀ u, fg_sc σ u → fg_CI u (fg_shZ T z) (fg_shW T w) (fg_shP T P) (fg_shI T I) (0, T.2) (fg_shV T) s (fg_shR T R) (fg_shB T B) → Q (fg_shA T) u) : fg_Run (d + 5) 61 0 [some (.ref 0), none, none, none] [] σ Q := by
  have Sh1 := h.2.1.1
  have sw := h.1
  have Sh2 : σ.2.1 = 3 ∨ σ.2.1 = 9 := by omega
  refine b_FS_ship_0 (fg_use (r_TX_parseInto Sh2 h.2.2.2.2.1 (fun u2 x m2 h2 => ?_)))
  have sc2 : fg_sc σ u2 := fg_sc.of m2 (fun g hg => by simp [fg_pD]; omega)
  cases hP : fg_prs T with
  | error e =>
    rw [hP] at h2
    obtain ⟨rfl, te⟩ := h2
    obtain ⟨hn, q, t2⟩ := id te
    refine ⟨fun x0 => absurd x0 (nI_ne0 (by omega) (by omega)), fun _ => ?_⟩
    rw [t2.2.2.2]
    rw [fg_shZ, fg_shW, fg_shP, fg_shI, fg_shV, fg_shR, fg_shB, fg_shA, hP] at H
    have m3 : fg_sm (fun g => g == 0 || g == 1) u2 (fg_sF (fg_sF u2 0 11 (nI e.2)) 1 1 0) := (fg_sm_F (by decide)).tr (fg_sm_F (by decide))
    have m : fg_sm (fun g => g == 0 || fg_pD σ.2.1 g) σ (fg_sF (fg_sF u2 0 11 (nI e.2)) 1 1 0) := (m2.wk (fun g hg => by simp only [Bool.or_eq_false_iff] at hg; exact hg.2)).tr (m3.wk (fun g hg => by simp [fg_pD] at hg; simp; omega))
    have pf : ∀ g, g ≠ 0 → g ≠ 1 → (g < σ.2.1 ∨ σ.2.1 + 5 < g) → (g == 0 || fg_pD σ.2.1 g) = false := fun g h0 h1 h2 => by simp [fg_pD]; omega
    refine H _ (sc2.tr (fg_sc.of m3 (fun g hg => by simp; omega))) ?_
    have f12 : fg_F (fg_sF (fg_sF u2 0 11 (nI e.2)) 1 1 0) 0 12 = fg_F σ 0 12 := (m2.2 0 (by simp [fg_pD]; omega)).1 12
    obtain ⟨a1, a2, a3, a4, a5, a6, a7, a8, a9⟩ := h
    obtain ⟨b1, b2, b3, b4, b5⟩ := a2
    refine ⟨by rw [m.1.1, m.1.2]; exact a1, ⟨by rw [m.1.1]; exact b1, b2, by rw [m.1.1]; exact b3.sm m (pf _ (by omega) (by omega) (by omega)) (pf _ (by omega) (by omega) (by omega)) (pf _ (by omega) (by omega) (by omega)), b4.sm m (pf _ (by omega) (by omega) (by omega)) (fun k hk => pf _ (by omega) (by omega) (by omega)), b5⟩, a3.sm m (pf _ (by omega) (by omega) (by omega)) (fun g _ _ => pf _ (by omega) (by omega) (by omega)), a4.sm m (fun g _ _ => pf _ (by omega) (by omega) (by omega)), ⟨Nat.zero_le _, rfl, fun i hi => absurd hi (Nat.not_lt_zero _)⟩, rfl, ⟨a7.1, f12.trans a7.2⟩, a8.sm m (pf _ (by omega) (by omega) (by omega)) (pf _ (by omega) (by omega) (by omega)) (pf _ (by omega) (by omega) (by omega)), a9.sm m (pf _ (by omega) (by omega) (by omega)) (pf _ (by omega) (by omega) (by omega)) (pf _ (by omega) (by omega) (by omega))⟩
  | ok S =>
    rw [hP] at h2
    obtain ⟨⟨rfl, q, t2⟩, D2, ok⟩ := h2
    refine ⟨fun _ => ?_, fun q => absurd rfl q⟩
    rw [fg_shZ, fg_shW, fg_shP, fg_shI, fg_shV, fg_shR, fg_shB, fg_shA, hP] at H
    rw [t2.2.2.2]
    have e21 : u2.2.1 = σ.2.1 := m2.1.2
    have e1 : u2.1 = σ.1 := m2.1.1
    change ∃ P, fg_Run (d + 4) 0 0 [some (.ref 15), some (.ref u2.2.1), none] [] (u2.2.1, u2.1, (fg_sF (fg_sF u2 0 11 (-1)) 1 1 0).2.2) P ∧ _
    rw [e21, e1]
    have X2 : ∀ g, g ≠ 0 → g ≠ 1 → (∀ k, fg_F (σ.2.1, σ.1, (fg_sF (fg_sF u2 0 11 (-1)) 1 1 0).2.2) g k = fg_F u2 g k) := fun g h0 h1 k => by
      show fg_F (fg_sF (fg_sF u2 0 11 (-1)) 1 1 0) g k = _
      rw [fg_F_sF, if_neg (fun x => h1 x.2), fg_F_sF, if_neg (fun x => h0 x.2)]
    have F0 : fg_F (σ.2.1, σ.1, (fg_sF (fg_sF u2 0 11 (-1)) 1 1 0).2.2) 0 11 = -1 ∧ fg_F (σ.2.1, σ.1, (fg_sF (fg_sF u2 0 11 (-1)) 1 1 0).2.2) 0 12 = fg_F u2 0 12 ∧ fg_F (σ.2.1, σ.1, (fg_sF (fg_sF u2 0 11 (-1)) 1 1 0).2.2) 1 1 = 0 := ⟨rfl, rfl, rfl⟩
    have R2 : ∀ g k, fg_R (σ.2.1, σ.1, (fg_sF (fg_sF u2 0 11 (-1)) 1 1 0).2.2) g k = fg_R u2 g k := fun _ _ => rfl
    have S1 : ((σ.2.1, σ.1, (fg_sF (fg_sF u2 0 11 (-1)) 1 1 0).2.2) : fg_St).1 = σ.2.1 ∧ ((σ.2.1, σ.1, (fg_sF (fg_sF u2 0 11 (-1)) 1 1 0).2.2) : fg_St).2.1 = σ.1 := ⟨rfl, rfl⟩
    generalize ((σ.2.1, σ.1, (fg_sF (fg_sF u2 0 11 (-1)) 1 1 0).2.2) : fg_St) = X at X2 F0 R2 S1 ⊢
    have D3 : fg_DS X σ.2.1 S := ⟨⟨⟨(X2 _ (by omega) (by omega) 0).trans D2.1.1.1, (X2 _ (by omega) (by omega) 1).trans D2.1.1.2.1, (X2 _ (by omega) (by omega) 2).trans D2.1.1.2.2.1, (X2 _ (by omega) (by omega) 3).trans D2.1.1.2.2.2⟩, fun e he => (R2 _ _).trans (D2.1.2.1 e he), fun e he j hj => (R2 _ _).trans (D2.1.2.2 e he j hj)⟩, fun g hg => ⟨(R2 _ _).trans (D2.2 g hg).1, (R2 _ _).trans (D2.2 g hg).2.1, (R2 _ _).trans (D2.2 g hg).2.2⟩⟩
    refine fg_use (r_DK_rig Sh2 D3 ok (fun u4 m4 D4 => fg_use (b_PA_forget_0 ?_)))
    have m5 : fg_sm (fun g => g == 23) u4 (fg_sF (fg_sF u4 23 1 0) 23 2 0) := (fg_sm_F (by decide)).tr (fg_sm_F (by decide))
    have F5 : fg_F (fg_sF (fg_sF u4 23 1 0) 23 2 0) 23 1 = 0 ∧ fg_F (fg_sF (fg_sF u4 23 1 0) 23 2 0) 23 2 = 0 := ⟨rfl, rfl⟩
    generalize fg_sF (fg_sF u4 23 1 0) 23 2 0 = u5 at m5 F5 ⊢
    refine l_FS_ship (σ := u5) (fun u6 m6 e6 => fg_use (b_LG_wipe_0 ?_)) 2 0 u5 rfl fg_sm.rfl' (fun j hj => absurd hj (Nat.not_lt_zero _))
    have m7 : fg_sm (fun g => g == 26) u6 (fg_sF (fg_sF u6 26 4 0) 26 5 0) := (fg_sm_F (by decide)).tr (fg_sm_F (by decide))
    have F7 : fg_F (fg_sF (fg_sF u6 26 4 0) 26 5 0) 26 4 = 0 ∧ fg_F (fg_sF (fg_sF u6 26 4 0) 26 5 0) 26 5 = 0 := ⟨rfl, rfl⟩
    generalize fg_sF (fg_sF u6 26 4 0) 26 5 0 = u7 at m7 F7 ⊢
    have pf : ∀ g, (g < 15 ∨ 23 ≤ g) → g ≠ 23 → g ≠ 26 → g ≠ 41 → g ≠ 50 → (fg_pH 15 g || g == 23 || g == 26 || g == 41 || g == 50) = false := fun g h1 h2 h3 h4 h5 => by
      rw [fg_pH_no h1]
      simp
      omega
    have M47 : fg_sm (fun g => fg_pH 15 g || g == 23 || g == 26 || g == 41 || g == 50) X u7 := (((m4.wk (fun g hg => by simp only [Bool.or_eq_false_iff] at hg; exact hg.1.1.1.1)).tr (m5.wk (fun g hg => by simp only [Bool.or_eq_false_iff] at hg; exact hg.1.1.1.2))).tr (m6.wk (fun g hg => by simp only [Bool.or_eq_false_iff] at hg ⊢; exact ⟨hg.1.2, hg.2⟩))).tr (m7.wk (fun g hg => by simp only [Bool.or_eq_false_iff] at hg; exact hg.1.1.2))
    have m57 : fg_sm (fun g => g == 23 || g == 26 || g == 41 || g == 50) u4 u7 := ((m5.wk (fun g hg => by simp only [Bool.or_eq_false_iff] at hg; exact hg.1.1.1)).tr (m6.wk (fun g hg => by simp only [Bool.or_eq_false_iff] at hg ⊢; exact ⟨hg.1.2, hg.2⟩))).tr (m7.wk (fun g hg => by simp only [Bool.or_eq_false_iff] at hg; exact hg.1.1.2))
    have s7 : u7.1 = σ.2.1 := M47.1.1.trans S1.1
    have s72 : u7.2.1 = σ.1 := M47.1.2.trans S1.2
    have D7 : fg_DS u7 σ.2.1 S := D3.sm M47 (fun g h1 h2 => pf g (by omega) (by omega) (by omega) (by omega) (by omega))
    have e3 : fg_F u7 σ.2.1 3 = nI (fg_zs S.1) := D7.1.1.2.2.2
    rw [s7, e3]
    refine ⟨fg_kd6 Sh2, H u7 ?_ ?_⟩
    · refine sc2.tr (fun g hg => ?_)
      have a := M47.2 g (pf g (by omega) (by omega) (by omega) (by omega) (by omega))
      exact ⟨fun k => (a.1 k).trans (X2 g (by omega) (by omega) k), fun k => (a.2 k).trans (R2 g k)⟩
    · have k0 := M47.2 0 (pf 0 (by omega) (by omega) (by omega) (by omega) (by omega))
      have k1 := M47.2 1 (pf 1 (by omega) (by omega) (by omega) (by omega) (by omega))
      have s0 := h.2.2.2.2.2.2.1
      have f12 : fg_F u7 0 12 = nI s := (k0.1 12).trans (F0.2.1.trans (((m2.2 0 (by simp [fg_pD]; omega)).1 12).trans s0.2))
      refine ⟨by rw [s7, s72]; omega, ⟨by rw [s7]; exact Sh2, ok.1, by rw [s7]; exact D7.1, fg_Dk.w (D4.sm m57 (by decide) (fun k hk => by simp; omega)) ok.1 fg_w61_in, fg_Wk.w (fg_w0_Wk ok) ok.1 fg_w61_in⟩, ⟨Nat.zero_le _, 0, by omega, ?_, ?_, fun j hj => absurd hj (Nat.not_lt_zero _)⟩, fun i hi => ⟨?_, fun q => absurd (show false = true from q) (by decide)⟩, ⟨Nat.zero_le _, ?_, fun i hi => absurd hi (Nat.not_lt_zero _)⟩, (k0.1 11).trans F0.1, ⟨s0.1, f12⟩, ⟨⟨F7.1, Nat.zero_le _⟩, fun i hi => absurd hi (Nat.not_lt_zero _)⟩, ⟨⟨Nat.zero_le _, F7.2⟩, fun i hi => absurd hi (Nat.not_lt_zero _)⟩⟩
      · exact ((m7.2 23 (by decide)).1 1).trans (((m6.2 23 (by decide)).1 1).trans F5.1)
      · exact ((m7.2 23 (by decide)).1 2).trans (((m6.2 23 (by decide)).1 2).trans F5.2)
      · exact ((m7.2 (41 + 9 * i) (by simp; omega)).1 2).trans (e6 i hi)
      · exact (k1.1 1).trans F0.2.2
end
