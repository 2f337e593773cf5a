/-! THE SHIP: how many lines, substitutes, flags, signals; how long a signal is, which flags it tells -/
abbrev fg_Z : Type := Nat × Nat × Nat × Nat × (Nat → Nat) × (Nat → Nat → Nat)
abbrev fg_zH (z : fg_Z) : Nat := z.1
abbrev fg_zN (z : fg_Z) : Nat := z.2.1
abbrev fg_zf (z : fg_Z) : Nat := z.2.2.1
abbrev fg_zs (z : fg_Z) : Nat := z.2.2.2.1
abbrev fg_zl (z : fg_Z) (e : Nat) : Nat := z.2.2.2.2.1 e
abbrev fg_zr (z : fg_Z) (e j : Nat) : Nat := z.2.2.2.2.2 e j
def fg_Zok (z : fg_Z) : Prop := (fg_zH z ≤ 3 ∧ fg_zN z ≤ 3 ∧ fg_zf z ≤ 10 ∧ fg_zs z ≤ 10) ∧ (∀ e, e < fg_zs z → 1 ≤ fg_zl z e ∧ fg_zl z e ≤ 4) ∧ (∀ e, e < fg_zs z → ∀ j, j < fg_zl z e → fg_zr z e j < fg_zf z) ∧ (fg_zH z = 0 → fg_zf z = 0 ∧ fg_zs z = 0 ∧ fg_zN z = 0)
/-- the class's ship at a handle -/
def fg_ShX (σ : fg_St) (h : Nat) (z : fg_Z) : Prop := (fg_F σ h 0 = nI (fg_zH z) ∧ fg_F σ h 1 = nI (fg_zN z) ∧ fg_F σ h 2 = nI (fg_zf z) ∧ fg_F σ h 3 = nI (fg_zs z)) ∧ (∀ e, e < fg_zs z → fg_R σ (h + 4) e = nI (fg_zl z e)) ∧ ∀ e, e < fg_zs z → ∀ j, j < 4 → fg_R σ (h + 5) (e * 4 + j) = if j < fg_zl z e then nI (fg_zr z e j) else -1
/-- the reference's -/
def fg_ShM (σ : fg_St) (z : fg_Z) : Prop := (fg_F σ 187 0 = nI (fg_zH z) ∧ fg_F σ 187 1 = nI (fg_zN z) ∧ fg_F σ 187 2 = nI (fg_zf z) ∧ fg_F σ 187 4 = nI (fg_zs z)) ∧ (∀ e, e < fg_zs z → fg_R σ 189 e = nI (fg_zl z e)) ∧ ∀ e, e < fg_zs z → ∀ j, j < fg_zl z e → fg_R σ 190 (4 * e + j) = nI (fg_zr z e j)
section
variable {d : Nat} {σ : fg_St} {Q : Int32 → fg_St → Prop} {h : Nat} {z : fg_Z}
/-- 'has' of the class -/
theorem fg_hasx {a : Int32} {n m : Nat} {A B : Prop} (hn : n ≤ m) (hm : m < 2 ^ 31) (t : fg_isn a n = true → A) (f : fg_isn a n = false → B) : (a < 0 → B) ∧ (¬ a < 0 → (nI n ≤ a → B) ∧ (¬ nI n ≤ a → (nI m ≤ a → B) ∧ (¬ nI m ≤ a → A))) := by
  have e : ∀ k, k ≤ m → (nI k).toInt = (k : Int) := fun k hk => nI_toInt (by omega)
  have z0 : (0 : Int32).toInt = 0 := rfl
  refine ⟨fun h => f (decide_eq_false ?_), fun h => ⟨fun h2 => f (decide_eq_false ?_), fun h2 => ⟨fun h3 => f (decide_eq_false ?_), fun h3 => t (decide_eq_true ?_)⟩⟩⟩
  · rw [fg_lt, z0] at h
    omega
  · rw [fg_le', e n hn] at h2
    omega
  · rw [fg_le', e m (Nat.le_refl m)] at h3
    omega
  · rw [fg_lt, z0] at h
    rw [fg_le', e n hn] at h2
    omega
theorem r_SH_hasLine {a : Int32} (Sh : h = 3 ∨ h = 9) (hz : fg_Zok z) (hX : fg_ShX σ h z) (H : Q (fg_b (fg_isn a (fg_zH z))) σ) : fg_Run d 31 0 [some (.ref h), some (.int a)] [] σ Q := by
  refine b_SH_hasLine_0 Sh ?_
  rw [hX.1.1]
  exact fg_hasx (m := 3) hz.1.1 (by decide) (fun e => by rw [e] at H; exact H) (fun e => by rw [e] at H; exact H)
theorem r_SH_hasFlag {a : Int32} (Sh : h = 3 ∨ h = 9) (hz : fg_Zok z) (hX : fg_ShX σ h z) (H : Q (fg_b (fg_isn a (fg_zf z))) σ) : fg_Run d 32 0 [some (.ref h), some (.int a)] [] σ Q := by
  refine b_SH_hasFlag_0 Sh ?_
  rw [hX.1.2.2.1]
  exact fg_hasx (m := 10) hz.1.2.2.1 (by decide) (fun e => by rw [e] at H; exact H) (fun e => by rw [e] at H; exact H)
theorem r_SH_hasSignal {a : Int32} (Sh : h = 3 ∨ h = 9) (hz : fg_Zok z) (hX : fg_ShX σ h z) (H : Q (fg_b (fg_isn a (fg_zs z))) σ) : fg_Run d 33 0 [some (.ref h), some (.int a)] [] σ Q := by
  refine b_SH_hasSignal_0 Sh ?_
  rw [hX.1.2.2.2]
  exact fg_hasx (m := 10) hz.1.2.2.2 (by decide) (fun e => by rw [e] at H; exact H) (fun e => by rw [e] at H; exact H)
theorem r_SH_stands (Sh : h = 3 ∨ h = 9) (hz : fg_Zok z) (hX : fg_ShX σ h z) (H : Q (fg_b (decide (0 < fg_zH z))) σ) : fg_Run d 30 0 [some (.ref h)] [] σ Q := by
  refine b_SH_stands_0 Sh ?_
  rw [hX.1.1]
  have e : (nI (fg_zH z)).toInt = (fg_zH z : Int) := nI_toInt (by have := hz.1.1; omega)
  have z0 : (0 : Int32).toInt = 0 := rfl
  refine ⟨fun q => ?_, fun q => ?_⟩
  · rw [fg_le', e, z0] at q
    rw [decide_eq_false (by omega)] at H
    exact H
  · rw [fg_le', e, z0] at q
    rw [decide_eq_true (by omega)] at H
    exact H
theorem r_SH_allSignals (Sh : h = 3 ∨ h = 9) (hz : fg_Zok z) (hX : fg_ShX σ h z) (H : Q (nI (2 ^ fg_zs z - 1)) σ) : fg_Run d 35 0 [some (.ref h)] [] σ Q := by
  refine b_SH_allSignals_0 Sh ?_
  rw [hX.1.2.2.2, fg_all1 (by have := hz.1.2.2.2; omega)]
  exact H
theorem r_SH_allFlags (Sh : h = 3 ∨ h = 9) (hz : fg_Zok z) (hX : fg_ShX σ h z) (H : Q (nI (2 ^ fg_zf z - 1)) σ) : fg_Run d 36 0 [some (.ref h)] [] σ Q := by
  refine b_SH_allFlags_0 Sh ?_
  rw [hX.1.2.2.1, fg_all1 (by have := hz.1.2.2.1; omega)]
  exact H
theorem r_SH_allSubstitutes (Sh : h = 3 ∨ h = 9) (hz : fg_Zok z) (hX : fg_ShX σ h z) (H : Q (nI (2 ^ (fg_zN z + 1) - 2)) σ) : fg_Run d 37 0 [some (.ref h)] [] σ Q := by
  refine b_SH_allSubstitutes_0 Sh ?_
  rw [hX.1.2.1, fg_all2 _ (by have := hz.1.2.1; omega)]
  exact H
theorem fg_lit4 (e j : Nat) : nI e * 4 + nI j = nI (e * 4 + j) := by
  rw [show (4 : Int32) = nI 4 from rfl, pk_mul, nI_add]
theorem fg_nlt0 {n : Nat} (h : n < 2 ^ 31) : ¬ nI n < 0 := nI_pos h
theorem r_SH_flagAt {e j : Nat} (Sh : h = 3 ∨ h = 9) (hz : fg_Zok z) (hX : fg_ShX σ h z) (he : e < fg_zs z) (hj : j < 4) (H : Q (if j < fg_zl z e then nI (fg_zr z e j) else -1) σ) : fg_Run d 42 0 [some (.ref h), some (.int (nI e)), some (.int (nI j)), none] [] σ Q := by
  have hs := hz.1.2.2.2
  refine b_SH_flagAt_0 Sh ⟨fun q => absurd q (nI_pos (by omega)), fun _ => ⟨fun q => absurd q (by rw [hX.1.2.2.2]; exact nI_ge he (by omega)), fun _ => ⟨fun q => absurd q (nI_ge (b := 10) (by omega) (by decide)), fun _ => ⟨fun q => absurd q (nI_pos (by omega)), fun _ => ⟨fun q => absurd q (nI_ge (b := 4) (by omega) (by decide)), fun _ => ?_⟩⟩⟩⟩⟩
  rw [fg_lit4]
  refine ⟨vp_in_nI (by omega) (by decide), ?_⟩
  rw [nI_clamp (by omega), hX.2.2 e he j hj]
  exact H
theorem r_MO_isLine {a : Int32} (hz : fg_Zok z) (hM : fg_ShM σ z) (H : Q (fg_b (fg_isn a (fg_zH z))) σ) : fg_Run (d + 1) 113 0 [some (.ref 187), some (.int a)] [] σ Q := by
  refine b_MO_isLine_0 (fg_use (r_MO_in ⟨?_, ?_⟩))
  · unfold fg_b
    split <;> simp
  · rw [hM.1.1, fg_in32 (by have := hz.1.1; omega)]
    exact H
theorem r_MO_isFlag {a : Int32} (hz : fg_Zok z) (hM : fg_ShM σ z) (H : Q (fg_b (fg_isn a (fg_zf z))) σ) : fg_Run (d + 1) 114 0 [some (.ref 187), some (.int a)] [] σ Q := by
  refine b_MO_isFlag_0 (fg_use (r_MO_in ⟨?_, ?_⟩))
  · unfold fg_b
    split <;> simp
  · rw [hM.1.2.2.1, fg_in32 (by have := hz.1.2.2.1; omega)]
    exact H
theorem r_MO_isSig {a : Int32} (hz : fg_Zok z) (hM : fg_ShM σ z) (H : Q (fg_b (fg_isn a (fg_zs z))) σ) : fg_Run (d + 1) 115 0 [some (.ref 187), some (.int a)] [] σ Q :=
  r_MO_isSignal (by have := hz.1.2.2.2; omega) hM.1.2.2.2 H
end
