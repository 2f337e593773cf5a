/-! THE DECK: the class's rows beside the reference's one row of 61 -/
section
variable {d : Nat} {σ : fg_St} {Q : Int32 → fg_St → Prop} {h : Nat} {z : fg_Z}
theorem fg_dv {n m : Nat} (hn : n < 2 ^ 31) (h0 : 0 < m) (hm : m < 2 ^ 31) : nI n / nI m = nI (n / m) := pk_div hn h0 hm
theorem r_MO_lookOf {k a b hz wd : Nat} (hk : k ≤ 3) (ha : a ≤ 4) (hb : b ≤ 4) (hh : hz ≤ 2) (hw : wd ≤ 1) (H : Q (nI (fg_lk k a b hz wd)) σ) : fg_Run (d + 1) 137 0 [some (.int (nI (100 * k + 10 * a + b))), some (.int (nI hz)), some (.int (nI wd)), none, none, none, none] [] σ Q := by
  have ek : nI (100 * k + 10 * a + b) / 100 = nI k := by
    rw [show (100 : Int32) = nI 100 from rfl, pk_div (by omega) (by decide) (by decide)]
    congr 1
    omega
  have e10 : nI (100 * k + 10 * a + b) / 10 = nI (10 * k + a) := by
    rw [show (10 : Int32) = nI 10 from rfl, pk_div (by omega) (by decide) (by decide)]
    congr 1
    omega
  have ea : nI (10 * k + a) - nI (10 * k + a) / 10 * 10 = nI a := by
    rw [show (10 : Int32) = nI 10 from rfl, pk_rem (by omega) (by decide) (by decide)]
    congr 1
    omega
  have eb : nI (100 * k + 10 * a + b) - nI (10 * k + a) * 10 = nI b := by
    rw [← e10, show (10 : Int32) = nI 10 from rfl, pk_rem (by omega) (by decide) (by decide)]
    congr 1
    omega
  have k0 : nI k = 0 ↔ k = 0 := nI_eq (b := 0) (by omega) (by decide)
  have k1 : nI k = 1 ↔ k = 1 := nI_eq (b := 1) (by omega) (by decide)
  have k1l : nI k ≤ 1 ↔ k ≤ 1 := nI_leI (b := 1) (by omega) (by decide)
  have h2 : nI hz = 2 ↔ hz = 2 := nI_eq (b := 2) (by omega) (by decide)
  have w0 : nI wd = 0 ↔ wd = 0 := nI_eq (b := 0) (by omega) (by decide)
  unfold fg_lk at H
  have pl : ∀ P : fg_pln k hz wd = true, fg_Run d 136 0 [some (.int (nI a)), some (.int (nI hz))] [] σ (fun x1 u2 => ∃ P, fg_Run d 136 0 [some (.int (nI a)), some (.int (nI hz))] [] u2 P ∧ ∀ x3 u4, P x3 u4 → Q (((25 * 0) + (5 * x1)) + x3) u4) := by
    intro P
    rw [if_pos P] at H
    refine r_MO_seenColour ha hh (fg_use (r_MO_seenColour ha hh ?_))
    rw [fg_lk0]
    exact H
  have np : ∀ P : fg_pln k hz wd = false, fg_Run d 136 0 [some (.int (nI a)), some (.int (nI hz))] [] σ (fun x1 u2 => ∃ P, fg_Run d 136 0 [some (.int (nI b)), some (.int (nI hz))] [] u2 P ∧ ∀ x3 u4, P x3 u4 → Q (((25 * nI k) + (5 * x1)) + x3) u4) := by
    intro P
    rw [if_neg (by rw [P]; decide)] at H
    refine r_MO_seenColour ha hh (fg_use (r_MO_seenColour hb hh ?_))
    rw [fg_lk1]
    exact H
  refine b_MO_lookOf_0 ?_
  rw [ek, e10, ea, eb, k0, k1, k1l, h2, w0]
  refine ⟨fun q => fg_use (pl ?_), fun q => ⟨fun q1 => ⟨fun q2 => absurd q2 (by omega), fun q2 => ⟨fun q3 => fg_use (np ?_), fun q3 => fg_use (pl ?_)⟩⟩, fun q1 => ⟨fun q2 => fg_use (pl ?_), fun q2 => ⟨fun q3 => fg_use (np ?_), fun q3 => absurd (by omega) q3⟩⟩⟩⟩
  · simp [fg_pln, q]
  · simp [fg_pln, q, q1, q3]
  · simp [fg_pln, q3]; omega
  · simp [fg_pln, q1, q2]
  · simp [fg_pln, q1, q2]
end
/-- the class's deck (fields f, rows r) holds what the row w of the reference does -/
def fg_Dk (z : fg_Z) (f : Nat → Int32) (r : Nat → Nat → Int32) (w : Nat → Int32) : Prop :=
  (∀ g, g < fg_zf z → ∃ k a b : Nat, (k ≤ 3 ∧ a ≤ 4 ∧ b ≤ 4) ∧ r 0 g = nI k ∧ r 1 g = nI a ∧ r 2 g = nI b ∧ w g = nI (100 * k + 10 * a + b)) ∧
  (∀ g, g < fg_zf z → r 3 g = w (10 + g) ∧ r 4 g = w (20 + g)) ∧
  f 7 = nI (fg_set (fun g => decide (w (30 + g) = 1)) (fg_zf z)) ∧
  f 8 = nI (fg_set (fun k => decide (1 ≤ k ∧ ¬ w (39 + k) = -1)) 4) ∧
  (f 9 = w 60 ∧ f 10 = w 58 ∧ f 11 = w 59) ∧
  (∀ h, h < 3 → r 5 h = w (43 + h)) ∧ ∀ q, q < 12 → r 6 q = w (46 + q)
/-- what holds of that row -/
def fg_Wk (z : fg_Z) (w : Nat → Int32) : Prop :=
  (∀ g, g < fg_zf z → (w (30 + g) = 0 ∨ w (30 + g) = 1)) ∧
  (∀ g, g < fg_zf z → ∃ n : Nat, w (10 + g) = nI n ∧ n ≤ 5 ∧ (w (30 + g) = 0 → n ≤ 4)) ∧
  ((∃ n : Nat, n ≤ 9060 ∧ w 60 = nI n) ∧ (∃ n : Nat, n ≤ 2 ∧ w 58 = nI n) ∧ ∃ n : Nat, n ≤ 1 ∧ w 59 = nI n) ∧
  (∀ g, g < fg_zf z → (w (20 + g) = -1 ∨ ∃ h : Nat, h < fg_zH z ∧ w (20 + g) = nI h)) ∧
  (∀ k, 1 ≤ k → k ≤ 3 → (w (39 + k) = -1 ∨ ∃ h : Nat, h < fg_zH z ∧ w (39 + k) = nI h)) ∧
  (∀ h, h < 3 → ((w (43 + h) = -1 ∧ ∀ j, j < 4 → w (46 + (4 * h + j)) = -1) ∨ (h < fg_zH z ∧ ∃ e : Nat, e < fg_zs z ∧ w (43 + h) = nI e))) ∧
  (∀ h j, h < 3 → j < 4 → (w (46 + (4 * h + j)) = -1 ∨ (∃ g : Nat, g < fg_zf z ∧ w (46 + (4 * h + j)) = nI g) ∨ ∃ k : Nat, 1 ≤ k ∧ k ≤ 3 ∧ w (46 + (4 * h + j)) = nI (20 + k))) ∧
  (∀ g h, g < fg_zf z → h < 3 → (w (20 + g) = nI h ↔ ∃ j, j < 4 ∧ w (46 + (4 * h + j)) = nI g)) ∧
  ∀ k h, 1 ≤ k → k ≤ 3 → h < 3 → (w (39 + k) = nI h ↔ ∃ j, j < 4 ∧ w (46 + (4 * h + j)) = nI (20 + k))
/-- the deck at a handle -/
def fg_DkX (σ : fg_St) (h : Nat) (z : fg_Z) (w : Nat → Int32) : Prop := fg_Dk z (fun k => fg_F σ h k) (fun k j => fg_R σ (h + 1 + k) j) w
def fg_fre (w : Nat → Int32) (g : Nat) : Bool := decide (w (20 + g) = -1 ∧ w (30 + g) = 0)
def fg_frs (w : Nat → Int32) (k : Nat) : Bool := decide (1 ≤ k ∧ w (39 + k) = -1)
section
variable {d : Nat} {σ : fg_St} {Q : Int32 → fg_St → Prop} {h : Nat} {z : fg_Z} {w : Nat → Int32}
theorem l_MO_freeFlags (hz : fg_Zok z) (hM : fg_ShM σ z) (H : Q (nI (fg_set (fg_fre (fg_R σ 191)) (fg_zf z))) σ) : ∀ m i, i + m = fg_zf z → fg_Run d 128 4 [some (.ref 187), some (.int (nI (fg_set (fg_fre (fg_R σ 191)) i))), some (.int (nI i))] [] σ Q := by
  have hn := hz.1.2.2.1
  have hF := hM.1.2.2.1
  intro m
  induction m with
  | zero =>
    intro i hi
    have hi : i = fg_zf z := by omega
    subst hi
    refine b_MO_freeFlags_4 ⟨fun _ => H, fun q => absurd ?_ q⟩
    rw [hF]
    exact nI_le (Nat.le_refl _) (by omega)
  | succ m ih =>
    intro i hi
    have hx := fg_ix (c := 20) (i := i) (n := 61) (by omega) (by decide)
    have hy := fg_ix (c := 30) (i := i) (n := 61) (by omega) (by decide)
    refine b_MO_freeFlags_4 ⟨fun q => absurd q (by rw [hF]; exact nI_ge (by omega) (by omega)), fun _ => ⟨hx.1, ?_⟩⟩
    rw [show (20 : Int32) = nI 20 from rfl, show (30 : Int32) = nI 30 from rfl, hx.2, hy.2, nI_1]
    have hs := fg_set_step (p := fg_fre (fg_R σ 191)) (n := i) (by omega)
    have ih := ih (i + 1) (by omega)
    rw [← hs] at ih
    refine ⟨fun q => ?_, fun q => ⟨hy.1, fun q2 => ?_, fun q2 => ?_⟩⟩
    · rw [if_neg (by simp [fg_fre, q])] at ih
      exact ih
    · rw [if_neg (by simp [fg_fre, q2])] at ih
      exact ih
    · rw [if_pos (by simp [fg_fre, q, q2])] at ih
      exact ih
theorem r_MO_freeFlags (hz : fg_Zok z) (hM : fg_ShM σ z) (H : Q (nI (fg_set (fg_fre (fg_R σ 191)) (fg_zf z))) σ) : fg_Run d 128 0 [some (.ref 187), none, none] [] σ Q := b_MO_freeFlags_0 (l_MO_freeFlags hz hM H (fg_zf z) 0 (by omega))
theorem l_MO_freeSubs (hz : fg_Zok z) (hM : fg_ShM σ z) (H : Q (nI (fg_set (fg_frs (fg_R σ 191)) (fg_zN z + 1))) σ) : ∀ m i, 1 ≤ i → i + m = fg_zN z + 1 → fg_Run d 130 4 [some (.ref 187), some (.int (nI (fg_set (fg_frs (fg_R σ 191)) i))), some (.int (nI i))] [] σ Q := by
  have hn := hz.1.2.1
  have hF := hM.1.2.1
  intro m
  induction m with
  | zero =>
    intro i h1 hi
    have hi : i = fg_zN z + 1 := by omega
    subst hi
    refine b_MO_freeSubs_4 ⟨fun _ => H, fun q => absurd ?_ q⟩
    rw [hF]
    exact nI_lt (by omega) (by omega)
  | succ m ih =>
    intro i h1 hi
    have e : (40 : Int32) + nI i - 1 = nI (39 + i) := by
      rw [show (40 : Int32) = nI 40 from rfl, show (1 : Int32) = nI 1 from rfl, nI_add, pk_sub (by omega)]
      congr 1
      omega
    refine b_MO_freeSubs_4 ⟨fun q => absurd q (by rw [hF]; exact nI_nlt (by omega) (by omega)), fun _ => ?_⟩
    rw [e, nI_clamp (by omega), nI_1]
    have hs := fg_set_step (p := fg_frs (fg_R σ 191)) (n := i) (by omega)
    have ih := ih (i + 1) (by omega) (by omega)
    rw [← hs] at ih
    refine ⟨vp_in_nI (by omega) (by decide), fun q => ?_, fun q => ?_⟩
    · rw [if_neg (by simp [fg_frs, q])] at ih
      exact ih
    · rw [if_pos (by simp [fg_frs, q, h1])] at ih
      exact ih
theorem r_MO_freeSubs (hz : fg_Zok z) (hM : fg_ShM σ z) (H : Q (nI (fg_set (fg_frs (fg_R σ 191)) (fg_zN z + 1))) σ) : fg_Run d 130 0 [some (.ref 187), none, none] [] σ Q := by
  refine b_MO_freeSubs_0 ?_
  have := l_MO_freeSubs (d := d) hz hM H (fg_zN z) 1 (by omega) (by omega)
  rw [show fg_set (fg_frs (fg_R σ 191)) 1 = 0 by simp [fg_set, fg_frs]] at this
  exact this
def fg_als (k : Nat) : Bool := decide (1 ≤ k)
theorem l_MO_allSubs (hz : fg_Zok z) (hM : fg_ShM σ z) (H : Q (nI (fg_set fg_als (fg_zN z + 1))) σ) : ∀ m i, 1 ≤ i → i + m = fg_zN z + 1 → fg_Run d 131 4 [some (.ref 187), some (.int (nI (fg_set fg_als i))), some (.int (nI i))] [] σ Q := by
  have hn := hz.1.2.1
  have hF := hM.1.2.1
  intro m
  induction m with
  | zero =>
    intro i h1 hi
    have hi : i = fg_zN z + 1 := by omega
    subst hi
    refine b_MO_allSubs_4 ⟨fun _ => H, fun q => absurd ?_ q⟩
    rw [hF]
    exact nI_lt (by omega) (by omega)
  | succ m ih =>
    intro i h1 hi
    refine b_MO_allSubs_4 ⟨fun q => absurd q (by rw [hF]; exact nI_nlt (by omega) (by omega)), fun _ => ?_⟩
    rw [nI_1]
    have hs := fg_set_step (p := fg_als) (n := i) (by omega)
    have ih := ih (i + 1) (by omega) (by omega)
    rw [← hs, if_pos (by simp [fg_als, h1])] at ih
    exact ih
theorem r_MO_allSubs (hz : fg_Zok z) (hM : fg_ShM σ z) (H : Q (nI (fg_set fg_als (fg_zN z + 1))) σ) : fg_Run d 131 0 [some (.ref 187), none, none] [] σ Q :=
  b_MO_allSubs_0 (l_MO_allSubs hz hM H (fg_zN z) 1 (by omega) (by omega))
theorem fg_als_all : ∀ n, n < 4 → fg_set fg_als (n + 1) = 2 ^ (n + 1) - 2 := by decide
/-- one taken out of a set -/
theorem fg_set_out (p : Nat → Bool) (n i : Nat) (hn : n ≤ 31) : fg_wo (fg_set p n) (2 ^ i) = fg_set (fun g => p g && !(g == i)) n := by
  apply Nat.eq_of_testBit_eq
  intro j
  have hl : fg_set p n < 2 ^ 32 := Nat.lt_of_lt_of_le (fg_set_lt p n) (Nat.pow_le_pow_right (by decide) (by omega))
  rw [fg_wo_bit hl, fg_set_bit, fg_set_bit, Nat.testBit_two_pow]
  by_cases e : i = j
  · subst e
    simp
  · have : (j == i) = false := by simpa using Ne.symm e
    simp [e, this]
theorem fg_wo_set (p q : Nat → Bool) (n m : Nat) (hn : n ≤ 31) (hm : n ≤ m) : fg_wo (fg_set p n) (fg_set q m) = fg_set (fun g => p g && !(q g)) n := by
  apply Nat.eq_of_testBit_eq
  intro j
  have hl : fg_set p n < 2 ^ 32 := Nat.lt_of_lt_of_le (fg_set_lt p n) (Nat.pow_le_pow_right (by decide) (by omega))
  rw [fg_wo_bit hl, fg_set_bit, fg_set_bit, fg_set_bit]
  by_cases e : j < n
  · simp [e, show j < m by omega]
  · simp [e]
end
