/-! SETS THAT ARE ASKED, COUNTS, COLOURS, LOOKS -/
theorem fg_of32 (x : Int32) : ∃ n, n < 2 ^ 32 ∧ x = nI n := by
  refine ⟨x.toBitVec.toNat, x.toBitVec.isLt, ?_⟩
  apply Int32.toBitVec_inj.1
  show x.toBitVec = BitVec.ofNat 32 x.toBitVec.toNat
  simp
theorem fg_nI0 {n : Nat} (h : n < 2 ^ 32) : nI n = 0 ↔ n = 0 := by
  constructor
  · intro e
    have := congrArg (fun a : Int32 => a.toBitVec.toNat) e
    simp only [pk_tn h] at this
    exact this
  · intro e
    subst e
    rfl
theorem fg_toIntB {n : Nat} (h : n < 2 ^ 32) : (nI n).toInt = if n < 2 ^ 31 then (n : Int) else (n : Int) - 2 ^ 32 := by
  show (BitVec.ofNat 32 n).toInt = _
  rw [BitVec.toInt_eq_toNat_cond, BitVec.toNat_ofNat, Nat.mod_eq_of_lt h]
  split <;> split <;> omega
theorem fg_wo_0 {A n : Nat} (hA : A < 2 ^ 32) : fg_wo A (2 ^ n - 1) = 0 ↔ A < 2 ^ n := by
  constructor
  · intro h
    apply Nat.lt_pow_two_of_testBit
    intro i hi
    have h2 := fg_wo_bit hA (b := 2 ^ n - 1) i
    rw [h, Nat.testBit_two_pow_sub_one, decide_eq_false (by omega)] at h2
    simpa using h2.symm
  · intro h
    apply Nat.eq_of_testBit_eq
    intro i
    rw [fg_wo_bit hA, Nat.testBit_two_pow_sub_one, Nat.zero_testBit]
    by_cases hi : i < n
    · simp [hi]
    · have : A.testBit i = false := Nat.testBit_lt_two_pow (Nat.lt_of_lt_of_le h (Nat.pow_le_pow_right (by decide) (by omega)))
      simp [this]
theorem fg_wo_le (a b : Nat) : fg_wo a b ≤ a := Nat.and_le_left
theorem fg_p10 {n : Nat} (h : n ≤ 10) : 2 ^ n ≤ 1024 := Nat.pow_le_pow_right (n := 2) (by decide) h
theorem fg_allin {a : Int32} {n : Nat} (hn : n ≤ 10) : a &&& (nI (2 ^ n - 1) ^^^ (-1)) = 0 ↔ fg_isn a (2 ^ n) = true := by
  obtain ⟨A, hA, rfl⟩ := fg_of32 a
  have hp := fg_p10 hn
  rw [fg_andn, fg_nI0 (Nat.lt_of_le_of_lt (fg_wo_le _ _) hA), fg_wo_0 hA]
  unfold fg_isn
  rw [decide_eq_true_eq, fg_toIntB hA]
  have : ((2 ^ n : Nat) : Int) ≤ 1024 := by omega
  split <;> omega
section
variable {d : Nat} {σ : fg_St} {Q : Int32 → fg_St → Prop} {h : Nat} {z : fg_Z}
theorem r_SH_hasAll {a : Int32} (Sh : h = 3 ∨ h = 9) (hz : fg_Zok z) (hX : fg_ShX σ h z) (H : Q (fg_b (fg_isn a (2 ^ fg_zs z))) σ) : fg_Run (d + 1) 34 0 [some (.ref h), some (.int a)] [] σ Q := by
  refine b_SH_hasAll_0 Sh (fg_use (r_SH_allSignals Sh hz hX ⟨fun q => ?_, fun q => ?_⟩))
  · rw [fg_allin hz.1.2.2.2] at q
    rw [Bool.not_eq_true] at q
    rw [q] at H
    exact H
  · rw [fg_allin hz.1.2.2.2] at q
    rw [q] at H
    exact H
theorem r_MO_areSignals {a : Int32} (hz : fg_Zok z) (hM : fg_ShM σ z) (H : Q (fg_b (fg_isn a (2 ^ fg_zs z))) σ) : fg_Run (d + 1) 151 0 [some (.ref 187), some (.int a)] [] σ Q := by
  have hp := fg_p10 hz.1.2.2.2
  refine b_MO_areSignals_0 (fg_use (r_MO_in ⟨?_, ?_⟩))
  · unfold fg_b
    split <;> simp
  · rw [hM.1.2.2.2, fg_shl1 (by have := hz.1.2.2.2; omega), fg_in32 (by omega)]
    exact H
theorem fg_addb (c : Nat) (t : Bool) : nI c + fg_b t = nI (c + if t then 1 else 0) := by
  cases t
  · exact nI_add c 0
  · exact nI_add c 1
theorem l_MO_bits {S : Nat} (hS : S < 2 ^ 31) (H : Q (nI (fg_cnt S 10)) σ) : ∀ m i, i + m = 10 → fg_Run d 112 4 [some (.int (nI S)), some (.int (nI (fg_cnt S i))), some (.int (nI i))] [] σ Q := by
  intro m
  induction m with
  | zero =>
    intro i hi
    have hi : i = 10 := by omega
    subst hi
    exact b_MO_bits_4 ⟨fun _ => H, fun q => absurd (nI_le (a := 10) (b := 10) (by decide) (by decide)) q⟩
  | succ m ih =>
    intro i hi
    refine b_MO_bits_4 ⟨fun q => absurd q (nI_ge (b := 10) (by omega) (by decide)), fun _ => ?_⟩
    rw [fg_bit1 hS (by omega), fg_addb, nI_1]
    exact ih (i + 1) (by omega)
theorem r_MO_bits {S : Nat} (hS : S < 2 ^ 31) (H : Q (nI (fg_cnt S 10)) σ) : fg_Run d 112 0 [some (.int (nI S)), none, none] [] σ Q := b_MO_bits_0 (l_MO_bits hS H 10 0 rfl)
def fg_us (a : Int32) (k : Int32) : Int32 := (a.toUInt32 >>> (k.toUInt32 &&& Int32.toUInt32 31)).toInt32
def fg_j1 (a : Int32) : Int32 := a - (fg_us a 1 &&& 1431655765)
def fg_j2 (a : Int32) : Int32 := (a &&& 858993459) + (fg_us a 2 &&& 858993459)
def fg_j3 (a : Int32) : Int32 := (a + fg_us a 4) &&& 252645135
def fg_j4 (a : Int32) : Int32 := a + fg_us a 8
def fg_j5 (a : Int32) : Int32 := a + fg_us a 16
theorem fg_jb : ∀ S, S < 1024 → (fg_j5 (fg_j4 (fg_j3 (fg_j2 (fg_j1 (nI S)))))) &&& 63 = nI (fg_cnt S 10) := by decide +kernel
theorem r_JI_bitCount {S : Nat} (hS : S < 1024) (H : Q (nI (fg_cnt S 10)) σ) : fg_Run d 195 0 [some (.int (nI S))] [] σ Q := by
  refine b_JI_bitCount_0 ?_
  show Q ((fg_j5 (fg_j4 (fg_j3 (fg_j2 (fg_j1 (nI S)))))) &&& 63) σ
  rw [fg_jb S hS]
  exact H
/-- a colour as it is seen -/
def fg_col (c hz : Nat) : Nat := if hz = 0 then c else if c = 1 then 0 else if c = 4 then 3 else c
theorem fg_colr {c hz : Nat} (hc : c ≤ 4) (hh : hz ≤ 2) {P : Int32 → Prop} (H : P (nI (fg_col c hz))) : (¬ nI hz = 0 → ((¬ nI c = 1 → ((¬ nI c = 4 → P (nI c)) ∧ (nI c = 4 → P 3))) ∧ (nI c = 1 → P 0))) ∧ (nI hz = 0 → P (nI c)) := by
  have z0 : nI hz = 0 ↔ hz = 0 := nI_eq (b := 0) (by omega) (by decide)
  have c1 : nI c = 1 ↔ c = 1 := nI_eq (b := 1) (by omega) (by decide)
  have c4 : nI c = 4 ↔ c = 4 := nI_eq (b := 4) (by omega) (by decide)
  rw [z0, c1, c4]
  unfold fg_col at H
  refine ⟨fun a => ⟨fun b => ⟨fun c => ?_, fun c => ?_⟩, fun b => ?_⟩, fun a => ?_⟩
  · rw [if_neg a, if_neg b, if_neg c] at H; exact H
  · rw [if_neg a, if_neg b, if_pos c] at H; exact H
  · rw [if_neg a, if_pos b] at H; exact H
  · rw [if_pos a] at H; exact H
theorem r_FS_seenColour {c hz : Nat} (hc : c ≤ 4) (hh : hz ≤ 2) (H : Q (nI (fg_col c hz)) σ) : fg_Run d 109 0 [some (.int (nI c)), some (.int (nI hz))] [] σ Q := b_FS_seenColour_0 (fg_colr (P := fun x => Q x σ) hc hh H)
theorem r_MO_seenColour {c hz : Nat} (hc : c ≤ 4) (hh : hz ≤ 2) (H : Q (nI (fg_col c hz)) σ) : fg_Run d 136 0 [some (.int (nI c)), some (.int (nI hz))] [] σ Q := b_MO_seenColour_0 (fg_colr (P := fun x => Q x σ) hc hh H)
def fg_pln (k hz wd : Nat) : Bool := k == 0 || (k == 1 && wd == 0) || (decide (2 ≤ k) && hz == 2)
/-- a flag's look -/
def fg_lk (k a b hz wd : Nat) : Nat := if fg_pln k hz wd then 5 * fg_col a hz + fg_col a hz else 25 * k + 5 * fg_col a hz + fg_col b hz
theorem fg_lk0 (x y : Nat) : (25 * 0 + 5 * nI x : Int32) + nI y = nI (5 * x + y) := by
  rw [show (25 * 0 : Int32) = nI 0 from rfl, show (5 : Int32) = nI 5 from rfl, pk_mul, nI_add, nI_add, Nat.zero_add]
theorem fg_lk1 (k x y : Nat) : (25 * nI k + 5 * nI x : Int32) + nI y = nI (25 * k + 5 * x + y) := by
  rw [show (25 : Int32) = nI 25 from rfl, show (5 : Int32) = nI 5 from rfl, pk_mul, pk_mul, nI_add, nI_add]
theorem r_FS_seenPattern {k a b hz wd : Nat} (hk : k ≤ 3) (ha : a ≤ 4) (hb : b ≤ 4) (hh : hz ≤ 2) (hw : wd ≤ 1) (H : Q (nI (fg_lk k a b hz wd)) σ) : fg_Run (d + 1) 108 0 [some (.int (nI k)), some (.int (nI a)), some (.int (nI b)), some (.int (nI hz)), some (.int (nI wd)), none, none, none] [] σ Q := by
  have k0 : nI k = 0 ↔ k = 0 := nI_eq (b := 0) (by omega) (by decide)
  have k1 : nI k = 1 ↔ k = 1 := nI_eq (b := 1) (by omega) (by decide)
  have h2 : nI hz = 2 ↔ hz = 2 := nI_eq (b := 2) (by omega) (by decide)
  have w0 : nI wd = 0 ↔ wd = 0 := nI_eq (b := 0) (by omega) (by decide)
  unfold fg_lk at H
  have pl : ∀ P : fg_pln k hz wd = true, fg_Run d 109 0 [some (.int (nI a)), some (.int (nI hz))] [] σ (fun x1 u2 => ∃ P, fg_Run d 109 0 [some (.int (nI a)), some (.int (nI hz))] [] u2 P ∧ ∀ x3 u4, P x3 u4 → Q (((25 * 0) + (5 * x1)) + x3) u4) := by
    intro P
    rw [if_pos P] at H
    refine r_FS_seenColour ha hh (fg_use (r_FS_seenColour ha hh ?_))
    rw [fg_lk0]
    exact H
  have np : ∀ P : fg_pln k hz wd = false, fg_Run d 109 0 [some (.int (nI a)), some (.int (nI hz))] [] σ (fun x1 u2 => ∃ P, fg_Run d 109 0 [some (.int (nI b)), some (.int (nI hz))] [] u2 P ∧ ∀ x3 u4, P x3 u4 → Q (((25 * nI k) + (5 * x1)) + x3) u4) := by
    intro P
    rw [if_neg (by rw [P]; decide)] at H
    refine r_FS_seenColour ha hh (fg_use (r_FS_seenColour hb hh ?_))
    rw [fg_lk1]
    exact H
  refine b_FS_seenPattern_0 ?_
  rw [k0, k1, h2, w0]
  refine ⟨fun q => fg_use (pl ?_), fun q => ⟨fun q1 => ⟨fun q2 => fg_use (np ?_), fun q2 => fg_use (pl ?_)⟩, fun q1 => ⟨fun q2 => fg_use (np ?_), fun q2 => fg_use (pl ?_)⟩⟩⟩
  · simp [fg_pln, q]
  · simp [fg_pln, q, q1, q2]
  · simp [fg_pln, q2]; omega
  · simp [fg_pln, q1, q2]
  · simp [fg_pln, q1, q2]
end
