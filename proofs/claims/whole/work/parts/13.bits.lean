/-! SETS AS NUMBERS -/
theorem fg_and (a b : Nat) : nI a &&& nI b = nI (a &&& b) := by
  apply Int32.toBitVec_inj.1
  show BitVec.ofNat 32 a &&& BitVec.ofNat 32 b = BitVec.ofNat 32 (a &&& b)
  apply BitVec.eq_of_getLsbD_eq
  intro i hi
  simp [hi]
theorem fg_or (a b : Nat) : nI a ||| nI b = nI (a ||| b) := by
  apply Int32.toBitVec_inj.1
  show BitVec.ofNat 32 a ||| BitVec.ofNat 32 b = BitVec.ofNat 32 (a ||| b)
  apply BitVec.eq_of_getLsbD_eq
  intro i hi
  simp [hi]
theorem fg_xor (a b : Nat) : nI a ^^^ nI b = nI (a ^^^ b) := by
  apply Int32.toBitVec_inj.1
  show BitVec.ofNat 32 a ^^^ BitVec.ofNat 32 b = BitVec.ofNat 32 (a ^^^ b)
  apply BitVec.eq_of_getLsbD_eq
  intro i hi
  simp [hi]
theorem fg_m1e : (-1 : Int32) = nI 4294967295 := by decide
theorem fg_sl : ∀ n, n < 32 → ((nI n &&& 31).toBitVec.smod 32).toNat = n := by decide +kernel
theorem fg_shl1 {k : Nat} (hk : k < 31) : (1 : Int32) <<< (nI k &&& 31) = nI (2 ^ k) := by
  have h := pk_shlN (n := 1) (nI k &&& 31) k (fg_sl k (by omega)) (by
    have : 2 ^ k < 2 ^ 32 := Nat.pow_lt_pow_right (by decide) (by omega)
    omega)
  rw [Nat.one_mul] at h
  exact h
theorem fg_bit1 {S k : Nat} (hS : S < 2 ^ 31) (hk : k < 31) : (nI S >>> (nI k &&& 31)) &&& 1 = fg_b (S.testBit k) := by
  rw [pk_shrN hS (nI k &&& 31) k (fg_sl k (by omega))]
  have h1 : (1 : Int32) = nI (2 ^ 1 - 1) := rfl
  rw [h1, fg_and, Nat.and_two_pow_sub_one_eq_mod]
  unfold fg_b
  rw [Nat.testBit_eq_decide_div_mod_eq]
  have := Nat.mod_two_eq_zero_or_one (S / 2 ^ k)
  rcases this with h | h
  · simp [h]
    rfl
  · simp [h]
    rfl
/-- without -/
def fg_wo (a b : Nat) : Nat := a &&& (b ^^^ 4294967295)
theorem fg_andn (a b : Nat) : nI a &&& (nI b ^^^ (-1)) = nI (fg_wo a b) := by
  rw [fg_m1e, fg_xor, fg_and]
  rfl
theorem fg_wo_bit {a b : Nat} (ha : a < 2 ^ 32) (i : Nat) : (fg_wo a b).testBit i = (a.testBit i && !(b.testBit i)) := by
  unfold fg_wo
  rw [Nat.testBit_and, Nat.testBit_xor]
  by_cases hi : i < 32
  · have : (4294967295 : Nat) = 2 ^ 32 - 1 := by decide
    rw [this, Nat.testBit_two_pow_sub_one]
    simp [hi]
  · have : a.testBit i = false := Nat.testBit_lt_two_pow (Nat.lt_of_lt_of_le ha (Nat.pow_le_pow_right (by decide) (by omega)))
    simp [this]
def fg_set (p : Nat → Bool) : Nat → Nat
  | 0 => 0
  | n + 1 => fg_set p n ||| (if p n then 2 ^ n else 0)
theorem fg_set_bit (p : Nat → Bool) : ∀ n i, (fg_set p n).testBit i = (decide (i < n) && p i) := by
  intro n
  induction n with
  | zero => intro i; simp [fg_set]
  | succ n ih =>
    intro i
    rw [fg_set, Nat.testBit_or, ih]
    by_cases h : i = n
    · subst h
      by_cases hp : p i
      · simp [hp]
      · simp [hp]
    · by_cases hp : p n
      · simp only [hp, if_true, Nat.testBit_two_pow]
        rw [decide_eq_false (by omega : ¬ n = i)]
        by_cases h2 : i < n
        · simp [h2, show i < n + 1 by omega]
        · simp [h2, show ¬ i < n + 1 by omega]
      · simp only [hp]
        by_cases h2 : i < n
        · simp [h2, show i < n + 1 by omega]
        · simp [h2, show ¬ i < n + 1 by omega]
theorem fg_set_lt (p : Nat → Bool) (n : Nat) : fg_set p n < 2 ^ n := by
  apply Nat.lt_pow_two_of_testBit
  intro i hi
  rw [fg_set_bit]
  simp
  omega
theorem fg_set_ext {p q : Nat → Bool} {n : Nat} (h : ∀ i, i < n → p i = q i) : fg_set p n = fg_set q n := by
  apply Nat.eq_of_testBit_eq
  intro i
  rw [fg_set_bit, fg_set_bit]
  by_cases hi : i < n
  · rw [h i hi]
  · simp [hi]
theorem fg_set_step {p : Nat → Bool} {n : Nat} (hn : n < 31) : nI (fg_set p n) ||| (if p n then (1 : Int32) <<< (nI n &&& 31) else 0) = nI (fg_set p (n + 1)) := by
  rw [fg_set]
  by_cases h : p n
  · rw [if_pos h, if_pos h, fg_shl1 hn, fg_or]
  · rw [if_neg h, if_neg h]
    exact fg_or _ 0
theorem fg_set_all (n : Nat) : fg_set (fun _ => true) n = 2 ^ n - 1 := by
  apply Nat.eq_of_testBit_eq
  intro i
  rw [fg_set_bit, Nat.testBit_two_pow_sub_one]
  simp
theorem fg_all1 {n : Nat} (h : n < 31) : ((1 : Int32) <<< (nI n &&& 31)) - 1 = nI (2 ^ n - 1) := by
  rw [fg_shl1 h]
  exact pk_sub Nat.one_le_two_pow
theorem fg_all2 : ∀ n, n < 4 → ((2 : Int32) <<< (nI n &&& 31)) - 2 = nI (2 ^ (n + 1) - 2) := by decide
/-- how many -/
def fg_cnt (S : Nat) : Nat → Nat
  | 0 => 0
  | n + 1 => fg_cnt S n + (if S.testBit n then 1 else 0)
theorem r_FS_has {d : Nat} {σ : fg_St} {Q : Int32 → fg_St → Prop} {S k : Nat} (hS : S < 2 ^ 31) (hk : k < 31) (H : Q (fg_b (S.testBit k)) σ) : fg_Run d 87 0 [some (.int (nI S)), some (.int (nI k))] [] σ Q := by
  refine b_FS_has_0 ?_
  rw [fg_bit1 hS hk]
  cases h : S.testBit k
  · rw [h] at H
    exact ⟨fun _ => H, fun q => absurd rfl q⟩
  · rw [h] at H
    exact ⟨fun q => absurd q (by decide), fun _ => H⟩
theorem r_MO_has {d : Nat} {σ : fg_St} {Q : Int32 → fg_St → Prop} {S k : Nat} (hS : S < 2 ^ 31) (hk : k < 31) (H : Q (fg_b (S.testBit k)) σ) : fg_Run d 111 0 [some (.int (nI S)), some (.int (nI k))] [] σ Q := by
  refine b_MO_has_0 ?_
  rw [fg_bit1 hS hk]
  cases h : S.testBit k
  · rw [h] at H
    exact ⟨fun _ => H, fun q => absurd q (by decide)⟩
  · rw [h] at H
    exact ⟨fun q => absurd rfl q, fun _ => H⟩
/-- the reference's loops over flags -/
theorem fg_ix {c i n : Nat} (h : c + i < n) (hn : n < 2 ^ 31) : vp_in (nI c + nI i) n ∧ (nI c + nI i).toNatClampNeg = c + i := by
  rw [nI_add]
  exact ⟨vp_in_nI h hn, nI_clamp (by omega)⟩
theorem l_MO_tornFlags {d : Nat} {σ : fg_St} {Q : Int32 → fg_St → Prop} {n : Nat} (hn : n ≤ 10) (hF : fg_F σ 187 2 = nI n) (H : Q (nI (fg_set (fun f => decide (fg_R σ 191 (30 + f) = 1)) n)) σ) : ∀ m i, i + m = n → fg_Run d 129 4 [some (.ref 187), some (.int (nI (fg_set (fun f => decide (fg_R σ 191 (30 + f) = 1)) i))), some (.int (nI i))] [] σ Q := by
  intro m
  induction m with
  | zero =>
    intro i hi
    have hi : i = n := by omega
    subst hi
    refine b_MO_tornFlags_4 ⟨fun _ => H, fun q => absurd ?_ q⟩
    rw [hF]
    exact nI_le (Nat.le_refl _) (by omega)
  | succ m ih =>
    intro i hi
    have hx := fg_ix (c := 30) (i := i) (n := 61) (by omega) (by decide)
    refine b_MO_tornFlags_4 ⟨fun q => absurd q (by rw [hF]; exact nI_ge (by omega) (by omega)), fun _ => ⟨hx.1, ?_⟩⟩
    rw [show (30 : Int32) = nI 30 from rfl, hx.2, nI_1]
    have hs := fg_set_step (p := fun f => decide (fg_R σ 191 (30 + f) = 1)) (n := i) (by omega)
    have ih := ih (i + 1) (by omega)
    rw [← hs] at ih
    refine ⟨fun q => ?_, fun q => ?_⟩
    · rw [if_neg (by simpa using q)] at ih
      exact ih
    · rw [if_pos (by simpa using q)] at ih
      exact ih
theorem r_MO_tornFlags {d : Nat} {σ : fg_St} {Q : Int32 → fg_St → Prop} {n : Nat} (hn : n ≤ 10) (hF : fg_F σ 187 2 = nI n) (H : Q (nI (fg_set (fun f => decide (fg_R σ 191 (30 + f) = 1)) n)) σ) : fg_Run d 129 0 [some (.ref 187), none, none] [] σ Q :=
  b_MO_tornFlags_0 (l_MO_tornFlags hn hF H n 0 (by omega))
