/-! NUMBERS AND SMALL RULES -/
theorem fg_use {d i : Nat} {L : List (Option Value)} {σ : fg_St} {K : Int32 → fg_St → Prop} (h : fg_Run d i 0 L [] σ K) : ∃ P, fg_Run d i 0 L [] σ P ∧ ∀ x u, P x u → K x u := ⟨K, h, fun _ _ z => z⟩
theorem fg_lt {a b : Int32} : a < b ↔ a.toInt < b.toInt := Int32.lt_iff_toInt_lt
theorem fg_le' {a b : Int32} : a ≤ b ↔ a.toInt ≤ b.toInt := Int32.le_iff_toInt_le
theorem fg_eq {a b : Int32} : a = b ↔ a.toInt = b.toInt := Int32.toInt_inj.symm
theorem fg_lt6 {a b : Int64} : a < b ↔ a.toInt < b.toInt := Int64.lt_iff_toInt_lt
theorem fg_le6 {a b : Int64} : a ≤ b ↔ a.toInt ≤ b.toInt := Int64.le_iff_toInt_le
/-- is a number one of 0 .. n less 1 -/
def fg_isn (a : Int32) (n : Nat) : Bool := decide (0 ≤ a.toInt ∧ a.toInt < n)
def fg_b (p : Bool) : Int32 := if p then 1 else 0
theorem fg_b_1 : fg_b true = 1 := rfl
theorem fg_b_0 : fg_b false = 0 := rfl
theorem fg_isn_t {a : Int32} {n : Nat} (h : fg_isn a n = true) (hn : n < 2 ^ 31) : ∃ j, j < n ∧ a = nI j := by
  obtain ⟨h1, h2⟩ := of_decide_eq_true h
  refine ⟨a.toInt.toNat, by omega, ?_⟩
  rw [fg_eq, nI_toInt (by omega)]
  omega
theorem fg_isn_nI {j n : Nat} (h : j < n) (hn : n < 2 ^ 31) : fg_isn (nI j) n = true := by
  unfold fg_isn
  rw [nI_toInt (by omega)]
  simp
  exact h
theorem fg_cmp_lt (x y : Int64) : lg_cmp x y < 0 ↔ x < y := by
  rw [← Int32.not_le, lg_cmp_ge, Int64.not_le]
theorem fg_cmp_gt (x y : Int64) : 0 < lg_cmp x y ↔ y < x := by
  unfold lg_cmp
  split
  · rename_i h
    exact ⟨fun _ => h, fun _ => by decide⟩
  · rename_i h
    split
    · exact ⟨fun q => absurd q (by decide), fun q => absurd q h⟩
    · exact ⟨fun q => absurd q (by decide), fun q => absurd q h⟩
theorem r_MO_in {d : Nat} {σ : fg_St} {Q : Int32 → fg_St → Prop} {a0 a1 a2 : Int64} (H : Q (fg_b (decide (a1.toInt ≤ a0.toInt ∧ a0.toInt ≤ a2.toInt))) σ) : fg_Run d 110 0 [some (.long a0), none, some (.long a1), none, some (.long a2), none] [] σ Q := by
  refine b_MO_in_0 ⟨fun h => ?_, fun h => ⟨fun h2 => ?_, fun h2 => ?_⟩⟩
  · rw [fg_cmp_lt, fg_lt6] at h
    rw [decide_eq_false (by omega)] at H
    exact H
  · rw [fg_cmp_gt, fg_lt6] at h2
    rw [decide_eq_false (by omega)] at H
    exact H
  · rw [fg_cmp_lt, fg_lt6] at h
    rw [fg_cmp_gt, fg_lt6] at h2
    rw [decide_eq_true (by omega)] at H
    exact H
theorem fg_i64 (a : Int32) : a.toInt64.toInt = a.toInt := by simp
theorem fg_sub1 {n : Nat} (h : n < 2 ^ 31) : (nI n - 1).toInt = (n : Int) - 1 := by
  cases n with
  | zero => rfl
  | succ n =>
    rw [nI_pred, nI_toInt (by omega)]
    omega
theorem fg_in32 {a : Int32} {n : Nat} (h : n < 2 ^ 31) : decide ((0 : Int64).toInt ≤ a.toInt64.toInt ∧ a.toInt64.toInt ≤ ((nI n - 1).toInt64).toInt) = fg_isn a n := by
  unfold fg_isn
  rw [fg_i64, fg_i64, fg_sub1 h]
  congr 1
  apply propext
  have : (0 : Int64).toInt = 0 := rfl
  omega
theorem r_MO_isSignal {d : Nat} {σ : fg_St} {Q : Int32 → fg_St → Prop} {a0 : Int32} {n : Nat} (hn : n < 2 ^ 31) (hF : fg_F σ 187 4 = nI n) (H : Q (fg_b (fg_isn a0 n)) σ) : fg_Run (d + 1) 115 0 [some (.ref 187), some (.int a0)] [] σ Q := by
  refine b_MO_isSignal_0 (fg_use (r_MO_in ⟨?_, ?_⟩))
  · unfold fg_b
    split <;> simp
  · rw [hF, fg_in32 hn]
    exact H
