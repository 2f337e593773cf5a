/-! SETS PARTED INTO GROUPS: what the fewest turns are -/
def fg_sub (M R : Nat) : Prop := ∀ i, M.testBit i = true → R.testBit i = true
theorem fg_sub_wo {a b : Nat} (ha : a < 2 ^ 32) : fg_wo a b = 0 ↔ fg_sub a b := by
  constructor
  · intro h i hi
    have h2 := fg_wo_bit ha (b := b) i
    rw [h, Nat.zero_testBit, hi] at h2
    simpa using h2.symm
  · intro h
    apply Nat.eq_of_testBit_eq
    intro i
    rw [fg_wo_bit ha, Nat.zero_testBit]
    cases h1 : a.testBit i
    · rfl
    · rw [h i h1]; rfl
theorem fg_sub_and {M R : Nat} (h : fg_sub M R) : M &&& R = M := by
  apply Nat.eq_of_testBit_eq
  intro i
  rw [Nat.testBit_and]
  cases h1 : M.testBit i
  · rfl
  · rw [h i h1]; rfl
theorem fg_sub_le {M R : Nat} (h : fg_sub M R) : M ≤ R := by
  rw [← fg_sub_and h]
  exact Nat.and_le_right
theorem fg_and_sub (a b : Nat) : fg_sub (a &&& b) b := by
  intro i hi
  rw [Nat.testBit_and, Bool.and_eq_true] at hi
  exact hi.2
theorem fg_wo_sub {a b : Nat} (ha : a < 2 ^ 32) : fg_sub (fg_wo a b) a := by
  intro i hi
  rw [fg_wo_bit ha, Bool.and_eq_true] at hi
  exact hi.1
theorem fg_sub.tr {a b c : Nat} (h : fg_sub a b) (k : fg_sub b c) : fg_sub a c := fun i hi => k i (h i hi)
theorem fg_bit_half (a i : Nat) : (a / 2).testBit i = a.testBit (i + 1) := by rw [Nat.testBit_succ]
/-- the next lesser part -/
theorem fg_nxt : ∀ (C R M : Nat), fg_sub C R → fg_sub M R → M < C → M ≤ (C - 1) &&& R := by
  intro C
  induction C using Nat.strongRecOn with
  | ind C ih =>
    intro R M hC hM hlt
    have hand : ∀ a b : Nat, (a &&& b) = 2 * ((a / 2) &&& (b / 2)) + (a % 2) * (b % 2) := by
      intro a b
      have h1 : (a &&& b) / 2 = (a / 2) &&& (b / 2) := by
        apply Nat.eq_of_testBit_eq
        intro i
        rw [fg_bit_half, Nat.testBit_and, Nat.testBit_and, fg_bit_half, fg_bit_half]
      have h2 : (a &&& b) % 2 = (a % 2) * (b % 2) := by
        have t0 : ∀ n : Nat, n.testBit 0 = decide (n % 2 = 1) := fun n => Nat.testBit_zero n
        have h := Nat.testBit_and a b 0
        rw [t0, t0, t0] at h
        rcases Nat.mod_two_eq_zero_or_one a with e1 | e1 <;> rcases Nat.mod_two_eq_zero_or_one b with e2 | e2 <;> rcases Nat.mod_two_eq_zero_or_one (a &&& b) with e3 | e3 <;> simp [e1, e2, e3] at h ⊢
      omega
    have hc2 : fg_sub (C / 2) (R / 2) := fun i hi => by rw [fg_bit_half] at hi ⊢; exact hC _ hi
    have hm2 : fg_sub (M / 2) (R / 2) := fun i hi => by rw [fg_bit_half] at hi ⊢; exact hM _ hi
    have t0 : ∀ n : Nat, n.testBit 0 = decide (n % 2 = 1) := fun n => Nat.testBit_zero n
    have hc0 := hC 0
    have hm0 := hM 0
    rw [t0, t0, decide_eq_true_eq, decide_eq_true_eq] at hc0
    rw [t0, t0, decide_eq_true_eq, decide_eq_true_eq] at hm0
    rw [hand]
    rcases Nat.mod_two_eq_zero_or_one C with e | e
    · have h1 : (C - 1) / 2 = C / 2 - 1 := by omega
      have h2 : (C - 1) % 2 = 1 := by omega
      have := ih (C / 2) (by omega) (R / 2) (M / 2) hc2 hm2 (by omega)
      rw [h1, h2]
      omega
    · have h1 : (C - 1) / 2 = C / 2 := by omega
      have h2 : (C - 1) % 2 = 0 := by omega
      rw [h1, h2, fg_sub_and hc2]
      omega
/-- n turns, each of a group that flies -/
def fg_pt2 (F : Nat → Bool) : Nat → Nat → Prop
  | 0, P => P = 0
  | n + 1, P => ∃ G, G ≠ 0 ∧ fg_sub G P ∧ F G = true ∧ fg_pt2 F n (fg_wo P G)
/-- so few as can be -/
def fg_fw (F : Nat → Bool) (P n : Nat) : Prop := fg_pt2 F n P ∧ ∀ m, fg_pt2 F m P → n ≤ m
theorem fg_fw_uniq {F : Nat → Bool} {P n m : Nat} (a : fg_fw F P n) (b : fg_fw F P m) : n = m := Nat.le_antisymm (a.2 m b.1) (b.2 n a.1)
theorem fg_nz_bit {G : Nat} (h : G ≠ 0) : ∃ i, G.testBit i = true := by
  apply Classical.byContradiction
  intro hn
  apply h
  apply Nat.eq_of_testBit_eq
  intro i
  rw [Nat.zero_testBit]
  cases hb : G.testBit i
  · rfl
  · exact absurd ⟨i, hb⟩ hn
theorem fg_wo_lt {P G : Nat} (hP : P < 2 ^ 32) (hG : G ≠ 0) (hs : fg_sub G P) : fg_wo P G < P := by
  refine Nat.lt_of_le_of_ne (fg_wo_le _ _) (fun e => ?_)
  obtain ⟨i, hi⟩ := fg_nz_bit hG
  have h := fg_wo_bit hP (b := G) i
  rw [e, hi, hs i hi] at h
  cases h
theorem fg_pt2_le {F : Nat → Bool} : ∀ n P, P < 2 ^ 32 → fg_pt2 F n P → n ≤ P := by
  intro n
  induction n with
  | zero => intro P _ _; omega
  | succ n ih =>
    intro P hP ⟨G, h1, h2, h3, h4⟩
    have hl := fg_wo_lt hP h1 h2
    have := ih _ (by omega) h4
    omega
theorem fg_wo_comm {P A B : Nat} (hP : P < 2 ^ 32) : fg_wo (fg_wo P A) B = fg_wo (fg_wo P B) A := by
  rw [fg_wo_wo hP, fg_wo_wo hP, Nat.or_comm]
/-- turns may be put in any order -/
theorem fg_exch {F : Nat → Bool} {e : Nat} : ∀ n P, P < 2 ^ 32 → P.testBit e = true → fg_pt2 F n P → ∃ G m, n = m + 1 ∧ G.testBit e = true ∧ fg_sub G P ∧ F G = true ∧ fg_pt2 F m (fg_wo P G) := by
  intro n
  induction n with
  | zero =>
    intro P _ he h
    have h : P = 0 := h
    rw [h, Nat.zero_testBit] at he
    cases he
  | succ n ih =>
    intro P hP he ⟨G1, h1, h2, h3, h4⟩
    by_cases hg : G1.testBit e = true
    · exact ⟨G1, n, rfl, hg, h2, h3, h4⟩
    · have hw : fg_wo P G1 < 2 ^ 32 := Nat.lt_of_le_of_lt (fg_wo_le _ _) hP
      have hg : G1.testBit e = false := by simpa using hg
      obtain ⟨G, m, k0, k1, k2, k3, k4⟩ := ih (fg_wo P G1) hw (by rw [fg_wo_bit hP, he, hg]; rfl) h4
      subst k0
      refine ⟨G, m + 1, rfl, k1, k2.tr (fg_wo_sub hP), k3, G1, h1, fun i hi => ?_, h3, ?_⟩
      · rw [fg_wo_bit hP, h2 i hi]
        cases hb : G.testBit i
        · rfl
        · have := k2 i hb
          rw [fg_wo_bit hP, hi] at this
          simp at this
      · rw [fg_wo_comm hP]
        exact k4
theorem fg_pt2_mem {F : Nat → Bool} {e n P : Nat} (hP : P < 2 ^ 32) (he : P.testBit e = true) (h : fg_pt2 F n P) : ∃ G, fg_sub G P ∧ F G = true ∧ G.testBit e = true := by
  obtain ⟨G, m, _, k1, k2, k3, _⟩ := fg_exch n P hP he h
  exact ⟨G, k2, k3, k1⟩
/-! a signal that goes up goes up of more -/
theorem fg_alf_s {z : fg_Z} {e FS j : Nat} : ∀ m k, 1 ≤ k → fg_alf z e FS j m k ≠ 0 → (k ≤ fg_alf z e FS j m k ∧ fg_alf z e FS j m k < k + m ∧ FS.testBit (fg_alf z e FS j m k) = true ∧ fg_zr z e (fg_alf z e FS j m k - 1) = fg_zr z e j ∧ ∀ k', k ≤ k' → k' < fg_alf z e FS j m k → ¬ (FS.testBit k' = true ∧ fg_zr z e (k' - 1) = fg_zr z e j)) := by
  intro m
  induction m with
  | zero => intro k _ h; exact absurd rfl h
  | succ m ih =>
    intro k hk h
    unfold fg_alf at h ⊢
    split
    · rename_i hq
      simp only [Bool.and_eq_true, beq_iff_eq] at hq
      exact ⟨Nat.le_refl _, by omega, hq.1, hq.2, fun k' h1 h2 => by omega⟩
    · rename_i hq
      rw [if_neg hq] at h
      obtain ⟨a1, a2, a3, a4, a5⟩ := ih (k + 1) (by omega) h
      refine ⟨by omega, by omega, a3, a4, fun k' h1 h2 => ?_⟩
      by_cases e1 : k' = k
      · subst e1
        simp only [Bool.and_eq_true, beq_iff_eq] at hq
        exact hq
      · exact a5 k' (by omega) h2
theorem fg_alf_0 {z : fg_Z} {e FS j : Nat} : ∀ m k, 1 ≤ k → fg_alf z e FS j m k = 0 → ∀ k', k ≤ k' → k' < k + m → ¬ (FS.testBit k' = true ∧ fg_zr z e (k' - 1) = fg_zr z e j) := by
  intro m
  induction m with
  | zero => intro k _ _ k' h1 h2; omega
  | succ m ih =>
    intro k hk h k' h1 h2
    unfold fg_alf at h
    split at h
    · omega
    · rename_i hq
      by_cases e1 : k' = k
      · subst e1
        simp only [Bool.and_eq_true, beq_iff_eq] at hq
        exact hq
      · exact ih (k + 1) (by omega) h k' (by omega) (by omega)
/-- which flags and substitutes the first j places hold -/
def fg_iA (z : fg_Z) (e j g : Nat) : Prop := ∃ i, i < j ∧ fg_zr z e i = g
def fg_iB (z : fg_Z) (e j k : Nat) : Prop := 1 ≤ k ∧ ∃ i, k - 1 < i ∧ i < j ∧ fg_zr z e i = fg_zr z e (k - 1)
def fg_tI (z : fg_Z) (e : Nat) (s t : Nat × Nat) (j : Nat) : Prop := (∀ g, t.1.testBit g = true ↔ s.1.testBit g = true ∧ ¬ fg_iA z e j g) ∧ ∀ k, t.2.testBit k = true ↔ s.2.testBit k = true ∧ ¬ fg_iB z e j k
theorem fg_tk_step {z : fg_Z} {e : Nat} {s t : Nat × Nat} {j : Nat} (h1 : t.1 < 2 ^ 32) (h2 : t.2 < 2 ^ 32) (hz : fg_zr z e j < 20) (hj : j < 4) (hI : fg_tI z e s t j) {t' : Nat × Nat} (ht : (if fg_pce z e t.1 t.2 j = 99 then none else if fg_pce z e t.1 t.2 j < 20 then some (fg_wo t.1 (2 ^ fg_pce z e t.1 t.2 j), t.2) else some (t.1, fg_wo t.2 (2 ^ (fg_pce z e t.1 t.2 j - 20)))) = some t') : fg_tI z e s t' (j + 1) ∧ ((s.1.testBit (fg_zr z e j) = true ∧ ¬ fg_iA z e j (fg_zr z e j)) ∨ (fg_iA z e j (fg_zr z e j) ∧ ∃ k, 1 ≤ k ∧ k ≤ j ∧ fg_zr z e (k - 1) = fg_zr z e j ∧ ¬ fg_iB z e j k ∧ s.2.testBit k = true)) := by
  by_cases hf : t.1.testBit (fg_zr z e j) = true
  · have hp : fg_pce z e t.1 t.2 j = fg_zr z e j := by unfold fg_pce; rw [if_pos hf]
    rw [hp, if_neg (by omega), if_pos hz] at ht
    cases ht
    have hs := (hI.1 _).mp hf
    refine ⟨⟨fun g => ?_, fun k => ?_⟩, Or.inl hs⟩
    · show (fg_wo t.1 (2 ^ fg_zr z e j)).testBit g = true ↔ _
      rw [fg_wo_bit h1, Nat.testBit_two_pow, Bool.and_eq_true, hI.1 g, Bool.not_eq_true', decide_eq_false_iff_not]
      constructor
      · rintro ⟨⟨a, b⟩, c⟩
        refine ⟨a, fun ⟨i, hi, hq⟩ => ?_⟩
        by_cases e1 : i = j
        · subst e1; exact c hq
        · exact b ⟨i, by omega, hq⟩
      · rintro ⟨a, b⟩
        exact ⟨⟨a, fun ⟨i, hi, hq⟩ => b ⟨i, by omega, hq⟩⟩, fun hq => b ⟨j, by omega, hq⟩⟩
    · show t.2.testBit k = true ↔ _
      rw [hI.2 k]
      refine and_congr_right (fun _ => not_congr ⟨fun ⟨a, i, b, c, d⟩ => ⟨a, i, b, by omega, d⟩, fun ⟨a, i, b, c, d⟩ => ⟨a, i, b, ?_, d⟩⟩)
      by_cases e1 : i = j
      · subst e1
        exact absurd ⟨k - 1, b, d.symm⟩ hs.2
      · omega
  · have hp : fg_pce z e t.1 t.2 j = if fg_alf z e t.2 j j 1 = 0 then 99 else 20 + fg_alf z e t.2 j j 1 := by unfold fg_pce; rw [if_neg hf]
    by_cases h0 : fg_alf z e t.2 j j 1 = 0
    · rw [hp, if_pos h0, if_pos rfl] at ht
      cases ht
    · obtain ⟨a1, a2, a3, a4, a5⟩ := fg_alf_s j 1 (Nat.le_refl _) h0
      rw [hp, if_neg h0] at ht
      generalize fg_alf z e t.2 j j 1 = r at ht a1 a2 a3 a4 a5
      rw [if_neg (by omega), if_neg (by omega), show 20 + r - 20 = r by omega] at ht
      cases ht
      have hr := (hI.2 r).mp a3
      have hA : fg_iA z e j (fg_zr z e j) := ⟨r - 1, by omega, a4⟩
      refine ⟨⟨fun g => ?_, fun k => ?_⟩, Or.inr ⟨hA, r, a1, by omega, a4, hr.2, hr.1⟩⟩
      · show t.1.testBit g = true ↔ _
        rw [hI.1 g]
        refine and_congr_right (fun _ => not_congr ⟨fun ⟨i, a, b⟩ => ⟨i, by omega, b⟩, fun ⟨i, a, b⟩ => ?_⟩)
        by_cases e1 : i = j
        · subst e1; rw [← b]; exact hA
        · exact ⟨i, by omega, b⟩
      · show (fg_wo t.2 (2 ^ r)).testBit k = true ↔ _
        rw [fg_wo_bit h2, Nat.testBit_two_pow, Bool.and_eq_true, hI.2 k, Bool.not_eq_true', decide_eq_false_iff_not]
        constructor
        · rintro ⟨⟨a, b⟩, c⟩
          refine ⟨a, fun ⟨x1, i, x2, x3, x4⟩ => ?_⟩
          by_cases e1 : i = j
          · subst e1
            -- k - 1 is an earlier place of the same flag: it is the last one, or it is held
            rcases Nat.lt_trichotomy (k - 1) (r - 1) with q | q | q
            · exact b ⟨x1, r - 1, q, by omega, by rw [a4, x4]⟩
            · exact c (by omega)
            · exact hr.2 ⟨a1, k - 1, q, x2, by rw [a4, x4]⟩
          · exact b ⟨x1, i, x2, by omega, x4⟩
        · rintro ⟨a, b⟩
          refine ⟨⟨a, fun ⟨x1, i, x2, x3, x4⟩ => b ⟨x1, i, x2, by omega, x4⟩⟩, fun q => ?_⟩
          subst q
          exact b ⟨a1, j, by omega, by omega, a4.symm⟩
theorem fg_tk_mono {z : fg_Z} (hz : fg_Zok z) {e : Nat} (he : e < fg_zs z) {s s' : Nat × Nat} (b1 : s.1 < 2 ^ 32) (b2 : s.2 < 2 ^ 32) (b3 : s'.1 < 2 ^ 32) (b4 : s'.2 < 2 ^ 32) (h1 : fg_sub s.1 s'.1) (h2 : fg_sub s.2 s'.2) : ∀ j t, j ≤ fg_zl z e → fg_tk z e s j = some t → fg_tI z e s t j ∧ ∃ t', fg_tk z e s' j = some t' ∧ fg_tI z e s' t' j := by
  have hl := hz.2.1 e he
  have hf := hz.1.2.2.1
  intro j
  induction j with
  | zero =>
    intro t _ ht
    cases ht
    have no : ∀ g, ¬ fg_iA z e 0 g := fun g ⟨i, hi, _⟩ => by omega
    have no2 : ∀ k, ¬ fg_iB z e 0 k := fun k ⟨_, i, _, hi, _⟩ => by omega
    exact ⟨⟨fun g => ⟨fun q => ⟨q, no g⟩, fun q => q.1⟩, fun k => ⟨fun q => ⟨q, no2 k⟩, fun q => q.1⟩⟩, s', rfl, ⟨fun g => ⟨fun q => ⟨q, no g⟩, fun q => q.1⟩, fun k => ⟨fun q => ⟨q, no2 k⟩, fun q => q.1⟩⟩⟩
  | succ j ih =>
    intro t hj ht
    rw [fg_tk] at ht
    cases h0 : fg_tk z e s j with
    | none => rw [h0] at ht; cases ht
    | some t0 =>
      rw [h0] at ht
      obtain ⟨i1, t1, i2, i3⟩ := ih t0 (by omega) h0
      have hb := fg_tk_bd j t0 h0
      have hb' := fg_tk_bd j t1 i2
      have hr := hz.2.2.1 e he j (by omega)
      obtain ⟨k1, k2⟩ := fg_tk_step (by omega) (by omega) (by omega) (by omega) i1 ht
      refine ⟨k1, ?_⟩
      rw [fg_tk, i2]
      have go : fg_pce z e t1.1 t1.2 j ≠ 99 → ∃ t', (if fg_pce z e t1.1 t1.2 j = 99 then none else if fg_pce z e t1.1 t1.2 j < 20 then some (fg_wo t1.1 (2 ^ fg_pce z e t1.1 t1.2 j), t1.2) else some (t1.1, fg_wo t1.2 (2 ^ (fg_pce z e t1.1 t1.2 j - 20)))) = some t' ∧ fg_tI z e s' t' (j + 1) := by
        intro hp
        have : ∃ t', (if fg_pce z e t1.1 t1.2 j = 99 then none else if fg_pce z e t1.1 t1.2 j < 20 then some (fg_wo t1.1 (2 ^ fg_pce z e t1.1 t1.2 j), t1.2) else some (t1.1, fg_wo t1.2 (2 ^ (fg_pce z e t1.1 t1.2 j - 20)))) = some t' := by
          rw [if_neg hp]
          split
          · exact ⟨_, rfl⟩
          · exact ⟨_, rfl⟩
        obtain ⟨t', ht'⟩ := this
        exact ⟨t', ht', (fg_tk_step (by omega) (by omega) (by omega) (by omega) i3 ht').1⟩
      apply go
      unfold fg_pce
      rcases k2 with ⟨q1, q2⟩ | ⟨q1, k, q2, q3, q4, q5, q6⟩
      · rw [if_pos ((i3.1 _).mpr ⟨h1 _ q1, q2⟩)]
        omega
      · rw [if_neg (fun q => ((i3.1 _).mp q).2 q1)]
        rw [if_neg]
        · rcases fg_alf_lt z e t1.2 j j 1 with h | h <;> omega
        · intro q
          exact fg_alf_0 j 1 (Nat.le_refl _) q k q2 (by omega) ⟨(i3.2 k).mpr ⟨h2 _ q6, q5⟩, q4⟩
theorem fg_upb_mono {z : fg_Z} (hz : fg_Zok z) {e : Nat} (he : e < fg_zs z) {s s' : Nat × Nat} (b1 : s.1 < 2 ^ 32) (b2 : s.2 < 2 ^ 32) (b3 : s'.1 < 2 ^ 32) (b4 : s'.2 < 2 ^ 32) (h1 : fg_sub s.1 s'.1) (h2 : fg_sub s.2 s'.2) (h : fg_upb z s e = true) : fg_upb z s' e = true := by
  unfold fg_upb at h ⊢
  cases ht : fg_tk z e s (fg_zl z e) with
  | none => rw [ht] at h; cases h
  | some t =>
    obtain ⟨_, t', h3, _⟩ := fg_tk_mono hz he b1 b2 b3 b4 h1 h2 _ t (Nat.le_refl _) ht
    rw [h3]
    rfl
theorem fg_tk_sub {z : fg_Z} {e : Nat} {s : Nat × Nat} (b1 : s.1 < 2 ^ 32) (b2 : s.2 < 2 ^ 32) {j : Nat} {t : Nat × Nat} (hj : j ≤ fg_zl z e) (h : fg_tk z e s j = some t) : fg_sub t.1 s.1 ∧ fg_sub t.2 s.2 := by
  obtain ⟨h1, h2⟩ := fg_tk_wo b1 b2 j t hj h
  rw [h1, h2]
  exact ⟨fg_wo_sub b1, fg_wo_sub b2⟩
/-- each of a group that flies can go up by itself -/
theorem fg_fly_up {z : fg_Z} (hz : fg_Zok z) {S : Nat} {s : Nat × Nat} (b1 : s.1 < 2 ^ 32) (b2 : s.2 < 2 ^ 32) : ∀ i t, i ≤ fg_zs z → fg_fly z S s i = some t → (fg_sub t.1 s.1 ∧ fg_sub t.2 s.2) ∧ ∀ e, e < i → S.testBit e = true → fg_upb z s e = true := by
  intro i
  induction i with
  | zero =>
    intro t _ h
    cases h
    exact ⟨⟨fun _ q => q, fun _ q => q⟩, fun e he => absurd he (by omega)⟩
  | succ i ih =>
    intro t hi h
    cases h0 : fg_fly z S s i with
    | none => rw [fg_fly, h0] at h; cases h
    | some t0 =>
      obtain ⟨⟨k1, k2⟩, k3⟩ := ih t0 (by omega) h0
      have l1 := fg_sub_le k1
      have l2 := fg_sub_le k2
      rw [fg_fly, h0] at h
      simp only at h
      split at h
      · have hs := fg_tk_sub (by omega) (by omega) (Nat.le_refl _) h
        refine ⟨⟨hs.1.tr k1, hs.2.tr k2⟩, fun e he hb => ?_⟩
        by_cases e1 : e = i
        · subst e1
          exact fg_upb_mono hz (by omega) (by omega) (by omega) b1 b2 k1 k2 (by unfold fg_upb; rw [h]; rfl)
        · exact k3 e (by omega) hb
      · rename_i hb0
        cases h
        refine ⟨⟨k1, k2⟩, fun e he hb => ?_⟩
        by_cases e1 : e = i
        · subst e1; exact absurd hb hb0
        · exact k3 e (by omega) hb
theorem fg_flb_up {z : fg_Z} (hz : fg_Zok z) {T S e : Nat} (h : fg_flb z T S = true) (he : e < fg_zs z) (hb : S.testBit e = true) : fg_upb z (fg_s0 z T) e = true := by
  unfold fg_flb at h
  rw [Bool.and_eq_true] at h
  have hs := fg_s0_lt (T := T) hz
  cases ht : fg_fly z S (fg_s0 z T) (fg_zs z) with
  | none => rw [ht] at h; cases h.2
  | some t => exact (fg_fly_up hz (by omega) (by omega) _ t (Nat.le_refl _) ht).2 e he hb
theorem fg_cnt_one : ∀ e n, fg_cnt (2 ^ e) n ≤ 1 ∧ (n ≤ e → fg_cnt (2 ^ e) n = 0) := by
  intro e n
  induction n with
  | zero => exact ⟨by rw [fg_cnt]; omega, fun _ => rfl⟩
  | succ n ih =>
    rw [fg_cnt, Nat.testBit_two_pow]
    by_cases h : e = n
    · subst h
      rw [decide_eq_true rfl, if_pos rfl, ih.2 (Nat.le_refl _)]
      exact ⟨by omega, fun q => by omega⟩
    · rw [decide_eq_false h, if_neg (by decide)]
      exact ⟨ih.1, fun q => ih.2 (by omega)⟩
theorem fg_flb_one {z : fg_Z} (hz : fg_Zok z) {T e : Nat} (he : e < fg_zs z) (h : fg_upb z (fg_s0 z T) e = true) : fg_flb z T (2 ^ e) = true := by
  have hH : 1 ≤ fg_zH z := by
    rcases Nat.eq_zero_or_pos (fg_zH z) with q | q
    · have := (hz.2.2.2 q).2.1
      omega
    · exact q
  unfold fg_flb
  rw [decide_eq_true (Nat.le_trans (fg_cnt_one e 10).1 hH), Bool.true_and]
  have key : ∀ i, (i ≤ e → fg_fly z (2 ^ e) (fg_s0 z T) i = some (fg_s0 z T)) ∧ (e < i → fg_fly z (2 ^ e) (fg_s0 z T) i = fg_tk z e (fg_s0 z T) (fg_zl z e)) := by
    intro i
    induction i with
    | zero => exact ⟨fun _ => rfl, fun q => by omega⟩
    | succ i ih =>
      refine ⟨fun q => ?_, fun q => ?_⟩
      · rw [fg_fly, ih.1 (by omega), Nat.testBit_two_pow, decide_eq_false (by omega)]
        rfl
      · by_cases e1 : e = i
        · subst e1
          rw [fg_fly, ih.1 (Nat.le_refl _), Nat.testBit_two_pow, decide_eq_true rfl]
          rfl
        · rw [fg_fly, ih.2 (by omega), Nat.testBit_two_pow, decide_eq_false e1]
          split
          · rename_i q; rw [q]
          · rename_i t q
            rw [if_neg (by decide), q]
  rw [(key _).2 he]
  exact h
