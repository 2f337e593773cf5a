/-! THE CLASS'S CLEAR SET -/
section
variable {d : Nat} {Q : Int32 → fg_St → Prop} {h : Nat} {z : fg_Z} {s : Nat × Nat} {lf : Nat → Nat}
/-- who was found confused when pairs (o, e) with e < i, or e = i and o < j, were looked at -/
def fg_cf (z : fg_Z) (s : Nat × Nat) (lf : Nat → Nat) (i j C : Nat) : Prop := C < 1024 ∧ ∀ x, C.testBit x = true ↔ ∃ o e, o < e ∧ (e < i ∨ (e = i ∧ o < j)) ∧ fg_lke z s lf e o = true ∧ (x = o ∨ x = e)
theorem l_WA_clearOnes2 {σ : fg_St} {i : Nat} (Sh : h = 3 ∨ h = 9) (hz : fg_Zok z) (hlf : ∀ g, g < fg_zf z → lf g < 200) (hw : fg_Wt2 z s lf σ) (hi : i < fg_zs z) (H : ∀ C, fg_cf z s lf (i + 1) 0 C → fg_Run (d + 1) 59 4 [some (.ref 33), some (.ref h), some (.int (nI C)), some (.int (nI (i + 1))), none] [] σ Q) : ∀ m j C, j + m = i → fg_cf z s lf i j C → fg_Run (d + 1) 59 21 [some (.ref 33), some (.ref h), some (.int (nI C)), some (.int (nI i)), some (.int (nI j))] [] σ Q := by
  have hs := hz.1.2.2.2
  have hb : fg_set (fg_upb z s) (fg_zs z) < 1024 := Nat.lt_of_lt_of_le (fg_set_lt _ _) (fg_p10 hs)
  intro m
  induction m with
  | zero =>
    intro j C hj hC
    have hj : j = i := by omega
    subst hj
    refine b_WA_clearOnes_21 Sh ⟨fun _ => ?_, fun q => absurd (nI_le (Nat.le_refl _) (by omega)) q⟩
    rw [nI_1]
    refine H C ⟨hC.1, fun x => (hC.2 x).trans ⟨fun ⟨o, e, q1, q2, q3⟩ => ⟨o, e, q1, Or.inl (by omega), q3⟩, fun ⟨o, e, q1, q2, q3⟩ => ⟨o, e, q1, by omega, q3⟩⟩⟩
  | succ m ih =>
    intro j C hj hC
    refine b_WA_clearOnes_21 Sh ⟨fun q => absurd q (nI_ge (by omega) (by omega)), fun _ => ⟨vp_in_nI (by omega) (by decide), vp_in_nI (by omega) (by decide), ?_⟩⟩
    rw [nI_clamp (by omega), nI_clamp (by omega), nI_1, hw.1]
    have hbi : ∀ k, k < fg_zs z → (fg_set (fg_upb z s) (fg_zs z)).testBit k = fg_upb z s k := fun k hk => by rw [fg_set_bit, decide_eq_true hk]; rfl
    have no : fg_lke z s lf i j = false → fg_Run (d + 1) 59 21 [some (.ref 33), some (.ref h), some (.int (nI C)), some (.int (nI i)), some (.int (nI (j + 1)))] [] σ Q := by
      intro hn
      refine ih (j + 1) C (by omega) ⟨hC.1, fun x => (hC.2 x).trans ⟨fun ⟨o, e, q1, q2, q3⟩ => ⟨o, e, q1, by omega, q3⟩, fun ⟨o, e, q1, q2, q3⟩ => ⟨o, e, q1, ?_, q3⟩⟩⟩
      rcases q2 with q2 | q2
      · exact Or.inl q2
      · by_cases e1 : o = j
        · rw [q2.1, e1, hn] at q3
          exact absurd q3.1 (by decide)
        · exact Or.inr ⟨q2.1, by omega⟩
    have lkn : fg_upb z s i = false ∨ fg_upb z s j = false → fg_lke z s lf i j = false := by
      intro q
      unfold fg_lke
      rcases q with q | q <;> rw [q] <;> simp
    refine ⟨fun q => no ?_, fun q => fg_use (r_FS_has (by omega) (by omega) ?_)⟩
    · cases h1 : fg_upb z s i
      · exact lkn (Or.inl h1)
      · cases h2 : fg_upb z s j
        · exact lkn (Or.inr h2)
        · rw [hw.2 i hi h1, hw.2 j (by omega) h2, fg_nIeq (fg_sg_lt hz hlf (by omega)) (fg_sg_lt hz hlf hi)] at q
          unfold fg_lke
          rw [h1, h2]
          simpa using q
    · rw [hbi i hi]
      cases h1 : fg_upb z s i
      · exact ⟨fun _ => no (lkn (Or.inl h1)), fun q => absurd rfl q⟩
      · refine ⟨fun q => absurd q (by decide), fun _ => ?_⟩
        rw [hw.1]
        refine fg_use (r_FS_has (by omega) (by omega) ?_)
        rw [hbi j (by omega)]
        cases h2 : fg_upb z s j
        · exact ⟨fun _ => no (lkn (Or.inr h2)), fun q => absurd rfl q⟩
        · refine ⟨fun q => absurd q (by decide), fun _ => ?_⟩
          rw [hw.2 i hi h1, hw.2 j (by omega) h2, fg_nIeq (fg_sg_lt hz hlf (by omega)) (fg_sg_lt hz hlf hi)] at q
          have hy : fg_lke z s lf i j = true := by
            unfold fg_lke
            rw [h1, h2]
            simpa using q
          rw [fg_shl1 (by omega), fg_shl1 (by omega), fg_or, fg_or]
          have p1 : 2 ^ i < 2 ^ 10 := Nat.pow_lt_pow_right (by decide) (by omega)
          have p2 : 2 ^ j < 2 ^ 10 := Nat.pow_lt_pow_right (by decide) (by omega)
          refine ih (j + 1) _ (by omega) ⟨Nat.or_lt_two_pow (n := 10) hC.1 (Nat.or_lt_two_pow p1 p2), fun x => ?_⟩
          rw [Nat.testBit_or, Nat.testBit_or, Nat.testBit_two_pow, Nat.testBit_two_pow]
          simp only [Bool.or_eq_true, decide_eq_true_eq]
          rw [hC.2 x]
          constructor
          · rintro (⟨o, e, q1, q2, q3⟩ | q | q)
            · exact ⟨o, e, q1, by omega, q3⟩
            · exact ⟨j, i, by omega, Or.inr ⟨rfl, by omega⟩, hy, Or.inr q.symm⟩
            · exact ⟨j, i, by omega, Or.inr ⟨rfl, by omega⟩, hy, Or.inl q.symm⟩
          · rintro ⟨o, e, q1, q2, q3⟩
            rcases q2 with q2 | q2
            · exact Or.inl ⟨o, e, q1, Or.inl q2, q3⟩
            · by_cases e1 : o = j
              · right
                rcases q3.2 with q | q
                · right; rw [q, e1]
                · left; rw [q, q2.1]
              · exact Or.inl ⟨o, e, q1, Or.inr ⟨q2.1, by omega⟩, q3⟩
theorem fg_lke_sym (e u : Nat) : fg_lke z s lf e u = fg_lke z s lf u e := by
  unfold fg_lke
  have : (fg_sg z s lf u == fg_sg z s lf e) = (fg_sg z s lf e == fg_sg z s lf u) := by
    by_cases q : fg_sg z s lf u = fg_sg z s lf e
    · rw [q]
    · have q2 : ¬ fg_sg z s lf e = fg_sg z s lf u := fun x => q x.symm
      rw [show (fg_sg z s lf u == fg_sg z s lf e) = false by simpa using q, show (fg_sg z s lf e == fg_sg z s lf u) = false by simpa using q2]
  rw [this]
  cases fg_upb z s e <;> cases fg_upb z s u <;> rfl
theorem fg_cf_end {C : Nat} (hC : fg_cf z s lf (fg_zs z) 0 C) : fg_wo (fg_set (fg_upb z s) (fg_zs z)) C = fg_set (fg_clr z s lf) (fg_zs z) ∨ 31 < fg_zs z := by
  rcases Nat.lt_or_ge 31 (fg_zs z) with h31 | h31
  · exact Or.inr h31
  left
  apply Nat.eq_of_testBit_eq
  intro x
  have hl : fg_set (fg_upb z s) (fg_zs z) < 2 ^ 32 := Nat.lt_of_lt_of_le (fg_set_lt _ _) (Nat.pow_le_pow_right (by decide) (by omega))
  rw [fg_wo_bit hl, fg_set_bit, fg_set_bit]
  by_cases hx : x < fg_zs z
  · rw [decide_eq_true hx, Bool.true_and, Bool.true_and]
    unfold fg_clr
    congr 1
    have key : C.testBit x = true ↔ ¬ ∀ u, u < fg_zs z → u ≠ x → fg_lke z s lf x u = false := by
      rw [hC.2 x]
      constructor
      · rintro ⟨o, e, q1, q2, q3, q4⟩ hall
        rcases q4 with q | q
        · have := hall e (by omega) (by omega)
          rw [q, fg_lke_sym, q3] at this
          cases this
        · have := hall o (by omega) (by omega)
          rw [q, q3] at this
          cases this
      · intro hn
        apply Classical.byContradiction
        intro hno
        apply hn
        intro u hu hne
        cases hq : fg_lke z s lf x u with
        | false => rfl
        | true =>
          exfalso
          apply hno
          rcases Nat.lt_or_ge u x with hlt | hge
          · exact ⟨u, x, hlt, Or.inl hx, hq, Or.inr rfl⟩
          · exact ⟨x, u, by omega, Or.inl hu, by rw [fg_lke_sym]; exact hq, Or.inl rfl⟩
    by_cases hc : C.testBit x = true
    · rw [hc, decide_eq_false (key.mp hc)]
      rfl
    · have hc2 : C.testBit x = false := by simpa using hc
      rw [hc2, decide_eq_true (Classical.not_not.mp (fun q => hc (key.mpr q)))]
      rfl
  · rw [decide_eq_false hx]
    rfl
theorem l_WA_clearOnes {σ : fg_St} (Sh : h = 3 ∨ h = 9) (hz : fg_Zok z) (hX : fg_ShX σ h z) (hlf : ∀ g, g < fg_zf z → lf g < 200) (hw : fg_Wt2 z s lf σ) (H : Q (nI (fg_set (fg_clr z s lf) (fg_zs z))) σ) : ∀ m i C, i + m = fg_zs z → fg_cf z s lf i 0 C → fg_Run (d + 1) 59 4 [some (.ref 33), some (.ref h), some (.int (nI C)), some (.int (nI i)), none] [] σ Q := by
  have hs := hz.1.2.2.2
  intro m
  induction m with
  | zero =>
    intro i C hi hC
    have hi : i = fg_zs z := by omega
    subst hi
    refine b_WA_clearOnes_4 Sh ⟨fun _ => ?_, fun q => absurd ?_ q⟩
    · rw [hw.1, fg_andn]
      rcases fg_cf_end hC with e | e
      · rw [e]; exact H
      · omega
    · rw [hX.1.2.2.2]
      exact nI_le (Nat.le_refl _) (by omega)
  | succ m ih =>
    intro i C hi hC
    refine b_WA_clearOnes_4 Sh ⟨fun q => absurd q (by rw [hX.1.2.2.2]; exact nI_ge (by omega) (by omega)), fun _ => ⟨fun q => absurd q (nI_ge (b := 10) (by omega) (by decide)), fun _ => ?_⟩⟩
    exact l_WA_clearOnes2 Sh hz hlf hw (by omega) (fun C2 hC2 => ih (i + 1) C2 (by omega) hC2) i 0 C (by omega) hC
theorem r_WA_clearOnes {σ : fg_St} (Sh : h = 3 ∨ h = 9) (hz : fg_Zok z) (hX : fg_ShX σ h z) (hlf : ∀ g, g < fg_zf z → lf g < 200) (hw : fg_Wt2 z s lf σ) (H : Q (nI (fg_set (fg_clr z s lf) (fg_zs z))) σ) : fg_Run (d + 1) 59 0 [some (.ref 33), some (.ref h), none, none, none] [] σ Q :=
  b_WA_clearOnes_0 Sh (l_WA_clearOnes Sh hz hX hlf hw H (fg_zs z) 0 0 (by omega) ⟨by decide, fun x => by
    rw [Nat.zero_testBit]
    exact ⟨fun q => (by cases q), fun ⟨o, e, q1, q2, q3⟩ => (by omega)⟩⟩)
end
