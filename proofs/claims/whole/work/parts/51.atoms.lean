/-! THE ROW CHANGES: one place of it, beside the class's deck (laid by wip/whole/gen51.py) -/
def fg_ut (w : Nat → Int32) (a : Nat) (x : Int32) : Nat → Int32 := fun k => if k = a then x else w k
theorem fg_ut_s (w : Nat → Int32) (a : Nat) (x : Int32) : fg_ut w a x a = x := if_pos rfl
theorem fg_ut_n {w : Nat → Int32} {a k : Nat} {x : Int32} (h : k ≠ a) : fg_ut w a x k = w k := if_neg h
theorem fg_ut_c {w : Nat → Int32} {a b : Nat} {x y : Int32} (h : a ≠ b) : fg_ut (fg_ut w a x) b y = fg_ut (fg_ut w b y) a x := by
  funext k
  by_cases e1 : k = a
  · rw [e1, fg_ut_n h, fg_ut_s, fg_ut_s]
  · rw [fg_ut_n (w := fg_ut w b y) e1]
    by_cases e2 : k = b
    · rw [e2, fg_ut_s, fg_ut_s]
    · rw [fg_ut_n e2, fg_ut_n e2, fg_ut_n e1]
theorem fg_ut_id (w : Nat → Int32) (a : Nat) : fg_ut w a (w a) = w := by
  funext k
  by_cases e1 : k = a
  · rw [e1, fg_ut_s]
  · rw [fg_ut_n e1]
theorem fg_R_ne {σ : fg_St} {h k a b : Nat} {x : Int32} (e : a ≠ h) : fg_R (fg_sR σ h k x) a b = fg_R σ a b := by rw [fg_R_sR, if_neg (fun q => e q.1)]
theorem fg_R_eq {σ : fg_St} {h k b : Nat} {x : Int32} : fg_R (fg_sR σ h k x) h b = fg_ut (fg_R σ h) k x b := by
  rw [fg_R_sR]
  by_cases e : b = k
  · rw [if_pos ⟨rfl, e⟩, e, fg_ut_s]
  · rw [if_neg (fun q => e q.2), fg_ut_n e]
theorem fg_F_ne {σ : fg_St} {h k a b : Nat} {x : Int32} (e : b ≠ k) : fg_F (fg_sF σ h k x) a b = fg_F σ a b := by rw [fg_F_sF, if_neg (fun q => e q.1)]
theorem fg_F_eq {σ : fg_St} {h k : Nat} {x : Int32} : fg_F (fg_sF σ h k x) h k = x := by rw [fg_F_sF, if_pos ⟨rfl, rfl⟩]
theorem fg_row_sR (τ : fg_St) (a : Nat) (x : Int32) : fg_R (fg_sR τ 191 a x) 191 = fg_ut (fg_R τ 191) a x := funext fun _ => fg_R_eq
theorem fg_Dk.w2 {z : fg_Z} {f : Nat → Int32} {r : Nat → Nat → Int32} {w w' : Nat → Int32} (hD : fg_Dk z f r w) (e0 : ∀ g, g < fg_zf z → w' g = w g ∧ w' (10 + g) = w (10 + g) ∧ w' (20 + g) = w (20 + g) ∧ w' (30 + g) = w (30 + g)) (e4 : ∀ k, 1 ≤ k → k ≤ 3 → w' (39 + k) = w (39 + k)) (e5 : ∀ k, 43 ≤ k → k < 61 → w' k = w k) : fg_Dk z f r w' := by
  obtain ⟨d1, d2, d3, d4, d5, d6, d7⟩ := hD
  refine ⟨fun g hg => ?_, fun g hg => ⟨(d2 g hg).1.trans (e0 g hg).2.1.symm, (d2 g hg).2.trans (e0 g hg).2.2.1.symm⟩, d3.trans ?_, d4.trans ?_, ⟨d5.1.trans (e5 60 (by omega) (by omega)).symm, d5.2.1.trans (e5 58 (by omega) (by omega)).symm, d5.2.2.trans (e5 59 (by omega) (by omega)).symm⟩, fun q hq => (d6 q hq).trans (e5 _ (by omega) (by omega)).symm, fun q hq => (d7 q hq).trans (e5 _ (by omega) (by omega)).symm⟩
  · obtain ⟨k, a, b, g1, g2, g3, g4, g5⟩ := d1 g hg
    exact ⟨k, a, b, g1, g2, g3, g4, (e0 g hg).1.trans g5⟩
  · congr 1
    exact fg_set_ext (fun g hg => by rw [(e0 g hg).2.2.2])
  · congr 1
    refine fg_set_ext (fun k hk => ?_)
    by_cases h1 : 1 ≤ k
    · rw [e4 k h1 (by omega)]
    · simp [h1]
section
variable {τ : fg_St} {z : fg_Z} {w : Nat → Int32}
theorem fg_DkX.u6 (D : fg_DkX τ 15 z w) (hz : fg_Zok z) {q : Nat} {x : Int32} (hq : q < 12) : fg_DkX (fg_sR τ 22 q x) 15 z (fg_ut w (46 + q) (x)) := by
  have hf := hz.1.2.2.1
  obtain ⟨d1, d2, d3, d4, d5, d6, d7⟩ := D
  refine ⟨fun i hi => ?_, fun i hi => ⟨?_, ?_⟩, ?_, ?_, ⟨?_, ?_, ?_⟩, fun i hi => ?_, fun i hi => ?_⟩
  · obtain ⟨k0, a0, b0, g1, g2, g3, g4, g5⟩ := d1 i hi
    exact ⟨k0, a0, b0, g1, (fg_R_ne (by decide)).trans g2, (fg_R_ne (by decide)).trans g3, (fg_R_ne (by decide)).trans g4, (fg_ut_n (by omega)).trans g5⟩
  · exact (fg_R_ne (by decide)).trans ((d2 i hi).1.trans (fg_ut_n (by omega)).symm)
  · exact (fg_R_ne (by decide)).trans ((d2 i hi).2.trans (fg_ut_n (by omega)).symm)
  · refine (d3.trans ?_)
    exact congrArg nI (fg_set_ext (fun i hi => by rw [fg_ut_n (by omega)]))
  · refine (d4.trans ?_)
    refine congrArg nI (fg_set_ext (fun i hi => ?_))
    by_cases h1 : 1 ≤ i
    · rw [fg_ut_n (by omega)]
    · simp [h1]
  · exact (d5.1.trans (fg_ut_n (by omega)).symm)
  · exact (d5.2.1.trans (fg_ut_n (by omega)).symm)
  · exact (d5.2.2.trans (fg_ut_n (by omega)).symm)
  · exact (fg_R_ne (by decide)).trans ((d6 i hi).trans (fg_ut_n (by omega)).symm)
  · refine fg_R_eq.trans ?_
    by_cases e : i = q
    · rw [e, fg_ut_s, fg_ut_s]
    · rw [fg_ut_n e, fg_ut_n (by omega)]
      exact d7 i hi
theorem fg_DkX.u5 (D : fg_DkX τ 15 z w) (hz : fg_Zok z) {q : Nat} {x : Int32} (hq : q < 3) : fg_DkX (fg_sR τ 21 q x) 15 z (fg_ut w (43 + q) (x)) := by
  have hf := hz.1.2.2.1
  obtain ⟨d1, d2, d3, d4, d5, d6, d7⟩ := D
  refine ⟨fun i hi => ?_, fun i hi => ⟨?_, ?_⟩, ?_, ?_, ⟨?_, ?_, ?_⟩, fun i hi => ?_, fun i hi => ?_⟩
  · obtain ⟨k0, a0, b0, g1, g2, g3, g4, g5⟩ := d1 i hi
    exact ⟨k0, a0, b0, g1, (fg_R_ne (by decide)).trans g2, (fg_R_ne (by decide)).trans g3, (fg_R_ne (by decide)).trans g4, (fg_ut_n (by omega)).trans g5⟩
  · exact (fg_R_ne (by decide)).trans ((d2 i hi).1.trans (fg_ut_n (by omega)).symm)
  · exact (fg_R_ne (by decide)).trans ((d2 i hi).2.trans (fg_ut_n (by omega)).symm)
  · refine (d3.trans ?_)
    exact congrArg nI (fg_set_ext (fun i hi => by rw [fg_ut_n (by omega)]))
  · refine (d4.trans ?_)
    refine congrArg nI (fg_set_ext (fun i hi => ?_))
    by_cases h1 : 1 ≤ i
    · rw [fg_ut_n (by omega)]
    · simp [h1]
  · exact (d5.1.trans (fg_ut_n (by omega)).symm)
  · exact (d5.2.1.trans (fg_ut_n (by omega)).symm)
  · exact (d5.2.2.trans (fg_ut_n (by omega)).symm)
  · refine fg_R_eq.trans ?_
    by_cases e : i = q
    · rw [e, fg_ut_s, fg_ut_s]
    · rw [fg_ut_n e, fg_ut_n (by omega)]
      exact d6 i hi
  · exact (fg_R_ne (by decide)).trans ((d7 i hi).trans (fg_ut_n (by omega)).symm)
theorem fg_DkX.u4 (D : fg_DkX τ 15 z w) (hz : fg_Zok z) {q : Nat} {x : Int32} (hq : q < fg_zf z) : fg_DkX (fg_sR τ 20 q x) 15 z (fg_ut w (20 + q) (x)) := by
  have hf := hz.1.2.2.1
  obtain ⟨d1, d2, d3, d4, d5, d6, d7⟩ := D
  refine ⟨fun i hi => ?_, fun i hi => ⟨?_, ?_⟩, ?_, ?_, ⟨?_, ?_, ?_⟩, fun i hi => ?_, fun i hi => ?_⟩
  · obtain ⟨k0, a0, b0, g1, g2, g3, g4, g5⟩ := d1 i hi
    exact ⟨k0, a0, b0, g1, (fg_R_ne (by decide)).trans g2, (fg_R_ne (by decide)).trans g3, (fg_R_ne (by decide)).trans g4, (fg_ut_n (by omega)).trans g5⟩
  · exact (fg_R_ne (by decide)).trans ((d2 i hi).1.trans (fg_ut_n (by omega)).symm)
  · refine fg_R_eq.trans ?_
    by_cases e : i = q
    · rw [e, fg_ut_s, fg_ut_s]
    · rw [fg_ut_n e, fg_ut_n (by omega)]
      exact (d2 i hi).2
  · refine (d3.trans ?_)
    exact congrArg nI (fg_set_ext (fun i hi => by rw [fg_ut_n (by omega)]))
  · refine (d4.trans ?_)
    refine congrArg nI (fg_set_ext (fun i hi => ?_))
    by_cases h1 : 1 ≤ i
    · rw [fg_ut_n (by omega)]
    · simp [h1]
  · exact (d5.1.trans (fg_ut_n (by omega)).symm)
  · exact (d5.2.1.trans (fg_ut_n (by omega)).symm)
  · exact (d5.2.2.trans (fg_ut_n (by omega)).symm)
  · exact (fg_R_ne (by decide)).trans ((d6 i hi).trans (fg_ut_n (by omega)).symm)
  · exact (fg_R_ne (by decide)).trans ((d7 i hi).trans (fg_ut_n (by omega)).symm)
theorem fg_DkX.u3 (D : fg_DkX τ 15 z w) (hz : fg_Zok z) {q : Nat} {x : Int32} (hq : q < fg_zf z) : fg_DkX (fg_sR τ 19 q x) 15 z (fg_ut w (10 + q) (x)) := by
  have hf := hz.1.2.2.1
  obtain ⟨d1, d2, d3, d4, d5, d6, d7⟩ := D
  refine ⟨fun i hi => ?_, fun i hi => ⟨?_, ?_⟩, ?_, ?_, ⟨?_, ?_, ?_⟩, fun i hi => ?_, fun i hi => ?_⟩
  · obtain ⟨k0, a0, b0, g1, g2, g3, g4, g5⟩ := d1 i hi
    exact ⟨k0, a0, b0, g1, (fg_R_ne (by decide)).trans g2, (fg_R_ne (by decide)).trans g3, (fg_R_ne (by decide)).trans g4, (fg_ut_n (by omega)).trans g5⟩
  · refine fg_R_eq.trans ?_
    by_cases e : i = q
    · rw [e, fg_ut_s, fg_ut_s]
    · rw [fg_ut_n e, fg_ut_n (by omega)]
      exact (d2 i hi).1
  · exact (fg_R_ne (by decide)).trans ((d2 i hi).2.trans (fg_ut_n (by omega)).symm)
  · refine (d3.trans ?_)
    exact congrArg nI (fg_set_ext (fun i hi => by rw [fg_ut_n (by omega)]))
  · refine (d4.trans ?_)
    refine congrArg nI (fg_set_ext (fun i hi => ?_))
    by_cases h1 : 1 ≤ i
    · rw [fg_ut_n (by omega)]
    · simp [h1]
  · exact (d5.1.trans (fg_ut_n (by omega)).symm)
  · exact (d5.2.1.trans (fg_ut_n (by omega)).symm)
  · exact (d5.2.2.trans (fg_ut_n (by omega)).symm)
  · exact (fg_R_ne (by decide)).trans ((d6 i hi).trans (fg_ut_n (by omega)).symm)
  · exact (fg_R_ne (by decide)).trans ((d7 i hi).trans (fg_ut_n (by omega)).symm)
theorem fg_DkX.u7 (D : fg_DkX τ 15 z w) (hz : fg_Zok z) {q : Nat} {x y : Int32} (hq : q < fg_zf z) (hy : y = nI (fg_set (fun i => decide (fg_ut w (30 + q) x (30 + i) = 1)) (fg_zf z))) : fg_DkX (fg_sF τ 15 7 y) 15 z (fg_ut w (30 + q) (x)) := by
  have hf := hz.1.2.2.1
  obtain ⟨d1, d2, d3, d4, d5, d6, d7⟩ := D
  refine ⟨fun i hi => ?_, fun i hi => ⟨?_, ?_⟩, ?_, ?_, ⟨?_, ?_, ?_⟩, fun i hi => ?_, fun i hi => ?_⟩
  · obtain ⟨k0, a0, b0, g1, g2, g3, g4, g5⟩ := d1 i hi
    exact ⟨k0, a0, b0, g1, g2, g3, g4, (fg_ut_n (by omega)).trans g5⟩
  · exact ((d2 i hi).1.trans (fg_ut_n (by omega)).symm)
  · exact ((d2 i hi).2.trans (fg_ut_n (by omega)).symm)
  · exact fg_F_eq.trans hy
  · refine (fg_F_ne (by decide)).trans (d4.trans ?_)
    refine congrArg nI (fg_set_ext (fun i hi => ?_))
    by_cases h1 : 1 ≤ i
    · rw [fg_ut_n (by omega)]
    · simp [h1]
  · exact (fg_F_ne (by decide)).trans (d5.1.trans (fg_ut_n (by omega)).symm)
  · exact (fg_F_ne (by decide)).trans (d5.2.1.trans (fg_ut_n (by omega)).symm)
  · exact (fg_F_ne (by decide)).trans (d5.2.2.trans (fg_ut_n (by omega)).symm)
  · exact ((d6 i hi).trans (fg_ut_n (by omega)).symm)
  · exact ((d7 i hi).trans (fg_ut_n (by omega)).symm)
theorem fg_DkX.u8 (D : fg_DkX τ 15 z w) (hz : fg_Zok z) {q : Nat} {x y : Int32} (h1 : 1 ≤ q) (hq : q ≤ 3) (hy : y = nI (fg_set (fun i => decide (1 ≤ i ∧ ¬ fg_ut w (39 + q) x (39 + i) = -1)) 4)) : fg_DkX (fg_sF τ 15 8 y) 15 z (fg_ut w (39 + q) (x)) := by
  have hf := hz.1.2.2.1
  obtain ⟨d1, d2, d3, d4, d5, d6, d7⟩ := D
  refine ⟨fun i hi => ?_, fun i hi => ⟨?_, ?_⟩, ?_, ?_, ⟨?_, ?_, ?_⟩, fun i hi => ?_, fun i hi => ?_⟩
  · obtain ⟨k0, a0, b0, g1, g2, g3, g4, g5⟩ := d1 i hi
    exact ⟨k0, a0, b0, g1, g2, g3, g4, (fg_ut_n (by omega)).trans g5⟩
  · exact ((d2 i hi).1.trans (fg_ut_n (by omega)).symm)
  · exact ((d2 i hi).2.trans (fg_ut_n (by omega)).symm)
  · refine (fg_F_ne (by decide)).trans (d3.trans ?_)
    exact congrArg nI (fg_set_ext (fun i hi => by rw [fg_ut_n (by omega)]))
  · exact fg_F_eq.trans hy
  · exact (fg_F_ne (by decide)).trans (d5.1.trans (fg_ut_n (by omega)).symm)
  · exact (fg_F_ne (by decide)).trans (d5.2.1.trans (fg_ut_n (by omega)).symm)
  · exact (fg_F_ne (by decide)).trans (d5.2.2.trans (fg_ut_n (by omega)).symm)
  · exact ((d6 i hi).trans (fg_ut_n (by omega)).symm)
  · exact ((d7 i hi).trans (fg_ut_n (by omega)).symm)
theorem fg_DkX.u9 (D : fg_DkX τ 15 z w) (hz : fg_Zok z) {x : Int32} : fg_DkX (fg_sF τ 15 9 x) 15 z (fg_ut w (60) (x)) := by
  have hf := hz.1.2.2.1
  obtain ⟨d1, d2, d3, d4, d5, d6, d7⟩ := D
  refine ⟨fun i hi => ?_, fun i hi => ⟨?_, ?_⟩, ?_, ?_, ⟨?_, ?_, ?_⟩, fun i hi => ?_, fun i hi => ?_⟩
  · obtain ⟨k0, a0, b0, g1, g2, g3, g4, g5⟩ := d1 i hi
    exact ⟨k0, a0, b0, g1, g2, g3, g4, (fg_ut_n (by omega)).trans g5⟩
  · exact ((d2 i hi).1.trans (fg_ut_n (by omega)).symm)
  · exact ((d2 i hi).2.trans (fg_ut_n (by omega)).symm)
  · refine (fg_F_ne (by decide)).trans (d3.trans ?_)
    exact congrArg nI (fg_set_ext (fun i hi => by rw [fg_ut_n (by omega)]))
  · refine (fg_F_ne (by decide)).trans (d4.trans ?_)
    refine congrArg nI (fg_set_ext (fun i hi => ?_))
    by_cases h1 : 1 ≤ i
    · rw [fg_ut_n (by omega)]
    · simp [h1]
  · exact fg_F_eq.trans (fg_ut_s _ _ _).symm
  · exact (fg_F_ne (by decide)).trans (d5.2.1.trans (fg_ut_n (by omega)).symm)
  · exact (fg_F_ne (by decide)).trans (d5.2.2.trans (fg_ut_n (by omega)).symm)
  · exact ((d6 i hi).trans (fg_ut_n (by omega)).symm)
  · exact ((d7 i hi).trans (fg_ut_n (by omega)).symm)
theorem fg_DkX.u10 (D : fg_DkX τ 15 z w) (hz : fg_Zok z) {x : Int32} : fg_DkX (fg_sF τ 15 10 x) 15 z (fg_ut w (58) (x)) := by
  have hf := hz.1.2.2.1
  obtain ⟨d1, d2, d3, d4, d5, d6, d7⟩ := D
  refine ⟨fun i hi => ?_, fun i hi => ⟨?_, ?_⟩, ?_, ?_, ⟨?_, ?_, ?_⟩, fun i hi => ?_, fun i hi => ?_⟩
  · obtain ⟨k0, a0, b0, g1, g2, g3, g4, g5⟩ := d1 i hi
    exact ⟨k0, a0, b0, g1, g2, g3, g4, (fg_ut_n (by omega)).trans g5⟩
  · exact ((d2 i hi).1.trans (fg_ut_n (by omega)).symm)
  · exact ((d2 i hi).2.trans (fg_ut_n (by omega)).symm)
  · refine (fg_F_ne (by decide)).trans (d3.trans ?_)
    exact congrArg nI (fg_set_ext (fun i hi => by rw [fg_ut_n (by omega)]))
  · refine (fg_F_ne (by decide)).trans (d4.trans ?_)
    refine congrArg nI (fg_set_ext (fun i hi => ?_))
    by_cases h1 : 1 ≤ i
    · rw [fg_ut_n (by omega)]
    · simp [h1]
  · exact (fg_F_ne (by decide)).trans (d5.1.trans (fg_ut_n (by omega)).symm)
  · exact fg_F_eq.trans (fg_ut_s _ _ _).symm
  · exact (fg_F_ne (by decide)).trans (d5.2.2.trans (fg_ut_n (by omega)).symm)
  · exact ((d6 i hi).trans (fg_ut_n (by omega)).symm)
  · exact ((d7 i hi).trans (fg_ut_n (by omega)).symm)
theorem fg_DkX.u11 (D : fg_DkX τ 15 z w) (hz : fg_Zok z) {x : Int32} : fg_DkX (fg_sF τ 15 11 x) 15 z (fg_ut w (59) (x)) := by
  have hf := hz.1.2.2.1
  obtain ⟨d1, d2, d3, d4, d5, d6, d7⟩ := D
  refine ⟨fun i hi => ?_, fun i hi => ⟨?_, ?_⟩, ?_, ?_, ⟨?_, ?_, ?_⟩, fun i hi => ?_, fun i hi => ?_⟩
  · obtain ⟨k0, a0, b0, g1, g2, g3, g4, g5⟩ := d1 i hi
    exact ⟨k0, a0, b0, g1, g2, g3, g4, (fg_ut_n (by omega)).trans g5⟩
  · exact ((d2 i hi).1.trans (fg_ut_n (by omega)).symm)
  · exact ((d2 i hi).2.trans (fg_ut_n (by omega)).symm)
  · refine (fg_F_ne (by decide)).trans (d3.trans ?_)
    exact congrArg nI (fg_set_ext (fun i hi => by rw [fg_ut_n (by omega)]))
  · refine (fg_F_ne (by decide)).trans (d4.trans ?_)
    refine congrArg nI (fg_set_ext (fun i hi => ?_))
    by_cases h1 : 1 ≤ i
    · rw [fg_ut_n (by omega)]
    · simp [h1]
  · exact (fg_F_ne (by decide)).trans (d5.1.trans (fg_ut_n (by omega)).symm)
  · exact (fg_F_ne (by decide)).trans (d5.2.1.trans (fg_ut_n (by omega)).symm)
  · exact fg_F_eq.trans (fg_ut_s _ _ _).symm
  · exact ((d6 i hi).trans (fg_ut_n (by omega)).symm)
  · exact ((d7 i hi).trans (fg_ut_n (by omega)).symm)
theorem fg_DkX.u0 (D : fg_DkX τ 15 z w) (hz : fg_Zok z) {q k a b : Nat} (hq : q < fg_zf z) (hk : k ≤ 3 ∧ a ≤ 4 ∧ b ≤ 4) : fg_DkX (fg_sR (fg_sR (fg_sR τ 16 q (nI k)) 17 q (nI a)) 18 q (nI b)) 15 z (fg_ut w (q) (nI (100 * k + 10 * a + b))) := by
  have hf := hz.1.2.2.1
  obtain ⟨d1, d2, d3, d4, d5, d6, d7⟩ := D
  refine ⟨fun i hi => ?_, fun i hi => ⟨?_, ?_⟩, ?_, ?_, ⟨?_, ?_, ?_⟩, fun i hi => ?_, fun i hi => ?_⟩
  · by_cases e : i = q
    · rw [e]
      refine ⟨k, a, b, hk, ?_, ?_, ?_, fg_ut_s _ _ _⟩
      · exact (fg_R_ne (by decide)).trans ((fg_R_ne (by decide)).trans (fg_R_eq.trans (fg_ut_s _ _ _)))
      · exact (fg_R_ne (by decide)).trans (fg_R_eq.trans (fg_ut_s _ _ _))
      · exact fg_R_eq.trans (fg_ut_s _ _ _)
    · obtain ⟨k0, a0, b0, g1, g2, g3, g4, g5⟩ := d1 i hi
      refine ⟨k0, a0, b0, g1, ?_, ?_, ?_, (fg_ut_n e).trans g5⟩
      · exact (fg_R_ne (by decide)).trans ((fg_R_ne (by decide)).trans (fg_R_eq.trans ((fg_ut_n e).trans g2)))
      · exact (fg_R_ne (by decide)).trans (fg_R_eq.trans ((fg_ut_n e).trans ((fg_R_ne (by decide)).trans g3)))
      · exact fg_R_eq.trans ((fg_ut_n e).trans ((fg_R_ne (by decide)).trans ((fg_R_ne (by decide)).trans g4)))
  · exact ((fg_R_ne (by decide)).trans ((fg_R_ne (by decide)).trans (fg_R_ne (by decide)))).trans ((d2 i hi).1.trans (fg_ut_n (by omega)).symm)
  · exact ((fg_R_ne (by decide)).trans ((fg_R_ne (by decide)).trans (fg_R_ne (by decide)))).trans ((d2 i hi).2.trans (fg_ut_n (by omega)).symm)
  · refine (d3.trans ?_)
    exact congrArg nI (fg_set_ext (fun i hi => by rw [fg_ut_n (by omega)]))
  · refine (d4.trans ?_)
    refine congrArg nI (fg_set_ext (fun i hi => ?_))
    by_cases h1 : 1 ≤ i
    · rw [fg_ut_n (by omega)]
    · simp [h1]
  · exact (d5.1.trans (fg_ut_n (by omega)).symm)
  · exact (d5.2.1.trans (fg_ut_n (by omega)).symm)
  · exact (d5.2.2.trans (fg_ut_n (by omega)).symm)
  · exact ((fg_R_ne (by decide)).trans ((fg_R_ne (by decide)).trans (fg_R_ne (by decide)))).trans ((d6 i hi).trans (fg_ut_n (by omega)).symm)
  · exact ((fg_R_ne (by decide)).trans ((fg_R_ne (by decide)).trans (fg_R_ne (by decide)))).trans ((d7 i hi).trans (fg_ut_n (by omega)).symm)
end
