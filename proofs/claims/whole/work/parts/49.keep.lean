/-! IMAGES: keep, goBack -/
def fg_kpI (I : fg_GI) (w : Nat → Int32) (s : Nat) (a : Int32) : fg_GI := if fg_isr a 0 1 = true then ((fun j => if j = a.toNatClampNeg then true else I.1 j), (fun j => if j = a.toNatClampNeg then w else I.2.1 j), fun j => if j = a.toNatClampNeg then s else I.2.2 j) else I
def fg_kpP (P : fg_GP) (a : Int32) : fg_GP := if fg_isr a 0 1 = true then (0, P.2) else P
def fg_kpA (a : Int32) : Int32 := if fg_isr a 0 1 = true then 1 else -1000000001
def fg_gbO (I : fg_GI) (a : Int32) : Bool := fg_isr a 0 1 && I.1 a.toNatClampNeg
def fg_gbW (I : fg_GI) (w : Nat → Int32) (a : Int32) : Nat → Int32 := if fg_gbO I a = true then fg_w61 (I.2.1 a.toNatClampNeg) w else w
def fg_gbS (I : fg_GI) (s : Nat) (a : Int32) : Nat := if fg_gbO I a = true then I.2.2 a.toNatClampNeg else s
def fg_gbP (I : fg_GI) (P : fg_GP) (a : Int32) : fg_GP := if fg_gbO I a = true then (0, P.2) else P
def fg_gbA (I : fg_GI) (a : Int32) : Int32 := if fg_isr a 0 1 = true then (if I.1 a.toNatClampNeg = true then 1 else -1000000003) else -1000000001
theorem fg_kd1 : ∀ i, i < 2 → fg_kd (41 + 9 * i) = 1 := by decide
theorem fg_pt1 {σ : fg_St} {h : Nat} (e : fg_kd h = 1) : fg_pt σ h 0 = h + 1 := by
  unfold fg_pt
  rw [e]
  rfl
section
variable {d : Nat} {σ : fg_St} {Q : Int32 → fg_St → Prop} {z : fg_Z} {w : Nat → Int32} {P : fg_GP} {I : fg_GI} {T : fg_GT} {v : Int32} {s : Nat} {R : fg_GR} {B : fg_GB}
theorem c_FS_keep {a : Int32} (h : fg_CI σ z w P I T v s R B) (H : ∀ u, fg_sm fg_pC σ u → fg_CI u z w (fg_kpP P a) (fg_kpI I w s a) T v s R B → Q (fg_kpA a) u) : fg_Run (d + 2) 85 0 [some (.ref 0), some (.int a)] [] σ Q := by
  have out : fg_isr a 0 1 = false → Q (-1000000001) σ := fun e => by
    rw [fg_kpP, fg_kpI, fg_kpA, e] at H
    exact H σ fg_sm.rfl' h
  have a2 : ∀ b : Int32, b < 2 ↔ b ≤ nI 1 := fun b => by
    rw [fg_lt, fg_le', nI_toInt (by decide), show (2 : Int32).toInt = 2 from rfl]
    omega
  refine b_FS_keep_0 ?_
  rw [a2]
  refine ⟨fun q => out (fg_isr_lo (lo := 0) (by decide) q), fun q => ⟨fun q2 => ?_, fun q2 => out (fg_isr_hi (hi := 1) (by decide) q2)⟩⟩
  have o := fg_isr_ok (lo := 0) (hi := 1) (by decide) (by decide) q q2
  rw [fg_kpP, fg_kpI, fg_kpA, if_pos o, if_pos o, if_pos o] at H
  obtain ⟨i, _, hi, rfl⟩ := fg_isr_t o (by decide)
  have k1 := fg_kd1 i (by omega)
  rw [nI_clamp (by omega)] at H ⊢
  rw [fg_pt1 k1, show 41 + 9 * i + 1 = 42 + 9 * i by omega]
  have mem := fg_dk_42 i (by omega)
  have vi : vp_in (nI i) 2 := vp_in_nI (by omega) (by decide)
  refine ⟨vi, k1, (fg_dk_ok _ mem).1, fg_use (r_DK_become mem List.mem_cons_self (by omega) (fun u m hD => ⟨vi, k1, vi, k1, fg_use (b_PA_forget_0 ?_)⟩))⟩
  have s0 := h.2.2.2.2.2.2.1
  have e0 : fg_F u 0 12 = nI s := ((m.2 0 (fg_pH_no (by omega))).1 12).trans s0.2
  rw [e0]
  have D : fg_DkX u (42 + 9 * i) z w := hD z w h.2.1.2.1 h.2.1.2.2.2.1
  have mm : ∀ p : Nat → Bool, p (41 + 9 * i) = true → p 23 = true → fg_sm p u (fg_sF (fg_sF (fg_sF (fg_sF u (41 + 9 * i) 1 (nI s)) (41 + 9 * i) 2 1) 23 1 0) 23 2 0) := fun p p1 p2 => (((fg_sm_F p1).tr (fg_sm_F p1)).tr (fg_sm_F p2)).tr (fg_sm_F p2)
  have m3 : fg_sm (fun g => g == 23 || (decide (41 ≤ g) && decide (g ≤ 58))) σ (fg_sF (fg_sF (fg_sF (fg_sF u (41 + 9 * i) 1 (nI s)) (41 + 9 * i) 2 1) 23 1 0) 23 2 0) := (m.wk (fun g hg => fg_pH_no (by simp at hg; omega))).tr (mm _ (by simp; omega) (by simp))
  refine H _ (m3.wk (fun g hg => by simp [fg_pC] at hg; simp; omega)) ?_
  obtain ⟨a1, X, a3, a4, a5, a6, a7, a8, a9⟩ := h
  refine ⟨by rw [m3.1.1, m3.1.2]; exact a1, X.smg m3 (fun g _ _ => by simp; omega), ⟨by simp, 0, by omega, rfl, rfl, fun j hj => absurd hj (by simp)⟩, fun j hj => ?_, a5.sm m3 (by decide) (by decide), ((m3.2 0 (by decide)).1 11).trans a6, ⟨a7.1, ((m3.2 0 (by decide)).1 12).trans a7.2⟩, a8.sm m3 (by decide) (by decide) (by decide), a9.sm m3 (by decide) (by decide) (by decide)⟩
  show fg_F (fg_sF (fg_sF (fg_sF (fg_sF u (41 + 9 * i) 1 (nI s)) (41 + 9 * i) 2 1) 23 1 0) 23 2 0) (41 + 9 * j) 2 = fg_b (if j = i then true else I.1 j) ∧ ((if j = i then true else I.1 j) = true → fg_DkX (fg_sF (fg_sF (fg_sF (fg_sF u (41 + 9 * i) 1 (nI s)) (41 + 9 * i) 2 1) 23 1 0) 23 2 0) (42 + 9 * j) z (if j = i then w else I.2.1 j) ∧ fg_Wk z (if j = i then w else I.2.1 j) ∧ fg_F (fg_sF (fg_sF (fg_sF (fg_sF u (41 + 9 * i) 1 (nI s)) (41 + 9 * i) 2 1) 23 1 0) 23 2 0) (41 + 9 * j) 1 = nI (if j = i then s else I.2.2 j) ∧ (if j = i then s else I.2.2 j) < 2 ^ 31)
  by_cases ej : j = i
  · subst ej
    simp only [if_true]
    refine ⟨?_, fun _ => ⟨D.sm (mm (fun g => g == 23 || g == 41 + 9 * j) (by simp) (by simp)) (by simp; omega) (fun k hk => by simp; omega), X.2.2.2.2, ?_, a7.1⟩⟩
    · simp only [fg_F_sF]
      rw [if_neg (by omega), if_neg (by omega), if_pos ⟨trivial, trivial⟩]
      rfl
    · simp only [fg_F_sF]
      rw [if_neg (by omega), if_neg (by omega), if_neg (by omega), if_pos ⟨trivial, trivial⟩]
  · have mj : fg_sm (fun g => g == 23 || decide (41 + 9 * i ≤ g ∧ g < 41 + 9 * i + 9)) σ (fg_sF (fg_sF (fg_sF (fg_sF u (41 + 9 * i) 1 (nI s)) (41 + 9 * i) 2 1) 23 1 0) 23 2 0) := (m.wk (fun g hg => fg_pH_no (by simp at hg; omega))).tr (mm _ (by simp) (by simp))
    rw [if_neg ej, if_neg ej, if_neg ej]
    have fj := (mj.2 (41 + 9 * j) (by simp; omega)).1
    exact ⟨(fj 2).trans (a4 j hj).1, fun q => ⟨((a4 j hj).2 q).1.sm mj (by simp; omega) (fun k hk => by simp; omega), ((a4 j hj).2 q).2.1, (fj 1).trans ((a4 j hj).2 q).2.2.1, ((a4 j hj).2 q).2.2.2⟩⟩
theorem c_FS_goBack {a : Int32} (h : fg_CI σ z w P I T v s R B) (H : ∀ u, fg_sm fg_pC σ u → fg_CI u z (fg_gbW I w a) (fg_gbP I P a) I T v (fg_gbS I s a) R B → Q (fg_gbA I a) u) : fg_Run (d + 2) 86 0 [some (.ref 0), some (.int a)] [] σ Q := by
  have out : fg_isr a 0 1 = false → Q (-1000000001) σ := fun e => by
    have e2 : fg_gbO I a = false := by simp [fg_gbO, e]
    rw [fg_gbW, fg_gbP, fg_gbS, fg_gbA, e, e2] at H
    exact H σ fg_sm.rfl' h
  have a2 : ∀ b : Int32, b < 2 ↔ b ≤ nI 1 := fun b => by
    rw [fg_lt, fg_le', nI_toInt (by decide), show (2 : Int32).toInt = 2 from rfl]
    omega
  refine b_FS_goBack_0 ?_
  rw [a2]
  refine ⟨fun q => out (fg_isr_lo (lo := 0) (by decide) q), fun q => ⟨fun q2 => ?_, fun q2 => out (fg_isr_hi (hi := 1) (by decide) q2)⟩⟩
  have o := fg_isr_ok (lo := 0) (hi := 1) (by decide) (by decide) q q2
  rw [fg_gbA, if_pos o] at H
  obtain ⟨i, _, hi, rfl⟩ := fg_isr_t o (by decide)
  have k1 := fg_kd1 i (by omega)
  have eO : fg_gbO I (nI i) = I.1 i := by rw [fg_gbO, o, nI_clamp (by omega)]; rfl
  rw [fg_gbW, fg_gbP, fg_gbS, eO, nI_clamp (by omega)] at H
  rw [nI_clamp (by omega), fg_pt1 k1, show 41 + 9 * i + 1 = 42 + 9 * i by omega]
  have mem := fg_dk_42 i (by omega)
  have vi : vp_in (nI i) 2 := vp_in_nI (by omega) (by decide)
  obtain ⟨i1, i2⟩ := h.2.2.2.1 i (by omega)
  rw [i1]
  refine ⟨vi, k1, fg_bt (fun ek => ⟨vi, k1, fg_use (r_DK_become List.mem_cons_self mem (by omega) (fun u m hD => ⟨vi, k1, fg_use (b_PA_forget_0 ?_)⟩))⟩) (fun ek => ?_)⟩
  · obtain ⟨j1, j2, j3, j4⟩ := i2 ek
    rw [ek, if_pos rfl, if_pos rfl, if_pos rfl, if_pos rfl] at H
    have hz := h.2.1.2.1
    have D := hD z _ hz j1
    have eS : fg_F u (41 + 9 * i) 1 = nI (I.2.2 i) := ((m.2 (41 + 9 * i) (fg_pH_no (by omega))).1 1).trans j3
    rw [eS]
    have mm : ∀ p : Nat → Bool, p 0 = true → p 23 = true → fg_sm p u (fg_sF (fg_sF (fg_sF u 0 12 (nI (I.2.2 i))) 23 1 0) 23 2 0) := fun p p1 p2 => ((fg_sm_F p1).tr (fg_sm_F p2)).tr (fg_sm_F p2)
    have m3 : fg_sm (fun g => g == 0 || g == 23 || (decide (15 ≤ g) && decide (g < 23))) σ (fg_sF (fg_sF (fg_sF u 0 12 (nI (I.2.2 i))) 23 1 0) 23 2 0) := (m.wk (fun g hg => fg_pH_no (by simp at hg; omega))).tr (mm _ (by simp) (by simp))
    refine H _ (m3.wk (fun g hg => by simp [fg_pC] at hg; simp; omega)) ?_
    obtain ⟨a1, X, a3, a4, a5, a6, a7, a8, a9⟩ := h
    have X1 := X.1
    refine ⟨by rw [m3.1.1, m3.1.2]; exact a1, ⟨by rw [m3.1.1]; exact X1, hz, ?_, fg_Dk.w (D.sm (mm (fun g => g == 0 || g == 23) (by simp) (by simp)) (by simp) (fun k hk => by simp; omega)) hz fg_w61_in, fg_Wk.w j2 hz fg_w61_in⟩, ⟨by simp, 0, by omega, rfl, rfl, fun j hj => absurd hj (by simp)⟩, a4.sm m3 (fun g _ _ => by simp; omega), a5.sm m3 (by decide) (by decide), ?_, ⟨j4, rfl⟩, a8.sm m3 (by decide) (by decide) (by decide), a9.sm m3 (by decide) (by decide) (by decide)⟩
    · rw [m3.1.1]
      exact X.2.2.1.sm m3 (by simp; omega) (by simp; omega) (by simp; omega)
    · show fg_F u 0 11 = v
      exact ((m.2 0 (fg_pH_no (by omega))).1 11).trans a6
  · rw [ek, if_neg (by decide), if_neg (by decide), if_neg (by decide), if_neg (by decide)] at H
    exact H σ fg_sm.rfl' h
end
