/-! THE PAST: remember, undo; IMAGES: keep, goBack -/
def fg_psh (P : fg_GP) (w : Nat → Int32) : fg_GP := if P.1 < 16 then (P.1 + 1, fun j => if j = P.1 then w else P.2 j) else (16, fun j => if j = 15 then w else P.2 (j + 1))
theorem fg_psh_lt {P : fg_GP} {w : Nat → Int32} (h : P.1 < 16) : fg_psh P w = (P.1 + 1, fun j => if j = P.1 then w else P.2 j) := if_pos h
theorem fg_psh_ge {P : fg_GP} {w : Nat → Int32} (h : ¬ P.1 < 16) : fg_psh P w = (16, fun j => if j = 15 then w else P.2 (j + 1)) := if_neg h
def fg_pPa (g : Nat) : Bool := g == 23 || (decide (59 ≤ g) && decide (g < 187))
theorem fg_Pt_of {σ : fg_St} {h : Nat} {z : fg_Z} {w : Nat → Int32} (D : fg_DkX σ h z w) : fg_Pt z w := fun g hg => by
  obtain ⟨k, a, b, e1, _, _, _, e5⟩ := D.1 g hg
  exact ⟨k, a, b, e1, e5⟩
section
variable {d : Nat} {σ : fg_St} {Q : Int32 → fg_St → Prop} {z : fg_Z} {w : Nat → Int32} {P : fg_GP} {I : fg_GI} {T : fg_GT} {v : Int32} {s : Nat} {R : fg_GR} {B : fg_GB}
theorem r_PA_remember (X : fg_XI σ z w) (hP : fg_PaX σ z P) (H : ∀ u, fg_sm fg_pPa σ u → fg_PaX u z (fg_psh P w) → Q 0 u) : fg_Run (d + 2) 22 0 [some (.ref 23), some (.ref 15)] [] σ Q := by
  obtain ⟨p1, f, p2, p3, p4, p5⟩ := hP
  have er : ((fg_F σ 23 1) + (fg_F σ 23 2)) - ((fg_F σ 23 1) + (fg_F σ 23 2)) / 16 * 16 = nI ((f + P.1) % 16) := by
    rw [p3, p4, nI_add, show (16 : Int32) = nI 16 from rfl, pk_rem (by omega) (by decide) (by decide)]
  refine b_PA_remember_0 ?_
  rw [er, nI_clamp (by omega)]
  have mem := fg_dk_59 ((f + P.1) % 16) (by omega)
  refine ⟨vp_in_nI (by omega) (by decide), (fg_dk_ok _ mem).1, fg_use (r_DK_become mem List.mem_cons_self (by omega) (fun u m hD => ?_))⟩
  have h23 := (m.2 23 (fg_pH_no (by omega))).1
  have mP : fg_sm fg_pPa σ u := m.wk (fun g hg => fg_pH_no (by simp [fg_pPa] at hg; omega))
  have D := hD z w X.2.1 X.2.2.2.1
  have old : ∀ j, (f + j) % 16 ≠ (f + P.1) % 16 → j < P.1 → fg_DkX u (59 + 8 * ((f + j) % 16)) z (P.2 j) := fun j hj hl => (p5 j hl).1.sm m (fg_pH_no (by omega)) (fun k hk => fg_pH_no (by omega))
  rw [show fg_F u 23 2 = nI P.1 from (h23 2).trans p4, show fg_F u 23 1 = nI f from (h23 1).trans p3, nI_1, nI_1]
  have c16 : 16 ≤ nI P.1 ↔ 16 ≤ P.1 := nI_leI (a := 16) (by decide) (by omega)
  rw [c16]
  refine ⟨fun q => ?_, fun q => ?_⟩
  · rw [fg_psh_ge (by omega)] at H
    rw [show (16 : Int32) = nI 16 from rfl, pk_rem (by omega) (by decide) (by decide)]
    have m2 : ∀ {p : Nat → Bool}, p 23 = true → fg_sm p u (fg_sF u 23 1 (nI ((f + 1) % 16))) := fun hp => fg_sm_F hp
    refine H _ (mP.tr (m2 (by decide))) ⟨by show 16 ≤ 16; omega, (f + 1) % 16, by omega, rfl, ?_, fun j hj => ?_⟩
    · show fg_F u 23 2 = nI 16
      rw [h23 2, p4]
      congr 1
      omega
    · have hj : j < 16 := hj
      show fg_DkX (fg_sF u 23 1 (nI ((f + 1) % 16))) _ z (if j = 15 then w else P.2 (j + 1)) ∧ fg_Wk z (if j = 15 then w else P.2 (j + 1))
      by_cases e : j = 15
      · rw [if_pos e]
        refine ⟨?_, X.2.2.2.2⟩
        rw [show ((f + 1) % 16 + j) % 16 = (f + P.1) % 16 by omega]
        exact D.sm (P := fun g => g == 23) (m2 (by decide)) (by simp; omega) (fun k hk => by simp; omega)
      · rw [if_neg e]
        refine ⟨?_, (p5 (j + 1) (by omega)).2⟩
        rw [show ((f + 1) % 16 + j) % 16 = (f + (j + 1)) % 16 by omega]
        exact (old (j + 1) (by omega) (by omega)).sm (P := fun g => g == 23) (m2 (by decide)) (by simp; omega) (fun k hk => by simp; omega)
  · rw [fg_psh_lt (by omega)] at H
    have m2 : ∀ {p : Nat → Bool}, p 23 = true → fg_sm p u (fg_sF u 23 2 (nI (P.1 + 1))) := fun hp => fg_sm_F hp
    refine H _ (mP.tr (m2 (by decide))) ⟨by show P.1 + 1 ≤ 16; omega, f, p2, ?_, rfl, fun j hj => ?_⟩
    · exact (h23 1).trans p3
    · have hj : j < P.1 + 1 := hj
      show fg_DkX (fg_sF u 23 2 (nI (P.1 + 1))) _ z (if j = P.1 then w else P.2 j) ∧ fg_Wk z (if j = P.1 then w else P.2 j)
      by_cases e : j = P.1
      · rw [if_pos e]
        refine ⟨?_, X.2.2.2.2⟩
        rw [e]
        exact D.sm (P := fun g => g == 23) (m2 (by decide)) (by simp; omega) (fun k hk => by simp; omega)
      · rw [if_neg e]
        refine ⟨?_, (p5 j (by omega)).2⟩
        exact (old j (by omega) (by omega)).sm (P := fun g => g == 23) (m2 (by decide)) (by simp; omega) (fun k hk => by simp; omega)
theorem r_PA_giveBack (hz : fg_Zok z) (hP : fg_PaX σ z P) (h0 : 0 < P.1) (H : ∀ u, fg_sm (fun g => g == 23 || (decide (15 ≤ g) && decide (g < 23))) σ u → fg_F u 23 2 = nI (P.1 - 1) → fg_PaX u z (P.1 - 1, P.2) → fg_DkX u 15 z (P.2 (P.1 - 1)) → fg_Wk z (P.2 (P.1 - 1)) → Q 0 u) : fg_Run (d + 2) 23 0 [some (.ref 23), some (.ref 15)] [] σ Q := by
  obtain ⟨p1, f, p2, p3, p4, p5⟩ := hP
  have e1 : fg_F σ 23 2 - 1 = nI (P.1 - 1) := by
    rw [p4]
    exact pk_sub (b := 1) h0
  refine b_PA_giveBack_0 ⟨fun q => absurd q (by rw [p4]; exact nI_nle h0 (by omega)), fun _ => ?_⟩
  rw [e1, p3, nI_add, show (16 : Int32) = nI 16 from rfl, pk_rem (by omega) (by decide) (by decide), nI_clamp (by omega)]
  have mem := fg_dk_59 ((f + (P.1 - 1)) % 16) (by omega)
  refine ⟨vp_in_nI (by omega) (by decide), fg_use (r_DK_become List.mem_cons_self mem (by omega) (fun u m hD => ?_))⟩
  have m0 : ∀ {p : Nat → Bool}, p 23 = true → fg_sm p σ (fg_sF σ 23 2 (nI (P.1 - 1))) := fun hp => fg_sm_F hp
  have D1 : fg_DkX (fg_sF σ 23 2 (nI (P.1 - 1))) (59 + 8 * ((f + (P.1 - 1)) % 16)) z (P.2 (P.1 - 1)) := (p5 (P.1 - 1) (by omega)).1.sm (P := fun g => g == 23) (m0 (by decide)) (by simp; omega) (fun k hk => by simp; omega)
  have h23 := (m.2 23 (fg_pH_no (by omega))).1
  have mm : fg_sm (fun g => g == 23 || (decide (15 ≤ g) && decide (g < 23))) σ u := (m0 (by decide)).tr (m.wk (fun g hg => fg_pH_no (by simp at hg; omega)))
  refine H u mm (h23 2) ⟨by show P.1 - 1 ≤ 16; omega, f, p2, (h23 1).trans p3, h23 2, fun j hj => ?_⟩ (hD z _ hz D1) (p5 (P.1 - 1) (by omega)).2
  have hj : j < P.1 - 1 := hj
  exact ⟨(p5 j (by omega)).1.sm mm (by simp; omega) (fun k hk => by simp; omega), (p5 j (by omega)).2⟩
def fg_unA (P : fg_GP) : Int32 := if P.1 = 0 then -1000000003 else nI (P.1 - 1)
def fg_unP (P : fg_GP) : fg_GP := if P.1 = 0 then P else (P.1 - 1, P.2)
def fg_w61 (a b : Nat → Int32) : Nat → Int32 := fun k => if k < 61 then a k else b k
theorem fg_w61_in {a b : Nat → Int32} : ∀ i, i < 61 → fg_w61 a b i = a i := fun _ h => if_pos h
def fg_unW (P : fg_GP) (w : Nat → Int32) : Nat → Int32 := if P.1 = 0 then w else fg_w61 (P.2 (P.1 - 1)) w
theorem c_FS_undo (h : fg_CI σ z w P I T v s R B) (H : ∀ u, fg_sm fg_pC σ u → fg_CI u z (fg_unW P w) (fg_unP P) I T v s R B → Q (fg_unA P) u) : fg_Run (d + 3) 75 0 [some (.ref 0)] [] σ Q := by
  have hP := h.2.2.1
  have p4 : fg_F σ 23 2 = nI P.1 := hP.2.elim (fun _ q => q.2.2.1)
  have p1 := hP.1
  have z0 : nI P.1 = 0 ↔ P.1 = 0 := nI_eq (b := 0) (by omega) (by decide)
  refine b_FS_undo_0 ?_
  rw [p4, z0]
  refine ⟨fun q => fg_use (r_PA_giveBack h.2.1.2.1 hP (by omega) (fun u m e1 e2 e3 e4 => ?_)), fun q => ?_⟩
  · rw [e1]
    have hz := h.2.1.2.1
    rw [fg_unA, fg_unP, fg_unW, if_neg q, if_neg q, if_neg q] at H
    have mx : fg_sm fg_pC σ u := m.wk (fun g hg => by simp [fg_pC] at hg; simp; omega)
    refine H u mx ?_
    have m1 : fg_CI u z (fg_w61 (P.2 (P.1 - 1)) w) (P.1 - 1, P.2) I T v s R B := by
      obtain ⟨a1, a2, a3, a4, a5, a6, a7, a8, a9⟩ := h
      refine ⟨by rw [m.1.1, m.1.2]; exact a1, ⟨by rw [m.1.1]; exact a2.1, hz, ?_, fg_Dk.w e3 hz fg_w61_in, fg_Wk.w e4 hz fg_w61_in⟩, e2, a4.sm m (fun g _ _ => by simp; omega), a5.sm m (by decide) (by decide), ((m.2 0 (by decide)).1 11).trans a6, ⟨a7.1, ((m.2 0 (by decide)).1 12).trans a7.2⟩, a8.sm m (by decide) (by decide) (by decide), a9.sm m (by decide) (by decide) (by decide)⟩
      rw [m.1.1]
      have h1 := a2.1
      exact a2.2.2.1.sm m (by simp; omega) (by simp; omega) (by simp; omega)
    exact m1
  · rw [fg_unA, fg_unP, fg_unW, if_pos q, if_pos q, if_pos q] at H
    exact H σ fg_sm.rfl' h
end
