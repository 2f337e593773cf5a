/-! HOW SIGNALS LOOK: the reference -/
/-- which flags are torn -/
def fg_tn (z : fg_Z) (w : Nat → Int32) : Nat := fg_set (fun g => decide (w (30 + g) = 1)) (fg_zf z)
/-- the class's state and the row that it stands for -/
def fg_XI (σ : fg_St) (z : fg_Z) (w : Nat → Int32) : Prop := (σ.1 = 3 ∨ σ.1 = 9) ∧ fg_Zok z ∧ fg_ShX σ σ.1 z ∧ fg_DkX σ 15 z w ∧ fg_Wk z w
/-- the rows' patterns are such -/
def fg_Pt (z : fg_Z) (w : Nat → Int32) : Prop := ∀ g, g < fg_zf z → ∃ k a b : Nat, (k ≤ 3 ∧ a ≤ 4 ∧ b ≤ 4) ∧ w g = nI (100 * k + 10 * a + b)
def fg_Wk0 (z : fg_Z) (w : Nat → Int32) : Prop := ∀ g, g < fg_zf z → (w (30 + g) = 0 ∨ w (30 + g) = 1)
def fg_MI (σ : fg_St) (z : fg_Z) : Prop := fg_Zok z ∧ fg_ShM σ z ∧ fg_Wk0 z (fg_R σ 191) ∧ fg_Pt z (fg_R σ 191)
def fg_pX (g : Nat) : Bool := g == 31 || g == 32 || g == 33 || g == 34 || g == 35 || g == 36 || g == 38 || g == 39 || g == 40
def fg_pM (g : Nat) : Bool := g == 196 || g == 197 || g == 198 || g == 199 || g == 200 || g == 203
theorem fg_shpX {h : Nat} (Sh : h = 3 ∨ h = 9) : fg_pX h = false ∧ fg_pX (h + 4) = false ∧ fg_pX (h + 5) = false := by rcases Sh with rfl | rfl <;> decide
theorem fg_XI.sm {σ u : fg_St} {z : fg_Z} {w : Nat → Int32} (h : fg_XI σ z w) (s : fg_sm fg_pX σ u) : fg_XI u z w := by
  obtain ⟨h1, h2, h3, h4, h5⟩ := h
  have sp := fg_shpX h1
  refine ⟨by rw [s.1.1]; exact h1, h2, by rw [s.1.1]; exact h3.sm s sp.1 sp.2.1 sp.2.2, h4.sm s (by decide) (fun k hk => ?_), h5⟩
  have : ∀ k, k < 7 → fg_pX (15 + 1 + k) = false := by decide
  exact this k hk
theorem fg_MI.sm {σ u : fg_St} {z : fg_Z} (h : fg_MI σ z) (s : fg_sm fg_pM σ u) : fg_MI u z := by
  obtain ⟨h1, h2, h3, h4⟩ := h
  have e := (s.2 191 (by decide)).2
  have e2 : fg_R u 191 = fg_R σ 191 := funext e
  exact ⟨h1, h2.sm s (by decide) (by decide) (by decide), by rw [e2]; exact h3, by rw [e2]; exact h4⟩
theorem fg_pWX : ∀ g, fg_pX g = false → fg_pW g = false := by
  intro g h
  unfold fg_pX at h
  unfold fg_pW
  simp only [Bool.or_eq_false_iff] at h ⊢
  exact ⟨⟨⟨h.1.1.1.1.1.1.1.1, h.1.1.1.1.1.1.1.2⟩, h.1.1.1.1.1.1.2⟩, h.1.1.1.1.1.2⟩
theorem fg_pSX : ∀ g, fg_pX g = false → fg_pS g = false := by
  intro g h
  unfold fg_pX at h
  unfold fg_pS
  simp only [Bool.or_eq_false_iff] at h ⊢
  exact ⟨h.1.1.1.1.2, h.1.1.1.2⟩
theorem fg_pRM : ∀ g, fg_pM g = false → fg_pR g = false := by
  intro g h
  unfold fg_pM at h
  unfold fg_pR
  simp only [Bool.or_eq_false_iff] at h
  exact h.1.1.1.1.1
section
variable {d : Nat} {Q : Int32 → fg_St → Prop} {z : fg_Z} {w : Nat → Int32}
/-- the class's watch, with its rows and looks -/
def fg_Wt3 (z : fg_Z) (s : Nat × Nat) (lf : Nat → Nat) (u : fg_St) : Prop := fg_Wt2 z s lf u ∧ (∀ e j, e < fg_zs z → j < 4 → fg_R u 34 (e * 4 + j) = fg_pi (fg_rx z s e j)) ∧ ∀ g, g < fg_zf z → fg_R u 35 g = nI (lf g)
theorem fg_tn_lt (hz : fg_Zok z) : fg_tn z w < 1024 := Nat.lt_of_lt_of_le (fg_set_lt _ _) (fg_p10 hz.1.2.2.1)
theorem r_FS_watchIn {σ : fg_St} {hz wd : Nat} (hX : fg_XI σ z w) (hh : hz ≤ 2) (hw : wd ≤ 1) (H : ∀ u, fg_sm fg_pX σ u → fg_Wt3 z (fg_s0 z (fg_tn z w)) (fg_lw w hz wd) u → Q 0 u) : fg_Run (d + 4) 95 0 [some (.ref 0), some (.int (nI (2 * hz + wd)))] [] σ Q := by
  obtain ⟨h1, h2, h3, h4, h5⟩ := id hX
  have ht := fg_tn_lt (w := w) h2
  refine b_FS_watchIn_0 ?_
  have h7 : fg_F σ 15 7 = nI (fg_tn z w) := h4.2.2.1
  rw [h7]
  refine fg_use (r_WA_raiseAll h1 h2 h3 (by omega) (fun u hsu huf hrow => ?_))
  have hX2 := hX.sm (hsu.wk fg_pWX)
  obtain ⟨g1, g2, g3, g4, g5⟩ := id hX2
  refine fg_use (r_WA_see g1 g2 g3 g4 hh hw huf hrow (fun v hsv hlk hsg => ?_))
  refine H v ((hsu.wk fg_pWX).tr (hsv.wk fg_pSX)) ⟨⟨((hsv.2 33 (by decide)).1 3).trans huf, hsg⟩, fun e j he hj => ((hsv.2 34 (by decide)).2 _).trans (hrow e j he hj), hlk⟩
theorem r_FS_clearNow {σ : fg_St} {hz wd : Nat} (hX : fg_XI σ z w) (hh : hz ≤ 2) (hw : wd ≤ 1) (e1 : w 58 = nI hz) (e2 : w 59 = nI wd) (H : ∀ u, fg_sm fg_pX σ u → Q (nI (fg_set (fg_clr z (fg_s0 z (fg_tn z w)) (fg_lw w hz wd)) (fg_zs z))) u) : fg_Run (d + 5) 96 0 [some (.ref 0)] [] σ Q := by
  have h5 := hX.2.2.2.1.2.2.2.2.1
  have f10 : fg_F σ 15 10 = nI hz := h5.2.1.trans e1
  have f11 : fg_F σ 15 11 = nI wd := h5.2.2.trans e2
  refine b_FS_clearNow_0 (fg_use (b_DK_weatherNumber_0 ?_))
  rw [f10, f11, show (2 : Int32) * nI hz + nI wd = nI (2 * hz + wd) by rw [show (2 : Int32) = nI 2 from rfl, pk_mul, nI_add]]
  refine fg_use (r_FS_watchIn hX hh hw (fun u hsu hw3 => ?_))
  obtain ⟨g1, g2, g3, g4, g5⟩ := hX.sm hsu
  exact fg_use (r_WA_clearOnes g1 g2 g3 (fg_lw_lt g4) hw3.1 (H u hsu))
end
