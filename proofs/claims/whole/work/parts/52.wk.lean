/-! WHAT HOLDS OF THE ROW WHEN IT CHANGES -/
def fg_WA (z : fg_Z) (w : Nat → Int32) : Prop := (∀ g, g < fg_zf z → (w (30 + g) = 0 ∨ w (30 + g) = 1)) ∧ (∀ g, g < fg_zf z → ∃ n : Nat, w (10 + g) = nI n ∧ n ≤ 5 ∧ (w (30 + g) = 0 → n ≤ 4))
def fg_WB (w : Nat → Int32) : Prop := (∃ n : Nat, n ≤ 9060 ∧ w 60 = nI n) ∧ (∃ n : Nat, n ≤ 2 ∧ w 58 = nI n) ∧ ∃ n : Nat, n ≤ 1 ∧ w 59 = nI n
def fg_WC (z : fg_Z) (w : Nat → Int32) : Prop :=
  (∀ g, g < fg_zf z → (w (20 + g) = -1 ∨ ∃ h : Nat, h < fg_zH z ∧ w (20 + g) = nI h)) ∧
  (∀ k, 1 ≤ k → k ≤ 3 → (w (39 + k) = -1 ∨ ∃ h : Nat, h < fg_zH z ∧ w (39 + k) = nI h)) ∧
  (∀ h, h < 3 → ((w (43 + h) = -1 ∧ ∀ j, j < 4 → w (46 + (4 * h + j)) = -1) ∨ (h < fg_zH z ∧ ∃ e : Nat, e < fg_zs z ∧ w (43 + h) = nI e))) ∧
  (∀ h j, h < 3 → j < 4 → (w (46 + (4 * h + j)) = -1 ∨ (∃ g : Nat, g < fg_zf z ∧ w (46 + (4 * h + j)) = nI g) ∨ ∃ k : Nat, 1 ≤ k ∧ k ≤ 3 ∧ w (46 + (4 * h + j)) = nI (20 + k))) ∧
  (∀ g h, g < fg_zf z → h < 3 → (w (20 + g) = nI h ↔ ∃ j, j < 4 ∧ w (46 + (4 * h + j)) = nI g)) ∧
  ∀ k h, 1 ≤ k → k ≤ 3 → h < 3 → (w (39 + k) = nI h ↔ ∃ j, j < 4 ∧ w (46 + (4 * h + j)) = nI (20 + k))
section
variable {z : fg_Z} {w w' : Nat → Int32}
theorem fg_Wk_mk (a : fg_WA z w) (b : fg_WB w) (c : fg_WC z w) : fg_Wk z w := ⟨a.1, a.2, b, c⟩
theorem fg_Wk.A (W : fg_Wk z w) : fg_WA z w := ⟨W.1, W.2.1⟩
theorem fg_Wk.B (W : fg_Wk z w) : fg_WB w := W.2.2.1
theorem fg_Wk.C (W : fg_Wk z w) : fg_WC z w := W.2.2.2
theorem fg_WA.e (h : fg_WA z w) (e1 : ∀ g, g < fg_zf z → w' (10 + g) = w (10 + g)) (e3 : ∀ g, g < fg_zf z → w' (30 + g) = w (30 + g)) : fg_WA z w' := ⟨fun g hg => by rw [e3 g hg]; exact h.1 g hg, fun g hg => by rw [e3 g hg, e1 g hg]; exact h.2 g hg⟩
theorem fg_WB.e (h : fg_WB w) (e0 : w' 60 = w 60) (e8 : w' 58 = w 58) (e9 : w' 59 = w 59) : fg_WB w' := by
  unfold fg_WB
  rw [e0, e8, e9]
  exact h
theorem fg_WC.e (c : fg_WC z w) (e2 : ∀ g, g < fg_zf z → w' (20 + g) = w (20 + g)) (e4 : ∀ k, 1 ≤ k → k ≤ 3 → w' (39 + k) = w (39 + k)) (e5 : ∀ h, h < 3 → w' (43 + h) = w (43 + h)) (e6 : ∀ q, q < 12 → w' (46 + q) = w (46 + q)) : fg_WC z w' := by
  obtain ⟨d6, d7, d8, d9, d10, d11⟩ := c
  refine ⟨fun g hg => ?_, fun k h1 h3 => ?_, fun h hh => ?_, fun h j hh hj => ?_, fun g h hg hh => ?_, fun k h h1 h3 hh => ?_⟩
  · rw [e2 g hg]; exact d6 g hg
  · rw [e4 k h1 h3]; exact d7 k h1 h3
  · rw [e5 h hh]
    rcases d8 h hh with q | q
    · exact Or.inl ⟨q.1, fun j hj => by rw [e6 _ (by omega)]; exact q.2 j hj⟩
    · exact Or.inr q
  · rw [e6 _ (by omega)]; exact d9 h j hh hj
  · rw [e2 g hg, d10 g h hg hh]
    exact ⟨fun ⟨j, hj, q⟩ => ⟨j, hj, by rw [e6 _ (by omega)]; exact q⟩, fun ⟨j, hj, q⟩ => ⟨j, hj, by rw [e6 _ (by omega)] at q; exact q⟩⟩
  · rw [e4 k h1 h3, d11 k h h1 h3 hh]
    exact ⟨fun ⟨j, hj, q⟩ => ⟨j, hj, by rw [e6 _ (by omega)]; exact q⟩, fun ⟨j, hj, q⟩ => ⟨j, hj, by rw [e6 _ (by omega)] at q; exact q⟩⟩
/-- sewn -/
def fg_wS (w : Nat → Int32) (f : Nat) : Nat → Int32 := fg_ut (fg_ut w (10 + f) 0) (30 + f) 0
theorem fg_wS_n {f k : Nat} (a : k ≠ 10 + f) (b : k ≠ 30 + f) : fg_wS w f k = w k := by rw [fg_wS, fg_ut_n b, fg_ut_n a]
theorem fg_Wk.S (W : fg_Wk z w) (hz : fg_Zok z) {f : Nat} (hf : f < fg_zf z) : fg_Wk z (fg_wS w f) := by
  have h10 := hz.1.2.2.1
  have v1 : fg_wS w f (10 + f) = 0 := by rw [fg_wS, fg_ut_n (by omega), fg_ut_s]
  have v3 : fg_wS w f (30 + f) = 0 := by rw [fg_wS, fg_ut_s]
  refine fg_Wk_mk ⟨fun g hg => ?_, fun g hg => ?_⟩ (W.B.e (fg_wS_n (by omega) (by omega)) (fg_wS_n (by omega) (by omega)) (fg_wS_n (by omega) (by omega))) (W.C.e (fun g hg => fg_wS_n (by omega) (by omega)) (fun k h1 h3 => fg_wS_n (by omega) (by omega)) (fun k h1 => fg_wS_n (by omega) (by omega)) (fun k h1 => fg_wS_n (by omega) (by omega)))
  · by_cases e : g = f
    · left
      rw [e, v3]
    · rw [fg_wS_n (by omega) (by omega)]
      exact W.1 g hg
  · by_cases e : g = f
    · rw [e, v1, v3]
      exact ⟨0, rfl, by omega, fun _ => by omega⟩
    · rw [fg_wS_n (by omega) (by omega), fg_wS_n (by omega) (by omega)]
      exact W.2.1 g hg
/-- a day of one flag, of all -/
def fg_p1 (w : Nat → Int32) (g : Nat) : Nat → Int32 := fg_ut (fg_ut w (10 + g) (w (10 + g) + 1)) (30 + g) (if w (10 + g) + 1 = 5 then 1 else w (30 + g))
def fg_q1 (w : Nat → Int32) (g : Nat) : Nat → Int32 := if w (20 + g) = -1 then w else if w (30 + g) = 0 then fg_p1 w g else w
def fg_dy (w : Nat → Int32) : Nat → Nat → Int32
  | 0 => w
  | n + 1 => fg_q1 (fg_dy w n) n
def fg_wD (z : fg_Z) (w : Nat → Int32) : Nat → Int32 := fg_ut (fg_dy w (fg_zf z)) 60 (fg_dy w (fg_zf z) 60 + 1)
theorem fg_p1_n {g k : Nat} (a : k ≠ 10 + g) (b : k ≠ 30 + g) : fg_p1 w g k = w k := by rw [fg_p1, fg_ut_n b, fg_ut_n a]
theorem fg_q1_n {g k : Nat} (a : k ≠ 10 + g) (b : k ≠ 30 + g) : fg_q1 w g k = w k := by
  unfold fg_q1
  split
  · rfl
  · split
    · exact fg_p1_n a b
    · rfl
theorem fg_Wk.q1 (W : fg_Wk z w) (hz : fg_Zok z) {f : Nat} (hf : f < fg_zf z) : fg_Wk z (fg_q1 w f) := by
  have h10 := hz.1.2.2.1
  unfold fg_q1
  split
  · exact W
  · split
    · rename_i h20 h30
      obtain ⟨n, n1, n2, n3⟩ := W.2.1 f hf
      have n3 := n3 h30
      have v1 : fg_p1 w f (10 + f) = nI (n + 1) := by rw [fg_p1, fg_ut_n (by omega), fg_ut_s, n1, nI_1]
      have e5 : nI (n + 1) = 5 ↔ n + 1 = 5 := nI_eq (b := 5) (by omega) (by decide)
      have v3 : fg_p1 w f (30 + f) = if n + 1 = 5 then 1 else 0 := by
        rw [fg_p1, fg_ut_s, n1, nI_1, h30]
        simp only [e5]
      refine fg_Wk_mk ⟨fun g hg => ?_, fun g hg => ?_⟩ (W.B.e (fg_p1_n (by omega) (by omega)) (fg_p1_n (by omega) (by omega)) (fg_p1_n (by omega) (by omega))) (W.C.e (fun g hg => fg_p1_n (by omega) (by omega)) (fun k h1 h3 => fg_p1_n (by omega) (by omega)) (fun k h1 => fg_p1_n (by omega) (by omega)) (fun k h1 => fg_p1_n (by omega) (by omega)))
      · by_cases e : g = f
        · rw [e, v3]
          by_cases e9 : n + 1 = 5
          · rw [if_pos e9]
            exact Or.inr rfl
          · rw [if_neg e9]
            exact Or.inl rfl
        · rw [fg_p1_n (by omega) (by omega)]
          exact W.1 g hg
      · by_cases e : g = f
        · rw [e, v1, v3]
          by_cases e9 : n + 1 = 5
          · rw [if_pos e9]
            exact ⟨n + 1, rfl, by omega, fun q => absurd q (by decide)⟩
          · exact ⟨n + 1, rfl, by omega, fun _ => by omega⟩
        · rw [fg_p1_n (by omega) (by omega), fg_p1_n (by omega) (by omega)]
          exact W.2.1 g hg
    · exact W
theorem fg_Wk.dy (W : fg_Wk z w) (hz : fg_Zok z) : ∀ n, n ≤ fg_zf z → fg_Wk z (fg_dy w n) := by
  intro n
  induction n with
  | zero => intro _; exact W
  | succ n ih => intro h; exact (ih (by omega)).q1 hz (by omega)
theorem fg_dy_60 : ∀ n, n ≤ 10 → fg_dy w n 60 = w 60 := by
  intro n
  induction n with
  | zero => intro _; rfl
  | succ n ih =>
    intro h
    rw [fg_dy, fg_q1_n (by omega) (by omega)]
    exact ih (by omega)
theorem fg_wD_60 (hz : fg_Zok z) : fg_wD z w 60 = w 60 + 1 := by
  rw [fg_wD, fg_ut_s, fg_dy_60 _ hz.1.2.2.1]
theorem fg_Wk.wD (W : fg_Wk z w) (hz : fg_Zok z) {n : Nat} (h6 : w 60 = nI n) (hn : n < 9060) : fg_Wk z (fg_wD z w) := by
  have h10 := hz.1.2.2.1
  have V := W.dy hz (fg_zf z) (Nat.le_refl _)
  have o : ∀ k, k ≠ 60 → fg_wD z w k = fg_dy w (fg_zf z) k := fun k hk => by rw [fg_wD, fg_ut_n hk]
  refine fg_Wk_mk (V.A.e (fun g hg => o _ (by omega)) (fun g hg => o _ (by omega))) ⟨⟨n + 1, by omega, ?_⟩, ?_, ?_⟩ (V.C.e (fun g hg => o _ (by omega)) (fun k h1 h3 => o _ (by omega)) (fun k h1 => o _ (by omega)) (fun k h1 => o _ (by omega)))
  · rw [fg_wD_60 hz, h6, nI_1]
  · rw [o _ (by omega)]
    exact V.B.2.1
  · rw [o _ (by omega)]
    exact V.B.2.2
/-- weather -/
theorem fg_Wk.hw (W : fg_Wk z w) (hz : fg_Zok z) {a b : Nat} (ha : a ≤ 2) (hb : b ≤ 1) : fg_Wk z (fg_ut (fg_ut w 58 (nI a)) 59 (nI b)) := by
  have h10 := hz.1.2.2.1
  have o : ∀ k, k ≠ 58 → k ≠ 59 → fg_ut (fg_ut w 58 (nI a)) 59 (nI b) k = w k := fun k h1 h2 => by rw [fg_ut_n h2, fg_ut_n h1]
  refine fg_Wk_mk (W.A.e (fun g hg => o _ (by omega) (by omega)) (fun g hg => o _ (by omega) (by omega))) ⟨?_, ⟨a, ha, ?_⟩, ⟨b, hb, ?_⟩⟩ (W.C.e (fun g hg => o _ (by omega) (by omega)) (fun k h1 h3 => o _ (by omega) (by omega)) (fun k h1 => o _ (by omega) (by omega)) (fun k h1 => o _ (by omega) (by omega)))
  · rw [o _ (by omega) (by omega)]
    exact W.B.1
  · rw [fg_ut_n (by omega), fg_ut_s]
  · rw [fg_ut_s]
/-- a pattern -/
theorem fg_Wk.pt (W : fg_Wk z w) (hz : fg_Zok z) {f : Nat} {x : Int32} (hf : f < fg_zf z) : fg_Wk z (fg_ut w f x) := by
  have h10 := hz.1.2.2.1
  have o : ∀ k, 10 ≤ k → fg_ut w f x k = w k := fun k h1 => fg_ut_n (by omega)
  exact fg_Wk_mk (W.A.e (fun g hg => o _ (by omega)) (fun g hg => o _ (by omega))) (W.B.e (o _ (by omega)) (o _ (by omega)) (o _ (by omega))) (W.C.e (fun g hg => o _ (by omega)) (fun k h1 h3 => o _ (by omega)) (fun k h1 => o _ (by omega)) (fun k h1 => o _ (by omega)))
end
