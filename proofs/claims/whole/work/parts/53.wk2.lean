/-! WHAT HOLDS OF THE ROW: hoisted, hauled down -/
def fg_ru (r : Nat → Nat) (v : Nat) : Nat → Bool
  | 0 => false
  | n + 1 => fg_ru r v n || r n == v
theorem fg_ru_t {r : Nat → Nat} {v : Nat} : ∀ n, fg_ru r v n = true ↔ ∃ j, j < n ∧ r j = v := by
  intro n
  induction n with
  | zero => simp [fg_ru]
  | succ n ih =>
    rw [fg_ru, Bool.or_eq_true, ih, beq_iff_eq]
    constructor
    · rintro (⟨j, hj, e⟩ | e)
      · exact ⟨j, by omega, e⟩
      · exact ⟨n, by omega, e⟩
    · rintro ⟨j, hj, e⟩
      by_cases h : j = n
      · exact Or.inr (h ▸ e)
      · exact Or.inl ⟨j, by omega, e⟩
theorem fg_pi_eq {p g : Nat} (hp : p < 2 ^ 31) (hg : g < 99) : fg_pi p = nI g ↔ p = g := by
  unfold fg_pi
  by_cases e : p = 99
  · rw [if_pos e]
    exact ⟨fun q => absurd q.symm (fg_nm1 (by omega)), fun q => absurd q (by omega)⟩
  · rw [if_neg e]
    exact nI_eq hp (by omega)
def fg_h1 (W : Nat → Int32) (h p i : Nat) : Nat → Int32 := if p = 99 then fg_ut W (46 + (4 * h + i)) (-1) else if p < 20 then fg_ut (fg_ut W (46 + (4 * h + i)) (nI p)) (20 + p) (nI h) else fg_ut (fg_ut W (46 + (4 * h + i)) (nI p)) (39 + (p - 20)) (nI h)
def fg_hw (w : Nat → Int32) (h : Nat) (r : Nat → Nat) : Nat → Nat → Int32
  | 0 => w
  | i + 1 => fg_h1 (fg_hw w h r i) h (r i) i
/-- what a place of a row may be -/
def fg_pok (z : fg_Z) (p : Nat) : Prop := p = 99 ∨ p < fg_zf z ∨ (21 ≤ p ∧ p ≤ 23)
section
variable {z : fg_Z} {w W : Nat → Int32} {h p i k : Nat} {r : Nat → Nat}
theorem fg_h1_n (hz : fg_Zok z) (hp : fg_pok z p) (a : k ≠ 46 + (4 * h + i)) (b : p < fg_zf z → k ≠ 20 + p) (c : 21 ≤ p → p ≤ 23 → k ≠ 39 + (p - 20)) : fg_h1 W h p i k = W k := by
  have h10 := hz.1.2.2.1
  unfold fg_h1
  rcases hp with e | e | e
  · rw [if_pos e, fg_ut_n a]
  · rw [if_neg (by omega), if_pos (by omega), fg_ut_n (b e), fg_ut_n a]
  · rw [if_neg (by omega), if_neg (by omega), fg_ut_n (c e.1 e.2), fg_ut_n a]
theorem fg_h1_p (hz : fg_Zok z) (hp : fg_pok z p) : fg_h1 W h p i (46 + (4 * h + i)) = fg_pi p := by
  have h10 := hz.1.2.2.1
  unfold fg_h1 fg_pi
  rcases hp with e | e | e
  · rw [if_pos e, if_pos e, fg_ut_s]
  · rw [if_neg (by omega), if_pos (by omega), if_neg (by omega), fg_ut_n (by omega), fg_ut_s]
  · rw [if_neg (by omega), if_neg (by omega), if_neg (by omega), fg_ut_n (by omega), fg_ut_s]
theorem fg_h1_f (hz : fg_Zok z) (hp : p < fg_zf z) : fg_h1 W h p i (20 + p) = nI h := by
  have h10 := hz.1.2.2.1
  unfold fg_h1
  rw [if_neg (by omega), if_pos (by omega), fg_ut_s]
theorem fg_h1_s (hp : 21 ≤ p ∧ p ≤ 23) : fg_h1 W h p i (39 + (p - 20)) = nI h := by
  unfold fg_h1
  rw [if_neg (by omega), if_neg (by omega), fg_ut_s]
theorem fg_hw_o (hz : fg_Zok z) (hr : ∀ j, j < 4 → fg_pok z (r j)) (hh : h < 3) : ∀ i, i ≤ 4 → ∀ k, (k < 20 ∨ (30 ≤ k ∧ k < 40) ∨ (43 ≤ k ∧ k < 46) ∨ 58 ≤ k) → fg_hw w h r i k = w k := by
  have h10 := hz.1.2.2.1
  intro i
  induction i with
  | zero => intro _ k _; rfl
  | succ i ih =>
    intro hi k hk
    rw [fg_hw, fg_h1_n hz (hr i (by omega)) (by omega) (fun _ => by omega) (fun _ _ => by omega)]
    exact ih (by omega) k hk
theorem fg_hw_20 (hz : fg_Zok z) (hr : ∀ j, j < 4 → fg_pok z (r j)) (hh : h < 3) {g : Nat} (hg : g < fg_zf z) : ∀ i, i ≤ 4 → fg_hw w h r i (20 + g) = if fg_ru r g i = true then nI h else w (20 + g) := by
  have h10 := hz.1.2.2.1
  intro i
  induction i with
  | zero => intro _; rfl
  | succ i ih =>
    intro hi
    by_cases e : r i = g
    · rw [fg_hw, e, fg_h1_f hz hg, if_pos (by simp [fg_ru, e])]
    · rw [fg_hw, fg_h1_n hz (hr i (by omega)) (by omega) (fun _ => by omega) (fun _ _ => by omega), ih (by omega)]
      have : fg_ru r g (i + 1) = fg_ru r g i := by simp [fg_ru, e]
      rw [this]
theorem fg_hw_39 (hz : fg_Zok z) (hr : ∀ j, j < 4 → fg_pok z (r j)) (hh : h < 3) {s : Nat} (h1 : 1 ≤ s) (h3 : s ≤ 3) : ∀ i, i ≤ 4 → fg_hw w h r i (39 + s) = if fg_ru r (20 + s) i = true then nI h else w (39 + s) := by
  have h10 := hz.1.2.2.1
  intro i
  induction i with
  | zero => intro _; rfl
  | succ i ih =>
    intro hi
    by_cases e : r i = 20 + s
    · have := fg_h1_s (W := fg_hw w h r i) (h := h) (p := 20 + s) (i := i) (by omega)
      rw [show 39 + (20 + s - 20) = 39 + s by omega] at this
      rw [fg_hw, e, this, if_pos (by simp [fg_ru, e])]
    · rw [fg_hw, fg_h1_n hz (hr i (by omega)) (by omega) (fun _ => by omega) (fun _ _ => by omega), ih (by omega)]
      have : fg_ru r (20 + s) (i + 1) = fg_ru r (20 + s) i := by simp [fg_ru, e]
      rw [this]
theorem fg_hw_46 (hz : fg_Zok z) (hr : ∀ j, j < 4 → fg_pok z (r j)) (hh : h < 3) {h' j : Nat} (hj : j < 4) : ∀ i, i ≤ 4 → fg_hw w h r i (46 + (4 * h' + j)) = if h' = h ∧ j < i then fg_pi (r j) else w (46 + (4 * h' + j)) := by
  have h10 := hz.1.2.2.1
  intro i
  induction i with
  | zero => intro _; rw [if_neg (by omega)]; rfl
  | succ i ih =>
    intro hi
    by_cases e : h' = h ∧ j = i
    · rw [fg_hw, e.1, e.2, fg_h1_p hz (hr i (by omega)), if_pos ⟨rfl, by omega⟩]
    · rw [fg_hw, fg_h1_n hz (hr i (by omega)) (by omega) (fun _ => by omega) (fun _ _ => by omega), ih (by omega)]
      by_cases e2 : h' = h ∧ j < i
      · rw [if_pos e2, if_pos (by omega)]
      · rw [if_neg e2, if_neg (by omega)]
theorem fg_hw_ut (hz : fg_Zok z) (hr : ∀ j, j < 4 → fg_pok z (r j)) (hh : h < 3) {x : Int32} : ∀ i, i ≤ 4 → fg_hw (fg_ut w (43 + h) x) h r i = fg_ut (fg_hw w h r i) (43 + h) x := by
  have h10 := hz.1.2.2.1
  intro i
  induction i with
  | zero => intro _; rfl
  | succ i ih =>
    intro hi
    rw [fg_hw, fg_hw, ih (by omega)]
    unfold fg_h1
    rcases hr i (by omega) with e | e | e
    · rw [if_pos e, if_pos e, fg_ut_c (by omega)]
    · rw [if_neg (by omega), if_pos (by omega), if_neg (by omega), if_pos (by omega), fg_ut_c (a := 43 + h) (by omega), fg_ut_c (a := 43 + h) (by omega)]
    · rw [if_neg (by omega), if_neg (by omega), if_neg (by omega), if_neg (by omega), fg_ut_c (a := 43 + h) (by omega), fg_ut_c (a := 43 + h) (by omega)]
/-- hoisted -/
def fg_wH (z : fg_Z) (w : Nat → Int32) (h e : Nat) : Nat → Int32 := fg_ut (fg_hw w h (fg_rx z (fg_sf z w) e) 4) (43 + h) (nI e)
theorem fg_rx_fr (hz : fg_Zok z) {e : Nat} (he : e < fg_zs z) (j : Nat) : fg_rx z (fg_sf z w) e j = 99 ∨ (fg_rx z (fg_sf z w) e j < fg_zf z ∧ w (20 + fg_rx z (fg_sf z w) e j) = -1) ∨ ((21 ≤ fg_rx z (fg_sf z w) e j ∧ fg_rx z (fg_sf z w) e j ≤ 23) ∧ w (39 + (fg_rx z (fg_sf z w) e j - 20)) = -1) := by
  have hl := hz.2.1 e he
  have sl := fg_sf_lt (w := w) hz
  unfold fg_rx
  split
  · rename_i h
    simp only [Bool.and_eq_true, decide_eq_true_eq] at h
    obtain ⟨hu, hj⟩ := h
    obtain ⟨t, ht⟩ := fg_tk_some hu (Nat.le_of_lt hj)
    obtain ⟨s1, s2⟩ := fg_tk_sub (by omega) (by omega) (Nat.le_of_lt hj) ht
    have hrw : fg_rw z e (fg_sf z w) j = fg_pce z e t.1 t.2 j := by unfold fg_rw; rw [ht]
    rw [hrw]
    unfold fg_pce
    split
    · rename_i b
      right
      left
      have b2 := s1 _ b
      have b2 : (fg_set (fg_fre w) (fg_zf z)).testBit (fg_zr z e j) = true := b2
      rw [fg_set_bit] at b2
      simp only [Bool.and_eq_true, decide_eq_true_eq, fg_fre] at b2
      exact ⟨b2.1, b2.2.1⟩
    · split
      · exact Or.inl rfl
      · rename_i a0
        right
        right
        obtain ⟨q1, q2, q3, _⟩ := fg_alf_s j 1 (by omega) a0
        have b2 := s2 _ q3
        have b2 : (fg_set (fg_frs w) (fg_zN z + 1)).testBit (fg_alf z e t.2 j j 1) = true := b2
        rw [fg_set_bit] at b2
        simp only [Bool.and_eq_true, decide_eq_true_eq, fg_frs] at b2
        refine ⟨by omega, ?_⟩
        rw [show 20 + fg_alf z e t.2 j j 1 - 20 = fg_alf z e t.2 j j 1 by omega]
        exact b2.2.2
  · exact Or.inl rfl
theorem fg_rx_ok (hz : fg_Zok z) {e : Nat} (he : e < fg_zs z) : ∀ j, j < 4 → fg_pok z (fg_rx z (fg_sf z w) e j) := fun j _ => by
  rcases fg_rx_fr (w := w) hz he j with q | q | q
  · exact Or.inl q
  · exact Or.inr (Or.inl q.1)
  · exact Or.inr (Or.inr q.1)
theorem fg_Wk.H (V : fg_Wk z w) (hz : fg_Zok z) {e : Nat} (hh : h < fg_zH z) (he : e < fg_zs z) (h43 : w (43 + h) = -1) : fg_Wk z (fg_wH z w h e) := by
  have h10 := hz.1.2.2.1
  have h3 := hz.1.1
  have hs := hz.1.2.2.2
  have fr := fg_rx_fr (w := w) hz he
  have ok := fg_rx_ok (w := w) hz he
  have vo : ∀ k, (k < 20 ∨ (30 ≤ k ∧ k < 40) ∨ 58 ≤ k) → fg_wH z w h e k = w k := fun k hk => by
    rw [fg_wH, fg_ut_n (by omega), fg_hw_o hz ok (by omega) 4 (by omega) k (by omega)]
  have v43 : ∀ h', h' < 3 → fg_wH z w h e (43 + h') = if h' = h then nI e else w (43 + h') := fun h' hh' => by
    by_cases q : h' = h
    · rw [if_pos q, q, fg_wH, fg_ut_s]
    · rw [if_neg q, fg_wH, fg_ut_n (by omega), fg_hw_o hz ok (by omega) 4 (by omega) _ (by omega)]
  have v20 : ∀ g, g < fg_zf z → fg_wH z w h e (20 + g) = if fg_ru (fg_rx z (fg_sf z w) e) g 4 = true then nI h else w (20 + g) := fun g hg => by
    rw [fg_wH, fg_ut_n (by omega), fg_hw_20 hz ok (by omega) hg 4 (by omega)]
  have v39 : ∀ k, 1 ≤ k → k ≤ 3 → fg_wH z w h e (39 + k) = if fg_ru (fg_rx z (fg_sf z w) e) (20 + k) 4 = true then nI h else w (39 + k) := fun k k1 k3 => by
    rw [fg_wH, fg_ut_n (by omega), fg_hw_39 hz ok (by omega) k1 k3 4 (by omega)]
  have v46 : ∀ h' j, h' < 3 → j < 4 → fg_wH z w h e (46 + (4 * h' + j)) = if h' = h then fg_pi (fg_rx z (fg_sf z w) e j) else w (46 + (4 * h' + j)) := fun h' j hh' hj => by
    rw [fg_wH, fg_ut_n (by omega), fg_hw_46 hz ok (by omega) hj 4 (by omega)]
    by_cases q : h' = h
    · rw [if_pos q, if_pos ⟨q, hj⟩]
    · rw [if_neg q, if_neg (fun x => q x.1)]
  generalize fg_wH z w h e = w' at vo v43 v20 v39 v46 ⊢
  generalize fg_rx z (fg_sf z w) e = r at fr ok v20 v39 v46
  obtain ⟨d6, d7, d8, d9, d10, d11⟩ := V.C
  have emp : ∀ j, j < 4 → w (46 + (4 * h + j)) = -1 := by
    rcases d8 h (by omega) with q | ⟨_, e0, q1, q2⟩
    · exact q.2
    · exact absurd (q2.symm.trans h43) (fg_nm1 (by omega))
  have rlt : ∀ j, j < 4 → r j < 2 ^ 31 := fun j hj => by
    rcases ok j hj with q | q | q <;> omega
  refine fg_Wk_mk (V.A.e (fun g hg => vo _ (by omega)) (fun g hg => vo _ (by omega))) (V.B.e (vo _ (by omega)) (vo _ (by omega)) (vo _ (by omega))) ⟨fun g hg => ?_, fun k k1 k3 => ?_, fun h' hh' => ?_, fun h' j hh' hj => ?_, fun g h' hg hh' => ?_, fun k h' k1 k3 hh' => ?_⟩
  · rw [v20 g hg]
    split
    · exact Or.inr ⟨h, hh, rfl⟩
    · exact d6 g hg
  · rw [v39 k k1 k3]
    split
    · exact Or.inr ⟨h, hh, rfl⟩
    · exact d7 k k1 k3
  · rw [v43 h' hh']
    by_cases q : h' = h
    · rw [if_pos q]
      exact Or.inr ⟨by omega, e, he, rfl⟩
    · rw [if_neg q]
      rcases d8 h' hh' with x | x
      · exact Or.inl ⟨x.1, fun j hj => by rw [v46 h' j hh' hj, if_neg q]; exact x.2 j hj⟩
      · exact Or.inr x
  · rw [v46 h' j hh' hj]
    by_cases q : h' = h
    · rw [if_pos q]
      unfold fg_pi
      rcases ok j hj with x | x | x
      · rw [if_pos x]
        exact Or.inl rfl
      · rw [if_neg (by omega)]
        exact Or.inr (Or.inl ⟨r j, x, rfl⟩)
      · rw [if_neg (by omega)]
        refine Or.inr (Or.inr ⟨r j - 20, by omega, by omega, ?_⟩)
        congr 1
        omega
    · rw [if_neg q]
      exact d9 h' j hh' hj
  · rw [v20 g hg]
    by_cases q : h' = h
    · subst q
      by_cases u : fg_ru r g 4 = true
      · rw [if_pos u]
        obtain ⟨j, hj, ej⟩ := (fg_ru_t 4).mp u
        exact ⟨fun _ => ⟨j, hj, by rw [v46 h' j hh' hj, if_pos rfl, ej]; exact (fg_pi_eq (by omega) (by omega)).mpr rfl⟩, fun _ => rfl⟩
      · rw [if_neg u]
        constructor
        · intro x
          obtain ⟨j, hj, ej⟩ := (d10 g h' hg hh').mp x
          exact absurd (ej.symm.trans (emp j hj)) (fg_nm1 (by omega))
        · rintro ⟨j, hj, ej⟩
          rw [v46 h' j hh' hj, if_pos rfl] at ej
          exact absurd ((fg_ru_t 4).mpr ⟨j, hj, (fg_pi_eq (rlt j hj) (by omega)).mp ej⟩) u
    · have R : (∃ j, j < 4 ∧ w' (46 + (4 * h' + j)) = nI g) ↔ w (20 + g) = nI h' := by
        rw [d10 g h' hg hh']
        exact ⟨fun ⟨j, hj, x⟩ => ⟨j, hj, by rw [v46 h' j hh' hj, if_neg q] at x; exact x⟩, fun ⟨j, hj, x⟩ => ⟨j, hj, by rw [v46 h' j hh' hj, if_neg q]; exact x⟩⟩
      rw [R]
      by_cases u : fg_ru r g 4 = true
      · rw [if_pos u]
        obtain ⟨j, hj, ej⟩ := (fg_ru_t 4).mp u
        have f1 : w (20 + g) = -1 := by
          rcases fr j with x | x | x
          · omega
          · rw [← ej]; exact x.2
          · omega
        rw [f1]
        exact ⟨fun x => absurd ((nI_eq (by omega) (by omega)).mp x).symm q, fun x => absurd x.symm (fg_nm1 (by omega))⟩
      · rw [if_neg u]
  · rw [v39 k k1 k3]
    by_cases q : h' = h
    · subst q
      by_cases u : fg_ru r (20 + k) 4 = true
      · rw [if_pos u]
        obtain ⟨j, hj, ej⟩ := (fg_ru_t 4).mp u
        exact ⟨fun _ => ⟨j, hj, by rw [v46 h' j hh' hj, if_pos rfl, ej]; exact (fg_pi_eq (by omega) (by omega)).mpr rfl⟩, fun _ => rfl⟩
      · rw [if_neg u]
        constructor
        · intro x
          obtain ⟨j, hj, ej⟩ := (d11 k h' k1 k3 hh').mp x
          exact absurd (ej.symm.trans (emp j hj)) (fg_nm1 (by omega))
        · rintro ⟨j, hj, ej⟩
          rw [v46 h' j hh' hj, if_pos rfl] at ej
          exact absurd ((fg_ru_t 4).mpr ⟨j, hj, (fg_pi_eq (rlt j hj) (by omega)).mp ej⟩) u
    · have R : (∃ j, j < 4 ∧ w' (46 + (4 * h' + j)) = nI (20 + k)) ↔ w (39 + k) = nI h' := by
        rw [d11 k h' k1 k3 hh']
        exact ⟨fun ⟨j, hj, x⟩ => ⟨j, hj, by rw [v46 h' j hh' hj, if_neg q] at x; exact x⟩, fun ⟨j, hj, x⟩ => ⟨j, hj, by rw [v46 h' j hh' hj, if_neg q]; exact x⟩⟩
      rw [R]
      by_cases u : fg_ru r (20 + k) 4 = true
      · rw [if_pos u]
        obtain ⟨j, hj, ej⟩ := (fg_ru_t 4).mp u
        have f1 : w (39 + k) = -1 := by
          rcases fr j with x | x | x
          · omega
          · omega
          · have := x.2
            rw [ej, show 20 + k - 20 = k by omega] at this
            exact this
        rw [f1]
        exact ⟨fun x => absurd ((nI_eq (by omega) (by omega)).mp x).symm q, fun x => absurd x.symm (fg_nm1 (by omega))⟩
      · rw [if_neg u]
/-- hauled down: as far as the reference has come -/
def fg_lg (w : Nat → Int32) (h a b c : Nat) : Nat → Int32 := fun k => if k = 43 + h ∨ (46 + 4 * h ≤ k ∧ k < 46 + 4 * h + a) then -1 else if ((20 ≤ k ∧ k < 20 + b) ∨ (40 ≤ k ∧ k < 40 + c)) ∧ w k = nI h then -1 else w k
def fg_wL (w : Nat → Int32) (h : Nat) : Nat → Int32 := fg_lg w h 4 10 3
theorem fg_Wk.L (V : fg_Wk z w) (hz : fg_Zok z) (hh : h < fg_zH z) : fg_Wk z (fg_wL w h) := by
  have h10 := hz.1.2.2.1
  have h3 := hz.1.1
  have hs := hz.1.2.2.2
  have vo : ∀ k, (k < 20 ∨ (30 ≤ k ∧ k < 40) ∨ 58 ≤ k) → fg_wL w h k = w k := fun k hk => by
    unfold fg_wL fg_lg
    rw [if_neg (by omega), if_neg (by omega)]
  have v43 : ∀ h', h' < 3 → fg_wL w h (43 + h') = if h' = h then -1 else w (43 + h') := fun h' hh' => by
    unfold fg_wL fg_lg
    by_cases q : h' = h
    · rw [if_pos (by omega), if_pos q]
    · rw [if_neg (by omega), if_neg (by omega), if_neg q]
  have v20 : ∀ g, g < fg_zf z → fg_wL w h (20 + g) = if w (20 + g) = nI h then -1 else w (20 + g) := fun g hg => by
    unfold fg_wL fg_lg
    rw [if_neg (by omega)]
    by_cases q : w (20 + g) = nI h
    · rw [if_pos ⟨by omega, q⟩, if_pos q]
    · rw [if_neg (fun x => q x.2), if_neg q]
  have v39 : ∀ k, 1 ≤ k → k ≤ 3 → fg_wL w h (39 + k) = if w (39 + k) = nI h then -1 else w (39 + k) := fun k k1 k3 => by
    unfold fg_wL fg_lg
    rw [if_neg (by omega)]
    by_cases q : w (39 + k) = nI h
    · rw [if_pos ⟨by omega, q⟩, if_pos q]
    · rw [if_neg (fun x => q x.2), if_neg q]
  have v46 : ∀ h' j, h' < 3 → j < 4 → fg_wL w h (46 + (4 * h' + j)) = if h' = h then -1 else w (46 + (4 * h' + j)) := fun h' j hh' hj => by
    unfold fg_wL fg_lg
    by_cases q : h' = h
    · rw [if_pos (by omega), if_pos q]
    · rw [if_neg (by omega), if_neg (by omega), if_neg q]
  generalize fg_wL w h = w' at vo v43 v20 v39 v46 ⊢
  obtain ⟨d6, d7, d8, d9, d10, d11⟩ := V.C
  refine fg_Wk_mk (V.A.e (fun g hg => vo _ (by omega)) (fun g hg => vo _ (by omega))) (V.B.e (vo _ (by omega)) (vo _ (by omega)) (vo _ (by omega))) ⟨fun g hg => ?_, fun k k1 k3 => ?_, fun h' hh' => ?_, fun h' j hh' hj => ?_, fun g h' hg hh' => ?_, fun k h' k1 k3 hh' => ?_⟩
  · rw [v20 g hg]
    split
    · exact Or.inl rfl
    · exact d6 g hg
  · rw [v39 k k1 k3]
    split
    · exact Or.inl rfl
    · exact d7 k k1 k3
  · rw [v43 h' hh']
    by_cases q : h' = h
    · rw [if_pos q]
      exact Or.inl ⟨rfl, fun j hj => by rw [v46 h' j hh' hj, if_pos q]⟩
    · rw [if_neg q]
      rcases d8 h' hh' with x | x
      · exact Or.inl ⟨x.1, fun j hj => by rw [v46 h' j hh' hj, if_neg q]; exact x.2 j hj⟩
      · exact Or.inr x
  · rw [v46 h' j hh' hj]
    by_cases q : h' = h
    · rw [if_pos q]
      exact Or.inl rfl
    · rw [if_neg q]
      exact d9 h' j hh' hj
  · rw [v20 g hg]
    by_cases q : h' = h
    · subst q
      constructor
      · intro x
        split at x
        · exact absurd x.symm (fg_nm1 (by omega))
        · rename_i y
          exact absurd x y
      · rintro ⟨j, hj, ej⟩
        rw [v46 h' j hh' hj, if_pos rfl] at ej
        exact absurd ej.symm (fg_nm1 (by omega))
    · have R : (∃ j, j < 4 ∧ w' (46 + (4 * h' + j)) = nI g) ↔ w (20 + g) = nI h' := by
        rw [d10 g h' hg hh']
        exact ⟨fun ⟨j, hj, x⟩ => ⟨j, hj, by rw [v46 h' j hh' hj, if_neg q] at x; exact x⟩, fun ⟨j, hj, x⟩ => ⟨j, hj, by rw [v46 h' j hh' hj, if_neg q]; exact x⟩⟩
      rw [R]
      by_cases u : w (20 + g) = nI h
      · rw [if_pos u, u]
        exact ⟨fun x => absurd x.symm (fg_nm1 (by omega)), fun x => absurd ((nI_eq (by omega) (by omega)).mp x).symm q⟩
      · rw [if_neg u]
  · rw [v39 k k1 k3]
    by_cases q : h' = h
    · subst q
      constructor
      · intro x
        split at x
        · exact absurd x.symm (fg_nm1 (by omega))
        · rename_i y
          exact absurd x y
      · rintro ⟨j, hj, ej⟩
        rw [v46 h' j hh' hj, if_pos rfl] at ej
        exact absurd ej.symm (fg_nm1 (by omega))
    · have R : (∃ j, j < 4 ∧ w' (46 + (4 * h' + j)) = nI (20 + k)) ↔ w (39 + k) = nI h' := by
        rw [d11 k h' k1 k3 hh']
        exact ⟨fun ⟨j, hj, x⟩ => ⟨j, hj, by rw [v46 h' j hh' hj, if_neg q] at x; exact x⟩, fun ⟨j, hj, x⟩ => ⟨j, hj, by rw [v46 h' j hh' hj, if_neg q]; exact x⟩⟩
      rw [R]
      by_cases u : w (39 + k) = nI h
      · rw [if_pos u, u]
        exact ⟨fun x => absurd x.symm (fg_nm1 (by omega)), fun x => absurd ((nI_eq (by omega) (by omega)).mp x).symm q⟩
      · rw [if_neg u]
end
