/-! THE FLAG TO SEW ANEW: pure -/
theorem fg_rw_fl {z : fg_Z} {e : Nat} {s : Nat × Nat} {j : Nat} (h : fg_rw z e s j < 20) : fg_rw z e s j = fg_zr z e j := by
  unfold fg_rw at h ⊢
  split
  · rename_i q
    rw [q] at h
    have h : 99 < 20 := h
    omega
  · rename_i t q
    rw [q] at h
    simp only at h
    unfold fg_pce at h ⊢
    split
    · rfl
    · rename_i h1
      rw [if_neg h1] at h
      split at h <;> omega
theorem fg_rx_fl {z : fg_Z} {e : Nat} {s : Nat × Nat} {j : Nat} (h : fg_rx z s e j < 20) : j < fg_zl z e ∧ fg_rx z s e j = fg_zr z e j := by
  unfold fg_rx at h ⊢
  split
  · rename_i q
    rw [if_pos q] at h
    simp only [Bool.and_eq_true, decide_eq_true_eq] at q
    exact ⟨q.2, fg_rw_fl h⟩
  · rename_i q
    rw [if_neg q] at h
    omega
theorem fg_t4_iff {z : fg_Z} {e f : Nat} : ∀ n, fg_t4 z e f n = true ↔ ∃ j, j < n ∧ j < fg_zl z e ∧ fg_zr z e j = f := by
  intro n
  induction n with
  | zero => exact ⟨fun q => (by cases q), fun ⟨j, hj, _⟩ => absurd hj (Nat.not_lt_zero _)⟩
  | succ n ih =>
    rw [fg_t4, Bool.or_eq_true, ih, Bool.and_eq_true, decide_eq_true_eq, beq_iff_eq]
    constructor
    · rintro (⟨j, a, b, c⟩ | ⟨a, b⟩)
      · exact ⟨j, by omega, b, c⟩
      · exact ⟨n, by omega, a, b⟩
    · rintro ⟨j, a, b, c⟩
      by_cases e1 : j = n
      · subst e1; exact Or.inr ⟨b, c⟩
      · exact Or.inl ⟨j, by omega, b, c⟩
theorem fg_sg_ext {z : fg_Z} (hz : fg_Zok z) {s : Nat × Nat} {lf lf' : Nat → Nat} {e : Nat} (he : e < fg_zs z) (h : ∀ j, j < fg_zl z e → lf (fg_zr z e j) = lf' (fg_zr z e j)) : fg_sg z s lf e = fg_sg z s lf' e := by
  have : ∀ j, fg_Lx z s lf e j = fg_Lx z s lf' e j := by
    intro j
    unfold fg_Lx
    split
    · rfl
    · split
      · rename_i h2
        obtain ⟨a, b⟩ := fg_rx_fl h2
        rw [b]
        exact h j a
      · rfl
  unfold fg_sg
  rw [this 0, this 1, this 2, this 3]
theorem fg_pce_same {z : fg_Z} {e j f : Nat} {t t' : Nat × Nat} (hf : fg_zr z e j ≠ f) (h1 : ∀ g, g ≠ f → t.1.testBit g = t'.1.testBit g) (h2 : t.2 = t'.2) : fg_pce z e t.1 t.2 j = fg_pce z e t'.1 t'.2 j := by
  unfold fg_pce
  rw [h1 _ hf, h2]
theorem fg_tk_same {z : fg_Z} (hz : fg_Zok z) {e f : Nat} (he : e < fg_zs z) (hf : ∀ j, j < fg_zl z e → fg_zr z e j ≠ f) {s s' : Nat × Nat} (b1 : s.1 < 2 ^ 32) (b2 : s'.1 < 2 ^ 32) (h1 : ∀ g, g ≠ f → s.1.testBit g = s'.1.testBit g) (h2 : s.2 = s'.2) : ∀ j, j ≤ fg_zl z e → (fg_tk z e s j = none ∧ fg_tk z e s' j = none) ∨ ∃ t t', fg_tk z e s j = some t ∧ fg_tk z e s' j = some t' ∧ t.2 = t'.2 ∧ ∀ g, g ≠ f → t.1.testBit g = t'.1.testBit g := by
  intro j
  induction j with
  | zero => intro _; exact Or.inr ⟨s, s', rfl, rfl, h2, h1⟩
  | succ j ih =>
    intro hj
    rcases ih (by omega) with ⟨a, b⟩ | ⟨t, t', a, b, c, d⟩
    · exact Or.inl ⟨by rw [fg_tk, a], by rw [fg_tk, b]⟩
    · have hp := fg_pce_same (hf j (by omega)) d c
      have l1 := (fg_tk_bd j t a).1
      have l2 := (fg_tk_bd j t' b).1
      rw [fg_tk, fg_tk, a, b]
      simp only [← hp]
      split
      · exact Or.inl ⟨rfl, rfl⟩
      · split
        · refine Or.inr ⟨_, _, rfl, rfl, c, fun g hg => ?_⟩
          show (fg_wo t.1 _).testBit g = (fg_wo t'.1 _).testBit g
          rw [fg_wo_bit (by omega), fg_wo_bit (by omega), d g hg]
        · exact Or.inr ⟨_, _, rfl, rfl, by simp only [c], d⟩
theorem fg_rx_same {z : fg_Z} (hz : fg_Zok z) {e f : Nat} (he : e < fg_zs z) (hf : ∀ j, j < fg_zl z e → fg_zr z e j ≠ f) {s s' : Nat × Nat} (b1 : s.1 < 2 ^ 32) (b2 : s'.1 < 2 ^ 32) (h1 : ∀ g, g ≠ f → s.1.testBit g = s'.1.testBit g) (h2 : s.2 = s'.2) : fg_upb z s e = fg_upb z s' e ∧ ∀ j, fg_rx z s e j = fg_rx z s' e j := by
  have hu : fg_upb z s e = fg_upb z s' e := by
    unfold fg_upb
    rcases fg_tk_same hz he hf b1 b2 h1 h2 _ (Nat.le_refl _) with ⟨a, b⟩ | ⟨t, t', a, b, _⟩
    · rw [a, b]
    · rw [a, b]; rfl
  refine ⟨hu, fun j => ?_⟩
  unfold fg_rx
  rw [hu]
  split
  · rename_i q
    simp only [Bool.and_eq_true, decide_eq_true_eq] at q
    unfold fg_rw
    rcases fg_tk_same hz he hf b1 b2 h1 h2 j (by omega) with ⟨a, b⟩ | ⟨t, t', a, b, c, d⟩
    · rw [a, b]
    · rw [a, b]
      exact fg_pce_same (hf j q.2) d c
  · rfl
/-- a flag that no signal tells does not matter -/
theorem fg_clr_same {z : fg_Z} (hz : fg_Zok z) {f : Nat} (hf : ∀ e j, e < fg_zs z → j < fg_zl z e → fg_zr z e j ≠ f) {s s' : Nat × Nat} (b1 : s.1 < 2 ^ 32) (b2 : s'.1 < 2 ^ 32) (h1 : ∀ g, g ≠ f → s.1.testBit g = s'.1.testBit g) (h2 : s.2 = s'.2) {lf lf' : Nat → Nat} (hl : ∀ g, g < fg_zf z → g ≠ f → lf g = lf' g) : ∀ e, e < fg_zs z → fg_clr z s lf e = fg_clr z s' lf' e := by
  have hu : ∀ e, e < fg_zs z → fg_upb z s e = fg_upb z s' e := fun e he => (fg_rx_same hz he (fun j hj => hf e j he hj) b1 b2 h1 h2).1
  have hsg : ∀ e, e < fg_zs z → fg_sg z s lf e = fg_sg z s' lf' e := by
    intro e he
    rw [fg_sg_ext hz he (lf' := lf') (fun j hj => hl _ (hz.2.2.1 e he j hj) (hf e j he hj))]
    have hr := (fg_rx_same hz he (fun j hj => hf e j he hj) b1 b2 h1 h2).2
    unfold fg_sg fg_Lx
    rw [hr 0, hr 1, hr 2, hr 3]
  have hk : ∀ e u, e < fg_zs z → u < fg_zs z → fg_lke z s lf e u = fg_lke z s' lf' e u := by
    intro e u he hu2
    unfold fg_lke
    rw [hu e he, hu u hu2, hsg e he, hsg u hu2]
  intro e he
  unfold fg_clr
  rw [hu e he]
  congr 1
  apply decide_eq_decide.mpr
  exact ⟨fun q u a b => by rw [← hk e u he a]; exact q u a b, fun q u a b => by rw [hk e u he a]; exact q u a b⟩
/-- the code of a pattern -/
def fg_pc (p : Nat) : Nat := 100 * (p / 25) + 10 * (p / 5 % 5) + p % 5
/-- the row with flag f sewn anew -/
def fg_wf (w : Nat → Int32) (f : Nat) (x : Int32) : Nat → Int32 := fun k => if k = f then x else if k = 30 + f then 0 else w k
theorem fg_wf_tn {z : fg_Z} (hz : fg_Zok z) {w : Nat → Int32} {f : Nat} {x : Int32} (hf : f < fg_zf z) : fg_tn z (fg_wf w f x) = fg_wo (fg_tn z w) (2 ^ f) := by
  have h10 := hz.1.2.2.1
  unfold fg_tn
  rw [fg_set_out _ _ _ (by omega)]
  refine fg_set_ext (fun g hg => ?_)
  unfold fg_wf
  rw [if_neg (by omega)]
  by_cases e : g = f
  · subst e
    rw [if_pos rfl]
    simp
  · rw [if_neg (by omega)]
    have : (g == f) = false := by simpa using e
    rw [this]
    simp
theorem fg_wf_lw {z : fg_Z} (hz : fg_Zok z) {w : Nat → Int32} {f p hz' wd : Nat} (hf : f < fg_zf z) (hp : p < 100) {g : Nat} (hg : g < fg_zf z) : fg_lw (fg_wf w f (nI (fg_pc p))) hz' wd g = if g = f then fg_lk (p / 25) (p / 5 % 5) (p % 5) hz' wd else fg_lw w hz' wd g := by
  have h10 := hz.1.2.2.1
  by_cases e : g = f
  · rw [if_pos e]
    refine fg_lw_eq (by omega) (by omega) (by omega) ?_
    unfold fg_wf
    rw [if_pos e]
    rfl
  · rw [if_neg e]
    unfold fg_lw fg_wf
    rw [if_neg e, if_neg (by omega)]
/-- how many are clear -/
def fg_cn (z : fg_Z) (w : Nat → Int32) (hz wd : Nat) : Nat := fg_num (fg_clr z (fg_s0 z (fg_tn z w)) (fg_lw w hz wd)) (fg_zs z)
theorem fg_cn_le {z : fg_Z} {w : Nat → Int32} {hz wd : Nat} : fg_cn z w hz wd ≤ fg_zs z := fg_num_le _ _
theorem fg_s0_wo {z : fg_Z} (hz : fg_Zok z) {T f g : Nat} (hg : g ≠ f) : (fg_s0 z T).1.testBit g = (fg_s0 z (fg_wo T (2 ^ f))).1.testBit g ∨ 2 ^ 32 ≤ T := by
  rcases Nat.lt_or_ge T (2 ^ 32) with hT | hT
  · left
    have hp := fg_p10 hz.1.2.2.1
    unfold fg_s0
    simp only
    rw [fg_wo_bit (by omega), fg_wo_bit (by omega), fg_wo_bit hT, Nat.testBit_two_pow, decide_eq_false (fun q => hg q.symm)]
    simp
  · exact Or.inr hT
theorem fg_cn_no {z : fg_Z} (hz : fg_Zok z) {w : Nat → Int32} {f p hz' wd : Nat} (hf : f < fg_zf z) (hp : p < 100) (h : ∀ e, e < fg_zs z → fg_t4 z e f 4 = false) : fg_cn z (fg_wf w f (nI (fg_pc p))) hz' wd = fg_cn z w hz' wd := by
  unfold fg_cn
  refine fg_num_ext _ (fun e he => ?_)
  have hl := fun e he => hz.2.1 e he
  have ht := fg_tn_lt (w := w) hz
  have ht2 := fg_tn_lt (w := fg_wf w f (nI (fg_pc p))) hz
  have b1 := fg_s0_lt (T := fg_tn z w) hz
  have b2 := fg_s0_lt (T := fg_tn z (fg_wf w f (nI (fg_pc p)))) hz
  refine fg_clr_same (s := fg_s0 z (fg_tn z (fg_wf w f (nI (fg_pc p))))) (s' := fg_s0 z (fg_tn z w)) hz (f := f) (fun e j he hj q => ?_) (by omega) (by omega) (fun g hg => ?_) rfl (fun g hg hne => ?_) e he
  · have := h e he
    rw [(fg_t4_iff 4).mpr ⟨j, by have := hl e he; omega, hj, q⟩] at this
    cases this
  · rw [fg_wf_tn hz hf]
    rcases fg_s0_wo hz (T := fg_tn z w) hg with q | q
    · exact q.symm
    · omega
  · rw [fg_wf_lw hz hf hp hg, if_neg hne]
def fg_bp (c : Nat → Nat) (val : Nat → Int32) (s : Int32 × Nat) : Nat → Int32 × Nat
  | 0 => s
  | p + 1 => if c p ≤ (fg_bp c val s p).2 then fg_bp c val s p else (val p, c p)
theorem fg_bp_s {c : Nat → Nat} {val : Nat → Int32} {s : Int32 × Nat} (p : Nat) : fg_bp c val s (p + 1) = if c p ≤ (fg_bp c val s p).2 then fg_bp c val s p else (val p, c p) := rfl
theorem fg_bp_off {c : Nat → Nat} {val : Nat → Int32} {s : Int32 × Nat} {p n : Nat} : ∀ m, p + m = n → (∀ i, p ≤ i → i < n → c i ≤ (fg_bp c val s p).2) → fg_bp c val s n = fg_bp c val s p := by
  intro m
  induction m generalizing n with
  | zero => intro h _; rw [← h]; rfl
  | succ m ih =>
    intro h hc
    have e : n = (p + m) + 1 := by omega
    subst e
    have := ih (n := p + m) rfl (fun i a b => hc i a (by omega))
    rw [fg_bp_s, this, if_pos (hc (p + m) (by omega) (by omega))]
theorem fg_bp_ge {c : Nat → Nat} {val : Nat → Int32} {s : Int32 × Nat} : ∀ n, s.2 ≤ (fg_bp c val s n).2 := by
  intro n
  induction n with
  | zero => exact Nat.le_refl _
  | succ n ih =>
    rw [fg_bp_s]
    split
    · exact ih
    · simp only
      omega
theorem fg_bp_le {c : Nat → Nat} {val : Nat → Int32} {s : Int32 × Nat} {k : Nat} (h : ∀ i, c i ≤ k) (hs : s.2 ≤ k) : ∀ n, (fg_bp c val s n).2 ≤ k := by
  intro n
  induction n with
  | zero => exact hs
  | succ n ih =>
    rw [fg_bp_s]
    split
    · exact ih
    · exact h n
def fg_bo (z : fg_Z) (w : Nat → Int32) (hz wd : Nat) : Nat → Int32 × Nat
  | 0 => (-1, fg_cn z w hz wd)
  | f + 1 => fg_bp (fun p => fg_cn z (fg_wf w f (nI (fg_pc p))) hz wd) (fun p => nI (1000 * f + fg_pc p)) (fg_bo z w hz wd f) 100
theorem fg_bo_s {z : fg_Z} {w : Nat → Int32} {hz wd : Nat} (f : Nat) : fg_bo z w hz wd (f + 1) = fg_bp (fun p => fg_cn z (fg_wf w f (nI (fg_pc p))) hz wd) (fun p => nI (1000 * f + fg_pc p)) (fg_bo z w hz wd f) 100 := rfl
theorem fg_bo_ge {z : fg_Z} {w : Nat → Int32} {hz wd : Nat} : ∀ n, fg_cn z w hz wd ≤ (fg_bo z w hz wd n).2 ∧ (fg_bo z w hz wd n).2 ≤ fg_zs z := by
  intro n
  induction n with
  | zero => exact ⟨Nat.le_refl _, fg_cn_le⟩
  | succ n ih =>
    rw [fg_bo_s]
    exact ⟨Nat.le_trans ih.1 (fg_bp_ge _), fg_bp_le (fun _ => fg_cn_le) ih.2 _⟩
