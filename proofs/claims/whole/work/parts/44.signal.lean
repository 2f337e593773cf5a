/-! SIGNAL, TURNS -/
/-- the first line from i on that holds x, m to look at -/
def fg_lo (w : Nat → Int32) (x : Int32) : Nat → Nat → Int32
  | 0, _ => -1
  | m + 1, i => if w (43 + i) = x then nI i else fg_lo w x m (i + 1)
theorem fg_lo_off {w : Nat → Int32} {x : Int32} : ∀ n m i, (∀ j, i + m ≤ j → j < i + m + n → ¬ w (43 + j) = x) → fg_lo w x (m + n) i = fg_lo w x m i := by
  intro n m
  induction m with
  | zero =>
    intro i h
    induction n generalizing i with
    | zero => rfl
    | succ n ih =>
      show fg_lo w x (n + 1 + 0 |> fun _ => 0 + (n + 1)) i = -1
      rw [show 0 + (n + 1) = n + 1 by omega, fg_lo, if_neg (h i (by omega) (by omega))]
      have := ih (i + 1) (fun j h1 h2 => h j (by omega) (by omega))
      rw [Nat.zero_add] at this
      exact this
  | succ m ih =>
    intro i h
    rw [show m + 1 + n = m + n + 1 by omega, fg_lo, fg_lo, ih (i + 1) (fun j h1 h2 => h j (by omega) (by omega))]
theorem fg_pt7 {σ : fg_St} {h : Nat} (Sh : h = 3 ∨ h = 9) : fg_pt σ h 7 = h + 4 := by rcases Sh with rfl | rfl <;> rfl
theorem fg_kl4 {h : Nat} (Sh : h = 3 ∨ h = 9) : fg_kd (h + 4) = 11 ∧ fg_ln (h + 4) = 10 := by rcases Sh with rfl | rfl <;> exact ⟨rfl, rfl⟩
section
variable {d : Nat} {σ : fg_St} {Q : Int32 → fg_St → Prop} {z : fg_Z} {w : Nat → Int32} {P : fg_GP} {I : fg_GI} {T : fg_GT} {v : Int32} {s : Nat} {R : fg_GR} {B : fg_GB} {hz wd : Nat}
theorem l_DK_lineOf {e : Nat} (D : fg_DkX σ 15 z w) : ∀ m i, i + m = 3 → Q (fg_lo w (nI e) m i) σ → fg_Run d 6 2 [some (.ref 15), some (.int (nI e)), some (.int (nI i))] [] σ Q := by
  intro m
  induction m with
  | zero =>
    intro i hi H
    exact b_DK_lineOf_2 ⟨fun _ => H, fun q => absurd (nI_le (a := 3) (by omega) (by omega)) q⟩
  | succ m ih =>
    intro i hi H
    refine b_DK_lineOf_2 ⟨fun q => absurd q (nI_ge (b := 3) (by omega) (by decide)), fun _ => ⟨vp_in_nI (by omega) (by decide), ?_⟩⟩
    rw [nI_clamp (by omega), D.r5 (by omega), nI_1]
    unfold fg_lo at H
    refine ⟨fun q => ih (i + 1) (by omega) ?_, fun q => ?_⟩
    · rw [if_neg q] at H
      exact H
    · rw [if_pos q] at H
      exact H
theorem l_MO_lineOf {e : Nat} (hH : fg_zH z ≤ 3) (h1 : fg_R σ 191 = w) (H : Q (fg_lo w (nI e) (fg_zH z) 0) σ) : ∀ k m, k + m = fg_zH z → fg_Run d 161 9 [some (.ref 187), some (.int (nI e)), some (.int (fg_lo w (nI e) m k)), some (.int (nI k - 1))] [] σ Q := by
  intro k
  induction k with
  | zero =>
    intro m hm
    have hm : m = fg_zH z := by omega
    subst hm
    exact b_MO_lineOf_9 ⟨fun _ => H, fun q => absurd (by decide) q⟩
  | succ k ih =>
    intro m hm
    have i2 := fg_ix (c := 43) (i := k) (n := 61) (by omega) (by decide)
    rw [nI_pred]
    refine b_MO_lineOf_9 ⟨fun q => absurd q (nI_pos (by omega)), fun _ => ?_⟩
    rw [show (43 : Int32) = nI 43 from rfl, i2.2, h1, ← Int32.sub_eq_add_neg]
    have := ih (m + 1) (by omega)
    unfold fg_lo at this
    refine ⟨i2.1, fun q => ?_, fun q => ?_⟩
    · rw [if_neg q] at this
      exact this
    · rw [if_pos q] at this
      exact this
def fg_siA (z : fg_Z) (w : Nat → Int32) (hz wd : Nat) (a b : Int32) : Int32 := if fg_isn a (fg_zs z) = true then (if fg_isr b 0 6 = true then (if b = 0 then nI (fg_zl z a.toNatClampNeg) else if b = 5 then nI (fg_set (fg_lke z (fg_s0 z (fg_tn z w)) (fg_lw w hz wd) a.toNatClampNeg) (fg_zs z)) else if b = 6 then fg_lo w a 3 0 else if b.toNatClampNeg - 1 < fg_zl z a.toNatClampNeg then nI (fg_zr z a.toNatClampNeg (b.toNatClampNeg - 1)) else -1) else -1000000002) else -1000000001
theorem c_FS_signal {a b : Int32} (hh : hz ≤ 2) (hw : wd ≤ 1) (e1 : w 58 = nI hz) (e2 : w 59 = nI wd) (h : fg_CI σ z w P I T v s R B) (H : ∀ u, fg_sm fg_pC σ u → fg_CI u z w P I T v s R B → Q (fg_siA z w hz wd a b) u) : fg_Run (d + 5) 65 0 [some (.ref 0), some (.int a), some (.int b)] [] σ Q := by
  have hx : ∀ u, fg_sm fg_pX σ u → Q (fg_siA z w hz wd a b) u := fun u m => H u (m.wk fg_pXC) (h.x m)
  have H := hx σ fg_sm.rfl'
  have X := h.2.1
  have D := X.2.2.2.1
  have hf := X.2.1.1.2.2.2
  refine b_FS_signal_0 ⟨fg_kd6 X.1, fg_use (r_SH_hasSignal X.1 X.2.1 X.2.2.1 (fg_bt (fun e => ?_) (fun e => ?_)))⟩
  · obtain ⟨g, hg, rfl⟩ := fg_isn_t e (by omega)
    have hl := X.2.1.2.1 g hg
    have out : fg_isr b 0 6 = false → Q (-1000000002) σ := fun q => by rw [fg_siA, if_pos e, if_neg (by rw [q]; decide)] at H; exact H
    refine ⟨fun q => out (fg_isr_lo (lo := 0) (by decide) q), fun q => ⟨fun q2 => ?_, fun q2 => out (fg_isr_hi (hi := 6) (by decide) q2)⟩⟩
    have o := fg_isr_ok (lo := 0) (hi := 6) (by decide) (by decide) q q2
    obtain ⟨y, _, hy, rfl⟩ := fg_isr_t o (by decide)
    have y0 : nI y = 0 ↔ y = 0 := nI_eq (b := 0) (by omega) (by decide)
    have y5 : nI y = 5 ↔ y = 5 := nI_eq (b := 5) (by omega) (by decide)
    have y6 : nI y = 6 ↔ y = 6 := nI_eq (b := 6) (by omega) (by decide)
    have y4 : 4 < nI y ↔ 4 < y := nI_ltI (a := 4) (by decide) (by omega)
    have hx : ∀ u, fg_sm fg_pX σ u → Q (if y = 0 then nI (fg_zl z g) else if y = 5 then nI (fg_set (fg_lke z (fg_s0 z (fg_tn z w)) (fg_lw w hz wd) g) (fg_zs z)) else if y = 6 then fg_lo w (nI g) 3 0 else if y - 1 < fg_zl z g then nI (fg_zr z g (y - 1)) else -1) u := by
      intro u m
      have := hx u m
      rw [fg_siA, if_pos e, if_pos o, nI_clamp (by omega), nI_clamp (by omega)] at this
      simp only [y0, y5, y6] at this
      exact this
    have H := hx σ fg_sm.rfl'
    rw [y0, y5, y4]
    refine ⟨fun q0 => ⟨fun q4 => ⟨fun q5 => ?_, fun q5 => ?_⟩, fun q4 => ⟨fg_kd6 X.1, ?_⟩⟩, fun q0 => ⟨fg_kd6 X.1, ?_⟩⟩
    · rw [if_neg q0, if_neg q5, if_pos (by omega)] at H
      exact fg_use (b_DK_lineOf_0 (l_DK_lineOf D 3 0 rfl H))
    · refine fg_use (b_DK_weatherNumber_0 ?_)
      rw [D.f10, D.f11, e1, e2, show (2 : Int32) * nI hz + nI wd = nI (2 * hz + wd) by rw [show (2 : Int32) = nI 2 from rfl, pk_mul, nI_add]]
      refine fg_use (r_FS_watchIn X hh hw (fun u m hw3 => ?_))
      obtain ⟨g1, g2, g3, g4, g5⟩ := X.sm m
      have Hu := hx u m
      rw [if_neg q0, if_pos q5] at Hu
      exact fg_use (r_WA_likeOf g1 g2 g3 (fg_lw_lt g4) hw3.1 hg Hu)
    · rw [if_neg q0, if_neg (by omega), if_neg (by omega)] at H
      rw [show (1 : Int32) = nI 1 from rfl, pk_sub (by omega)]
      exact fg_use (r_SH_flagAt X.1 X.2.1 X.2.2.1 hg (by omega) H)
    · rw [if_pos q0] at H
      rw [fg_pt7 X.1, (fg_kl4 X.1).1, (fg_kl4 X.1).2, nI_clamp (by omega), X.2.2.1.2.1 g hg]
      exact ⟨rfl, vp_in_nI (by omega) (by decide), H⟩
  · rw [fg_siA, if_neg (by rw [e]; decide)] at H
    exact H
theorem c_MO_signal {a b : Int32} (hh : hz ≤ 2) (hw : wd ≤ 1) (e1 : w 58 = nI hz) (e2 : w 59 = nI wd) (h : fg_RI σ z w P I T v s R B) (H : ∀ u, fg_sm fg_pN σ u → fg_RI u z w P I T v s R B → Q (fg_siA z w hz wd a b) u) : fg_Run (d + 5) 163 0 [some (.ref 187), some (.int a), some (.int b)] [] σ Q := by
  have hx : ∀ u, fg_sm fg_pM σ u → Q (fg_siA z w hz wd a b) u := fun u m => H u (m.wk fg_pMN) (h.m m)
  have H := hx σ fg_sm.rfl'
  obtain ⟨h1, ⟨M, W⟩, -⟩ := h
  have hf := M.1.1.2.2.2
  have hH := M.1.1.1
  refine b_MO_signal_0 (fg_use (r_MO_isSig M.1 M.2.1 (fg_bt (fun e => fg_use (r_MO_inr (lo := 0) (hi := 6) rfl rfl (fg_bt (fun o => ?_) (fun o => ?_)))) (fun e => ?_))))
  · obtain ⟨g, hg, rfl⟩ := fg_isn_t e (by omega)
    have hl := M.1.2.1 g hg
    obtain ⟨y, _, hy, rfl⟩ := fg_isr_t o (by decide)
    have y0 : nI y = 0 ↔ y = 0 := nI_eq (b := 0) (by omega) (by decide)
    have y5 : nI y = 5 ↔ y = 5 := nI_eq (b := 5) (by omega) (by decide)
    have y6 : nI y = 6 ↔ y = 6 := nI_eq (b := 6) (by omega) (by decide)
    have hx : ∀ u, fg_sm fg_pM σ u → Q (if y = 0 then nI (fg_zl z g) else if y = 5 then nI (fg_set (fg_lke z (fg_s0 z (fg_tn z w)) (fg_lw w hz wd) g) (fg_zs z)) else if y = 6 then fg_lo w (nI g) 3 0 else if y - 1 < fg_zl z g then nI (fg_zr z g (y - 1)) else -1) u := by
      intro u m
      have := hx u m
      rw [fg_siA, if_pos e, if_pos o, nI_clamp (by omega), nI_clamp (by omega)] at this
      simp only [y0, y5, y6] at this
      exact this
    have H := hx σ fg_sm.rfl'
    rw [y0, y5]
    refine fg_use (r_MO_inr (lo := 1) (hi := 4) rfl rfl (fg_bt' (fun q4 => ?_) (fun q4 => ?_)))
    · obtain ⟨y', hy1, hy4, ey⟩ := fg_isr_t q4 (by decide)
      have ey : y = y' := (nI_eq (by omega) (by omega)).mp ey
      subst ey
      rw [if_neg (by omega), if_neg (by omega), if_neg (by omega)] at H
      refine ⟨vp_in_nI (by omega) (by decide), ?_⟩
      rw [nI_clamp (by omega), M.2.1.2.1 g hg, nI_ltI (by omega) (by omega), show (4 : Int32) = nI 4 from rfl, pk_mul, nI_add, show (1 : Int32) = nI 1 from rfl, pk_sub (by omega), nI_clamp (by omega)]
      refine ⟨fun q => ?_, fun q => ⟨vp_in_nI (by omega) (by decide), ?_⟩⟩
      · rw [if_neg (by omega)] at H
        exact H
      · rw [if_pos (by omega)] at H
        rw [show 4 * g + y - 1 = 4 * g + (y - 1) by omega, M.2.1.2.2 g hg (y - 1) (by omega)]
        exact H
    · have q4 : ¬ (1 ≤ y ∧ y ≤ 4) := fun q => by rw [fg_isr_nI q.1 q.2 (by decide)] at q4; cases q4
      refine ⟨fun q0 => ⟨fun q5 => ?_, fun q5 => ?_⟩, fun q0 => ⟨vp_in_nI (by omega) (by decide), ?_⟩⟩
      · rw [if_neg q0, if_neg q5, if_pos (by omega)] at H
        refine fg_use (b_MO_lineOf_0 ?_)
        rw [M.2.1.1.1]
        refine l_MO_lineOf hH h1 ?_ (fg_zH z) 0 (by omega)
        have := fg_lo_off (w := w) (x := nI g) (3 - fg_zH z) (fg_zH z) 0 (fun j j1 j2 => ?_)
        · rw [show fg_zH z + (3 - fg_zH z) = 3 by omega] at this
          rw [← this]
          exact H
        · rcases W.2.2.2.2.2.1 j (by omega) with q | q
          · rw [q.1]
            intro q
            exact fg_nm1 (p := g) (by omega) q.symm
          · exact absurd q.1 (by omega)
      · refine fg_use (b_MO_likeNow_0 ?_)
        rw [h1, e1, e2]
        refine fg_use (r_MO_layLooks hh hw M (fun u m hL => ?_))
        have M' := M.sm (m.wk fg_pKM)
        have Hu := hx u (m.wk fg_pKM)
        rw [if_neg q0, if_pos q5] at Hu
        rw [h1] at hL
        exact fg_use (r_MO_likeOf M'.1 M'.2.1 (fg_lw_ltM (by rw [← h1]; exact M.2.2.2)) hL hg Hu)
      · rw [if_pos q0] at H
        rw [nI_clamp (by omega), M.2.1.2.1 g hg]
        exact H
  · rw [fg_siA, if_pos e, if_neg (by rw [o]; decide)] at H
    exact H
  · rw [fg_siA, if_neg (by rw [e]; decide)] at H
    exact H
end
