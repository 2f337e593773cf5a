/-! FLAG, LINE, NEEDS, LOOK, TOGETHER -/
def fg_flA (z : fg_Z) (w : Nat → Int32) (hz wd : Nat) (a b : Int32) : Int32 := if fg_isn a (fg_zf z) = true then (if b = 0 then w a.toNatClampNeg / 100 else if b = 1 then w a.toNatClampNeg / 10 - w a.toNatClampNeg / 10 / 10 * 10 else if b = 2 then w a.toNatClampNeg - w a.toNatClampNeg / 10 * 10 else if b = 3 then w (10 + a.toNatClampNeg) else if b = 4 then w (20 + a.toNatClampNeg) else if b = 5 then w (30 + a.toNatClampNeg) else if b = 6 then nI (fg_lw w hz wd a.toNatClampNeg) else -1000000002) else -1000000001
theorem fg_pat {k a b : Nat} (hk : k ≤ 3) (ha : a ≤ 4) (hb : b ≤ 4) : nI (100 * k + 10 * a + b) / 100 = nI k ∧ nI (100 * k + 10 * a + b) / 10 - nI (100 * k + 10 * a + b) / 10 / 10 * 10 = nI a ∧ nI (100 * k + 10 * a + b) - nI (100 * k + 10 * a + b) / 10 * 10 = nI b := by
  refine ⟨?_, ?_, ?_⟩
  · rw [show (100 : Int32) = nI 100 from rfl, pk_div (by omega) (by decide) (by decide)]
    congr 1
    omega
  · rw [show (10 : Int32) = nI 10 from rfl, pk_div (by omega) (by decide) (by decide), pk_rem (by omega) (by decide) (by decide)]
    congr 1
    omega
  · rw [show (10 : Int32) = nI 10 from rfl, pk_rem (by omega) (by decide) (by decide)]
    congr 1
    omega
theorem fg_tn_bit {z : fg_Z} {w : Nat → Int32} {g : Nat} (hg : g < fg_zf z) : (fg_tn z w).testBit g = decide (w (30 + g) = 1) := by
  unfold fg_tn
  rw [fg_set_bit]
  simp [hg]
section
variable {d : Nat} {σ : fg_St} {Q : Int32 → fg_St → Prop} {z : fg_Z} {w : Nat → Int32} {P : fg_GP} {I : fg_GI} {T : fg_GT} {v : Int32} {s : Nat} {R : fg_GR} {B : fg_GB} {hz wd : Nat}
theorem c_FS_flag {a b : Int32} (hh : hz ≤ 2) (hw : wd ≤ 1) (e1 : w 58 = nI hz) (e2 : w 59 = nI wd) (h : fg_CI σ z w P I T v s R B) (H : ∀ u, fg_sm fg_pC σ u → fg_CI u z w P I T v s R B → Q (fg_flA z w hz wd a b) u) : fg_Run (d + 3) 64 0 [some (.ref 0), some (.int a), some (.int b)] [] σ Q := by
  have H := H σ fg_sm.rfl' h
  have X := h.2.1
  have D := X.2.2.2.1
  have hf := X.2.1.1.2.2.1
  refine b_FS_flag_0 ⟨fg_kd6 X.1, fg_use (r_SH_hasFlag X.1 X.2.1 X.2.2.1 (fg_bt (fun e => ?_) (fun e => ?_)))⟩
  · obtain ⟨g, hg, rfl⟩ := fg_isn_t e (by omega)
    obtain ⟨k, x, y, ⟨hk, hx, hy⟩, r0, r1, r2, r3⟩ := D.pt hg
    have hp := fg_pat hk hx hy
    rw [← r3] at hp
    have vi : vp_in (nI g) 10 := vp_in_nI (by omega) (by decide)
    rw [fg_flA, if_pos e, nI_clamp (by omega)] at H
    rw [nI_clamp (by omega)]
    refine ⟨fun q => ⟨vi, ?_⟩, fun q0 => ⟨fun q => ⟨vi, ?_⟩, fun q1 => ⟨fun q => ⟨vi, ?_⟩, fun q2 => ⟨fun q => ⟨vi, ?_⟩, fun q3 => ⟨fun q => ⟨vi, ?_⟩, fun q4 => ⟨fun q => ?_, fun q5 => ⟨fun q => ?_, fun q6 => ?_⟩⟩⟩⟩⟩⟩⟩
    · rw [if_pos q, hp.1] at H
      rw [r0]
      exact H
    · rw [if_neg q0, if_pos q, hp.2.1] at H
      rw [r1]
      exact H
    · rw [if_neg q0, if_neg q1, if_pos q, hp.2.2] at H
      rw [r2]
      exact H
    · rw [if_neg q0, if_neg q1, if_neg q2, if_pos q] at H
      rw [D.r3 hg]
      exact H
    · rw [if_neg q0, if_neg q1, if_neg q2, if_neg q3, if_pos q] at H
      rw [D.r4 hg]
      exact H
    · rw [if_neg q0, if_neg q1, if_neg q2, if_neg q3, if_neg q4, if_pos q] at H
      rw [D.f7]
      have ht := fg_tn_lt (w := w) X.2.1
      refine fg_use (r_FS_has (by omega) (by omega) ?_)
      rw [fg_tn_bit hg]
      rcases X.2.2.2.2.1 g hg with e0 | e0
      · rw [e0] at H ⊢
        exact ⟨fun _ => H, fun q => absurd rfl q⟩
      · rw [e0] at H ⊢
        exact ⟨fun q => absurd q (by decide), fun _ => H⟩
    · rw [if_neg q0, if_neg q1, if_neg q2, if_neg q3, if_neg q4, if_neg q5, if_pos q, fg_lw_eq hk hx hy r3] at H
      rw [D.f10, D.f11, e1, e2]
      exact fg_use (r_DK_lookIn (by omega) hk hx hy hh hw r0 r1 r2 H)
    · rw [if_neg q0, if_neg q1, if_neg q2, if_neg q3, if_neg q4, if_neg q5, if_neg q6] at H
      exact H
  · rw [fg_flA, if_neg (by rw [e]; decide)] at H
    exact H
theorem c_MO_flag {a b : Int32} (hh : hz ≤ 2) (hw : wd ≤ 1) (e1 : w 58 = nI hz) (e2 : w 59 = nI wd) (h : fg_RI σ z w P I T v s R B) (H : ∀ u, fg_sm fg_pN σ u → fg_RI u z w P I T v s R B → Q (fg_flA z w hz wd a b) u) : fg_Run (d + 2) 160 0 [some (.ref 187), some (.int a), some (.int b)] [] σ Q := by
  have H := H σ fg_sm.rfl' h
  obtain ⟨h1, ⟨M, W⟩, -⟩ := h
  have hf := M.1.1.2.2.1
  refine b_MO_flag_0 (fg_use (r_MO_isFlag M.1 M.2.1 (fg_bt (fun e => ?_) (fun e => ?_))))
  · obtain ⟨g, hg, rfl⟩ := fg_isn_t e (by omega)
    have P4 := M.2.2.2 g hg
    rw [h1] at P4
    obtain ⟨k, x, y, ⟨hk, hx, hy⟩, r3⟩ := P4
    have vi : vp_in (nI g) 61 := vp_in_nI (by omega) (by decide)
    have i1 := fg_ix (c := 10) (i := g) (n := 61) (by omega) (by decide)
    have i2 := fg_ix (c := 20) (i := g) (n := 61) (by omega) (by decide)
    have i3 := fg_ix (c := 30) (i := g) (n := 61) (by omega) (by decide)
    rw [fg_flA, if_pos e, nI_clamp (by omega)] at H
    rw [nI_clamp (by omega), show (20 : Int32) = nI 20 from rfl, show (30 : Int32) = nI 30 from rfl, h1]
    refine ⟨fun q => ⟨vi, ?_⟩, fun q0 => ⟨fun q => ⟨vi, ?_⟩, fun q1 => ⟨fun q => ⟨vi, ?_⟩, fun q2 => ⟨fun q => ⟨i1.1, ?_⟩, fun q3 => ⟨fun q => ⟨i2.1, ?_⟩, fun q4 => ⟨fun q => ⟨i3.1, ?_⟩, fun q5 => ⟨fun q => ⟨vi, ?_⟩, fun q6 => ?_⟩⟩⟩⟩⟩⟩⟩
    · rw [if_pos q] at H
      exact H
    · rw [if_neg q0, if_pos q] at H
      exact H
    · rw [if_neg q0, if_neg q1, if_pos q] at H
      exact H
    · rw [if_neg q0, if_neg q1, if_neg q2, if_pos q] at H
      rw [show (10 : Int32) = nI 10 from rfl, i1.2]
      exact H
    · rw [if_neg q0, if_neg q1, if_neg q2, if_neg q3, if_pos q] at H
      rw [i2.2]
      exact H
    · rw [if_neg q0, if_neg q1, if_neg q2, if_neg q3, if_neg q4, if_pos q] at H
      rw [i3.2]
      exact H
    · rw [if_neg q0, if_neg q1, if_neg q2, if_neg q3, if_neg q4, if_neg q5, if_pos q, fg_lw_eq hk hx hy r3] at H
      rw [r3, e1, e2]
      exact fg_use (r_MO_lookOf hk hx hy hh hw H)
    · rw [if_neg q0, if_neg q1, if_neg q2, if_neg q3, if_neg q4, if_neg q5, if_neg q6] at H
      exact H
  · rw [fg_flA, if_neg (by rw [e]; decide)] at H
    exact H
def fg_liA (z : fg_Z) (w : Nat → Int32) (a b : Int32) : Int32 := if fg_isn a (fg_zH z) = true then (if fg_isr b 0 4 = true then (if b = 0 then w (43 + a.toNatClampNeg) else w (46 + (4 * a.toNatClampNeg + (b.toNatClampNeg - 1)))) else -1000000002) else -1000000001
theorem c_FS_line {a b : Int32} (h : fg_CI σ z w P I T v s R B) (H : ∀ u, fg_sm fg_pC σ u → fg_CI u z w P I T v s R B → Q (fg_liA z w a b) u) : fg_Run (d + 1) 66 0 [some (.ref 0), some (.int a), some (.int b)] [] σ Q := by
  have H := H σ fg_sm.rfl' h
  have X := h.2.1
  have D := X.2.2.2.1
  have hf := X.2.1.1.1
  refine b_FS_line_0 ⟨fg_kd6 X.1, fg_use (r_SH_hasLine X.1 X.2.1 X.2.2.1 (fg_bt (fun e => ?_) (fun e => ?_)))⟩
  · obtain ⟨g, hg, rfl⟩ := fg_isn_t e (by omega)
    rw [fg_liA, if_pos e, nI_clamp (by omega)] at H
    have out : fg_isr b 0 4 = false → Q (-1000000002) σ := fun q => by rw [if_neg (by rw [q]; decide)] at H; exact H
    refine ⟨fun q => out (fg_isr_lo (lo := 0) (by decide) q), fun q => ⟨fun q2 => ?_, fun q2 => out (fg_isr_hi (hi := 4) (by decide) q2)⟩⟩
    have o := fg_isr_ok (lo := 0) (hi := 4) (by decide) (by decide) q q2
    obtain ⟨y, _, hy, rfl⟩ := fg_isr_t o (by decide)
    have y0 : nI y = 0 ↔ y = 0 := nI_eq (b := 0) (by omega) (by decide)
    rw [if_pos o, nI_clamp (by omega)] at H
    simp only [y0] at H
    rw [y0, nI_clamp (by omega)]
    refine ⟨fun q3 => ?_, fun q3 => ⟨vp_in_nI (by omega) (by decide), ?_⟩⟩
    · rw [if_neg q3] at H
      rw [fg_lit4, show (1 : Int32) = nI 1 from rfl, pk_sub (by omega), nI_clamp (by omega)]
      refine ⟨vp_in_nI (by omega) (by decide), ?_⟩
      rw [D.r6 (by omega), show g * 4 + y - 1 = 4 * g + (y - 1) by omega]
      exact H
    · rw [if_pos q3] at H
      rw [D.r5 (by omega)]
      exact H
  · rw [fg_liA, if_neg (by rw [e]; decide)] at H
    exact H
theorem c_MO_line {a b : Int32} (h : fg_RI σ z w P I T v s R B) (H : ∀ u, fg_sm fg_pN σ u → fg_RI u z w P I T v s R B → Q (fg_liA z w a b) u) : fg_Run (d + 2) 164 0 [some (.ref 187), some (.int a), some (.int b)] [] σ Q := by
  have H := H σ fg_sm.rfl' h
  obtain ⟨h1, ⟨M, W⟩, -⟩ := h
  have hf := M.1.1.1
  refine b_MO_line_0 (fg_use (r_MO_isLine M.1 M.2.1 (fg_bt (fun e => fg_use (r_MO_inr (lo := 0) (hi := 4) rfl rfl (fg_bt (fun o => ?_) (fun o => ?_)))) (fun e => ?_))))
  · obtain ⟨g, hg, rfl⟩ := fg_isn_t e (by omega)
    rw [fg_liA, if_pos e, if_pos o, nI_clamp (by omega)] at H
    obtain ⟨y, _, hy, rfl⟩ := fg_isr_t o (by decide)
    have y0 : nI y = 0 ↔ y = 0 := nI_eq (b := 0) (by omega) (by decide)
    have i2 := fg_ix (c := 43) (i := g) (n := 61) (by omega) (by decide)
    rw [nI_clamp (by omega)] at H
    simp only [y0] at H
    rw [y0, h1]
    refine ⟨fun q3 => ?_, fun q3 => ⟨i2.1, ?_⟩⟩
    · rw [if_neg q3] at H
      rw [show (46 : Int32) = nI 46 from rfl, show (4 : Int32) = nI 4 from rfl, pk_mul, nI_add, nI_add, show (1 : Int32) = nI 1 from rfl, pk_sub (by omega), nI_clamp (by omega)]
      refine ⟨vp_in_nI (by omega) (by decide), ?_⟩
      rw [show 46 + 4 * g + y - 1 = 46 + (4 * g + (y - 1)) by omega]
      exact H
    · rw [if_pos q3] at H
      rw [show (43 : Int32) = nI 43 from rfl, i2.2]
      exact H
  · rw [fg_liA, if_pos e, if_neg (by rw [o]; decide)] at H
    exact H
  · rw [fg_liA, if_neg (by rw [e]; decide)] at H
    exact H
def fg_nsA (z : fg_Z) (w : Nat → Int32) (a b : Int32) : Int32 := if fg_isn a (fg_zs z) = true then (if fg_isr b 1 4 = true then fg_pi (fg_rx z (fg_sf z w) a.toNatClampNeg (b.toNatClampNeg - 1)) else -1000000002) else -1000000001
theorem c_FS_needs {a b : Int32} (h : fg_CI σ z w P I T v s R B) (H : ∀ u, fg_sm fg_pC σ u → fg_CI u z w P I T v s R B → Q (fg_nsA z w a b) u) : fg_Run (d + 3) 67 0 [some (.ref 0), some (.int a), some (.int b)] [] σ Q := by
  have hx : ∀ u, fg_sm fg_pX σ u → Q (fg_nsA z w a b) u := fun u m => H u (m.wk fg_pXC) (h.x m)
  have H := hx σ fg_sm.rfl'
  have X := h.2.1
  have hf := X.2.1.1.2.2.2
  refine b_FS_needs_0 ⟨fg_kd6 X.1, fg_use (r_SH_hasSignal X.1 X.2.1 X.2.2.1 (fg_bt (fun e => ?_) (fun e => ?_)))⟩
  · obtain ⟨g, hg, rfl⟩ := fg_isn_t e (by omega)
    have out : fg_isr b 1 4 = false → Q (-1000000002) σ := fun q => by rw [fg_nsA, if_pos e, if_neg (by rw [q]; decide)] at H; exact H
    refine ⟨fun q => out (fg_isr_lo (lo := 1) (by decide) q), fun q => ⟨fun q2 => ?_, fun q2 => out (fg_isr_hi (hi := 4) (by decide) q2)⟩⟩
    have o := fg_isr_ok (lo := 1) (hi := 4) (by decide) (by decide) q q2
    obtain ⟨y, hy1, hy, rfl⟩ := fg_isr_t o (by decide)
    refine r_FT X hg (fun u m htk => ?_)
    rw [show (1 : Int32) = nI 1 from rfl, pk_sub hy1, nI_clamp (by omega), fg_tkp_row X.2.1 hg htk (y - 1) (by omega)]
    refine ⟨vp_in_nI (by omega) (by decide), ?_⟩
    have := hx u m
    rw [fg_nsA, if_pos e, if_pos o, nI_clamp (by omega), nI_clamp (by omega)] at this
    exact this
  · rw [fg_nsA, if_neg (by rw [e]; decide)] at H
    exact H
theorem c_MO_needs {a b : Int32} (h : fg_RI σ z w P I T v s R B) (H : ∀ u, fg_sm fg_pN σ u → fg_RI u z w P I T v s R B → Q (fg_nsA z w a b) u) : fg_Run (d + 3) 165 0 [some (.ref 187), some (.int a), some (.int b)] [] σ Q := by
  have hx : ∀ u, fg_sm fg_pM σ u → Q (fg_nsA z w a b) u := fun u m => H u (m.wk fg_pMN) (h.m m)
  have H := hx σ fg_sm.rfl'
  obtain ⟨h1, ⟨M, W⟩, -⟩ := h
  have hf := M.1.1.2.2.2
  refine b_MO_needs_0 (fg_use (r_MO_isSig M.1 M.2.1 (fg_bt (fun e => fg_use (r_MO_inr (lo := 1) (hi := 4) rfl rfl (fg_bt (fun o => ?_) (fun o => ?_)))) (fun e => ?_))))
  · obtain ⟨g, hg, rfl⟩ := fg_isn_t e (by omega)
    obtain ⟨y, hy1, hy, rfl⟩ := fg_isr_t o (by decide)
    refine r_MT M hg (fun u m hr _ => ?_)
    have Hu := hx u (m.wk fg_pRM)
    rw [fg_nsA, if_pos e, if_pos o, nI_clamp (by omega), nI_clamp (by omega)] at Hu
    rw [h1] at hr ⊢
    refine fg_bt' (fun e3 => ?_) (fun e3 => ?_)
    · rw [show (1 : Int32) = nI 1 from rfl, pk_sub hy1, nI_clamp (by omega)]
      refine ⟨vp_in_nI (by omega) (by decide), ?_⟩
      rw [hr e3 (y - 1) (by omega)]
      unfold fg_rx at Hu
      rw [e3] at Hu
      by_cases e4 : y - 1 < fg_zl z g
      · rw [if_pos e4]
        simp only [e4, decide_true, Bool.and_self, if_true] at Hu
        rcases fg_rw_in M.1 hg (Nat.le_refl _) e3 e4 with h | h
        · unfold fg_pi at Hu
          rw [if_neg (by have := M.1.1.2.2.1; omega)] at Hu
          exact Hu
        · unfold fg_pi at Hu
          rw [if_neg (by omega)] at Hu
          exact Hu
      · rw [if_neg e4]
        simpa [e4, fg_pi] using Hu
    · unfold fg_rx at Hu
      rw [e3] at Hu
      exact Hu
  · rw [fg_nsA, if_pos e, if_neg (by rw [o]; decide)] at H
    exact H
  · rw [fg_nsA, if_neg (by rw [e]; decide)] at H
    exact H
def fg_lkA (z : fg_Z) (w : Nat → Int32) (a b c : Int32) : Int32 := if fg_isn a (fg_zf z) = true then (if fg_isr b 0 2 = true then nI (fg_lw w b.toNatClampNeg (if c = 0 then 0 else 1) a.toNatClampNeg) else -1000000002) else -1000000001
theorem c_FS_look {a b c : Int32} (h : fg_CI σ z w P I T v s R B) (H : ∀ u, fg_sm fg_pC σ u → fg_CI u z w P I T v s R B → Q (fg_lkA z w a b c) u) : fg_Run (d + 3) 76 0 [some (.ref 0), some (.int a), some (.int b), some (.int c)] [] σ Q := by
  have H := H σ fg_sm.rfl' h
  have X := h.2.1
  have D := X.2.2.2.1
  have hf := X.2.1.1.2.2.1
  refine b_FS_look_0 ⟨fg_kd6 X.1, fg_use (r_SH_hasFlag X.1 X.2.1 X.2.2.1 (fg_bt (fun e => ?_) (fun e => ?_)))⟩
  · obtain ⟨g, hg, rfl⟩ := fg_isn_t e (by omega)
    obtain ⟨k, x, y, ⟨hk, hx, hy⟩, r0, r1, r2, r3⟩ := D.pt hg
    rw [fg_lkA, if_pos e, nI_clamp (by omega)] at H
    have out : fg_isr b 0 2 = false → Q (-1000000002) σ := fun q => by rw [if_neg (by rw [q]; decide)] at H; exact H
    refine ⟨fun q => out (fg_isr_lo (lo := 0) (by decide) q), fun q => ⟨fun q2 => ?_, fun q2 => out (fg_isr_hi (hi := 2) (by decide) q2)⟩⟩
    have o := fg_isr_ok (lo := 0) (hi := 2) (by decide) (by decide) q q2
    obtain ⟨t, _, ht, rfl⟩ := fg_isr_t o (by decide)
    rw [if_pos o, nI_clamp (by omega)] at H
    refine ⟨fun q3 => ?_, fun q3 => ?_⟩
    · rw [if_pos q3, fg_lw_eq hk hx hy r3] at H
      exact fg_use (r_DK_lookIn (wd := 0) (by omega) hk hx hy ht (by omega) r0 r1 r2 H)
    · rw [if_neg q3, fg_lw_eq hk hx hy r3] at H
      exact fg_use (r_DK_lookIn (wd := 1) (by omega) hk hx hy ht (by omega) r0 r1 r2 H)
  · rw [fg_lkA, if_neg (by rw [e]; decide)] at H
    exact H
theorem c_MO_look {a b c : Int32} (h : fg_RI σ z w P I T v s R B) (H : ∀ u, fg_sm fg_pN σ u → fg_RI u z w P I T v s R B → Q (fg_lkA z w a b c) u) : fg_Run (d + 2) 186 0 [some (.ref 187), some (.int a), some (.int b), some (.int c)] [] σ Q := by
  have H := H σ fg_sm.rfl' h
  obtain ⟨h1, ⟨M, W⟩, -⟩ := h
  have hf := M.1.1.2.2.1
  refine b_MO_look_0 (fg_use (r_MO_isFlag M.1 M.2.1 (fg_bt (fun e => fg_use (r_MO_inr (lo := 0) (hi := 2) rfl rfl (fg_bt' (fun o => ?_) (fun o => ?_)))) (fun e => ?_))))
  · obtain ⟨g, hg, rfl⟩ := fg_isn_t e (by omega)
    obtain ⟨t, _, ht, rfl⟩ := fg_isr_t o (by decide)
    have P4 := M.2.2.2 g hg
    rw [h1] at P4
    obtain ⟨k, x, y, ⟨hk, hx, hy⟩, r3⟩ := P4
    rw [fg_lkA, if_pos e, nI_clamp (by omega), if_pos o, nI_clamp (by omega)] at H
    rw [nI_clamp (by omega), h1, r3]
    refine ⟨vp_in_nI (by omega) (by decide), fun q3 => ?_, fun q3 => ?_⟩
    · rw [if_pos q3, fg_lw_eq hk hx hy r3] at H
      exact fg_use (r_MO_lookOf (wd := 0) hk hx hy ht (by omega) H)
    · rw [if_neg q3, fg_lw_eq hk hx hy r3] at H
      exact fg_use (r_MO_lookOf (wd := 1) hk hx hy ht (by omega) H)
  · rw [fg_lkA, if_pos e, if_neg (by rw [o]; decide)] at H
    exact H
  · rw [fg_lkA, if_neg (by rw [e]; decide)] at H
    exact H
def fg_toA (z : fg_Z) (w : Nat → Int32) (a : Int32) : Int32 := if fg_isn a (2 ^ fg_zs z) = true then fg_b (fg_flb z (fg_tn z w) a.toNatClampNeg) else -1000000001
theorem c_FS_together {a : Int32} (h : fg_CI σ z w P I T v s R B) (H : ∀ u, fg_sm fg_pC σ u → fg_CI u z w P I T v s R B → Q (fg_toA z w a) u) : fg_Run (d + 4) 77 0 [some (.ref 0), some (.int a)] [] σ Q := by
  have hx : ∀ u, fg_sm fg_pX σ u → Q (fg_toA z w a) u := fun u m => H u (m.wk fg_pXC) (h.x m)
  have H := hx σ fg_sm.rfl'
  have X := h.2.1
  have hf := fg_p10 X.2.1.1.2.2.2
  refine b_FS_together_0 ⟨fg_kd6 X.1, fg_use (r_SH_hasAll X.1 X.2.1 X.2.2.1 (fg_bt (fun e => ?_) (fun e => ?_)))⟩
  · obtain ⟨g, hg, rfl⟩ := fg_isn_t e (by omega)
    refine fg_use (r_FS_flyTogether X (by omega) (fun u m => ?_))
    have Hu := hx u (m.wk fg_pLX)
    rw [fg_toA, if_pos e, nI_clamp (by omega)] at Hu
    refine fg_bt' (fun q => ?_) (fun q => ?_)
    · rw [q] at Hu
      exact Hu
    · rw [q] at Hu
      exact Hu
  · rw [fg_toA, if_neg (by rw [e]; decide)] at H
    exact H
theorem c_MO_together {a : Int32} (h : fg_RI σ z w P I T v s R B) (H : ∀ u, fg_sm fg_pN σ u → fg_RI u z w P I T v s R B → Q (fg_toA z w a) u) : fg_Run (d + 4) 152 0 [some (.ref 187), some (.int a)] [] σ Q := by
  have hx : ∀ u, fg_sm fg_pM σ u → Q (fg_toA z w a) u := fun u m => H u (m.wk fg_pMN) (h.m m)
  have H := hx σ fg_sm.rfl'
  obtain ⟨h1, ⟨M, W⟩, -⟩ := h
  have hf := fg_p10 M.1.1.2.2.2
  refine b_MO_together_0 (fg_use (r_MO_areSignals M.1 M.2.1 (fg_bt (fun e => ?_) (fun e => ?_))))
  · obtain ⟨g, hg, rfl⟩ := fg_isn_t e (by omega)
    refine fg_use (r_MO_fly M (by omega) (fun u m => ?_))
    have Hu := hx u (m.wk fg_pRM)
    rw [fg_toA, if_pos e, nI_clamp (by omega)] at Hu
    rw [h1]
    refine fg_bt' (fun q => ?_) (fun q => ?_)
    · rw [q] at Hu
      exact Hu
    · rw [q] at Hu
      exact Hu
  · rw [fg_toA, if_neg (by rw [e]; decide)] at H
    exact H
end
