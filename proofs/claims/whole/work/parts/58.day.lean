/-! DAY, ANEW, WEATHER -/
def fg_rfd (z : fg_Z) (w : Nat → Int32) (a : Int32) : Int32 := if fg_isr a 1 60 = true then (if fg_zH z = 0 then -1000000003 else if w 60 ≤ 9000 then 0 else -1000000004) else -1000000002
def fg_dys (z : fg_Z) (w : Nat → Int32) : Nat → Nat → Int32
  | 0 => w
  | n + 1 => fg_wD z (fg_dys z w n)
def fg_daW (z : fg_Z) (w : Nat → Int32) (a : Int32) : Nat → Int32 := if fg_rfd z w a = 0 then fg_dys z w a.toNatClampNeg else w
def fg_daP (z : fg_Z) (w : Nat → Int32) (P : fg_GP) (a : Int32) : fg_GP := if fg_rfd z w a = 0 then fg_psh P w else P
def fg_daA (z : fg_Z) (w : Nat → Int32) (a : Int32) : Int32 := if fg_rfd z w a = 0 then nI (fg_tn z (fg_dys z w a.toNatClampNeg)) else fg_rfd z w a
/-- the answer of clearNow -/
def fg_clA (z : fg_Z) (w : Nat → Int32) : Int32 := nI (fg_set (fg_clr z (fg_s0 z (fg_tn z w)) (fg_lw w (w 58).toNatClampNeg (w 59).toNatClampNeg)) (fg_zs z))
section
variable {d : Nat} {σ u : fg_St} {Q : Int32 → fg_St → Prop} {z : fg_Z} {w w' : Nat → Int32} {P P' : fg_GP} {I : fg_GI} {T : fg_GT} {v : Int32} {s : Nat} {R : fg_GR} {B : fg_GB}
theorem fg_rfd_0 {a : Int32} (W : fg_Wk z w) (h : fg_rfd z w a = 0) : ∃ n c : Nat, n ≤ 60 ∧ a = nI n ∧ ¬ fg_zH z = 0 ∧ c ≤ 9000 ∧ w 60 = nI c := by
  unfold fg_rfd at h
  split at h
  · rename_i o
    split at h
    · exact absurd h (by decide)
    · rename_i h0
      split at h
      · rename_i h9
        obtain ⟨n, _, hn, e⟩ := fg_isr_t o (by decide)
        obtain ⟨c, hc, ec⟩ := W.B.1
        rw [ec] at h9
        exact ⟨n, c, hn, e, h0, (nI_leI (b := 9000) (by omega) (by decide)).mp h9, ec⟩
      · exact absurd h (by decide)
  · exact absurd h (by decide)
theorem r_FS_refusedDays {a : Int32} (X : fg_XI σ z w) (H : Q (fg_rfd z w a) σ) : fg_Run (d + 1) 89 0 [some (.ref 0), some (.int a)] [] σ Q := by
  have out : fg_isr a 1 60 = false → Q (-1000000002) σ := fun e => by rw [fg_rfd, e] at H; exact H
  refine b_FS_refusedDays_0 ⟨fun q => out (fg_isr_lo (lo := 1) (by decide) q), fun q => ⟨fun q2 => ⟨fg_kd6 X.1, fg_use (r_SH_stands X.1 X.2.1 X.2.2.1 (fg_bt (fun e => ?_) (fun e => ?_)))⟩, fun q2 => out (fg_isr_hi (hi := 60) (by decide) q2)⟩⟩
  · have o := fg_isr_ok (lo := 1) (hi := 60) (by decide) (by decide) q q2
    have e := of_decide_eq_true e
    rw [X.2.2.2.1.f9]
    rw [fg_rfd, if_pos o, if_neg (by omega)] at H
    refine ⟨fun q3 => ?_, fun q3 => ?_⟩
    · rw [if_pos q3] at H
      exact H
    · rw [if_neg q3] at H
      exact H
  · have o := fg_isr_ok (lo := 1) (hi := 60) (by decide) (by decide) q q2
    have e := of_decide_eq_false e
    rw [fg_rfd, if_pos o, if_pos (by omega)] at H
    exact H
theorem r_MO_daysRefused {a : Int32} (M : fg_MI σ z) (h1 : fg_R σ 191 = w) (H : Q (fg_rfd z w a) σ) : fg_Run (d + 1) 173 0 [some (.ref 187), some (.int a)] [] σ Q := by
  have h3 := M.1.1.1
  have z0 : nI (fg_zH z) = 0 ↔ fg_zH z = 0 := nI_eq (b := 0) (by omega) (by decide)
  refine b_MO_daysRefused_0 (fg_use (r_MO_inr (lo := 1) (hi := 60) rfl rfl (fg_bt (fun o => ?_) (fun o => ?_))))
  · rw [fg_rfd, if_pos o] at H
    rw [M.2.1.1.1, z0, h1]
    refine ⟨fun q => ⟨fun q3 => ?_, fun q3 => ?_⟩, fun q => ?_⟩
    · rw [if_neg q, if_pos q3] at H
      exact H
    · rw [if_neg q, if_neg q3] at H
      exact H
    · rw [if_pos q] at H
      exact H
  · rw [fg_rfd, o] at H
    exact H
theorem fg_dys_60 (hz : fg_Zok z) {c : Nat} (h : w 60 = nI c) : ∀ n, fg_dys z w n 60 = nI (c + n) := by
  intro n
  induction n with
  | zero => exact h
  | succ n ih => rw [fg_dys, fg_wD_60 hz, ih, nI_1]; rfl
theorem fg_wD_pt (pt : fg_Pt z w) (hz : fg_Zok z) : fg_Pt z (fg_wD z w) := by
  have h10 := hz.1.2.2.1
  refine pt.o (fun g hg => ?_)
  rw [fg_wD, fg_ut_n (by omega)]
  have : ∀ n, fg_dy w n g = w g := by
    intro n
    induction n with
    | zero => rfl
    | succ n ih => rw [fg_dy, fg_q1_n (by omega) (by omega), ih]
  exact this _
theorem l_FS_day {n c : Nat} (hn : n ≤ 60) (hc : c ≤ 9000) (ec : w 60 = nI c) (H : ∀ u, fg_sm fg_pC σ u → fg_CI u z (fg_dys z w n) P I T v s R B → Q (nI (fg_tn z (fg_dys z w n))) u) : ∀ m i (τ : fg_St), i + m = n → fg_sm fg_pC σ τ → fg_CI τ z (fg_dys z w i) P I T v s R B → fg_Run (d + 2) 70 25 [some (.ref 0), some (.int (nI n)), none, some (.int (nI i))] [] τ Q := by
  intro m
  induction m with
  | zero =>
    intro i τ hi m1 h
    have hi : i = n := by omega
    subst hi
    refine b_FS_day_25 ⟨fun _ => ?_, fun q => absurd (nI_le (Nat.le_refl _) (by omega)) q⟩
    rw [h.2.1.2.2.2.1.f7]
    exact H τ m1 h
  | succ m ih =>
    intro i τ hi m1 h
    have X := h.2.1
    refine b_FS_day_25 ⟨fun q => absurd q (nI_ge (by omega) (by omega)), fun _ => fg_use (r_DK_passDay X.1 X.2.1 X.2.2.2.2 X.2.2.2.1 X.2.2.1.1.2.2.1 (fun u m2 D => ?_))⟩
    rw [nI_1]
    exact ih (i + 1) u (by omega) (m1.tr (m2.wk fg_p15C)) (h.dck m2 D (X.2.2.2.2.wD X.2.1 (fg_dys_60 X.2.1 ec i) (by omega)))
theorem l_MO_day {n c : Nat} (hn : n ≤ 60) (hc : c ≤ 9000) (ec : w 60 = nI c) (H : ∀ u, fg_sm fg_pN σ u → fg_RI u z (fg_dys z w n) P I T v s R B → Q (nI (fg_tn z (fg_dys z w n))) u) : ∀ m i (τ : fg_St), i + m = n → fg_sm fg_pN σ τ → fg_RI τ z (fg_dys z w i) P I T v s R B → fg_Run (d + 2) 174 18 [some (.ref 187), some (.int (nI n)), none, some (.int (nI i))] [] τ Q := by
  intro m
  induction m with
  | zero =>
    intro i τ hi m1 h
    have hi : i = n := by omega
    subst hi
    have M := h.2.1.1
    refine b_MO_day_18 ⟨fun _ => fg_use (r_MO_tornFlags M.1.1.2.2.1 M.2.1.1.2.2.1 ?_), fun q => absurd (nI_le (Nat.le_refl _) (by omega)) q⟩
    rw [h.1]
    exact H τ m1 h
  | succ m ih =>
    intro i τ hi m1 h
    have M := h.2.1.1
    refine b_MO_day_18 ⟨fun q => absurd q (nI_ge (by omega) (by omega)), fun _ => fg_use (r_MO_pass M.1 h.1 M.2.1.1.2.2.1 (fun u m2 e => ?_))⟩
    rw [nI_1]
    exact ih (i + 1) u (by omega) (m1.tr (m2.wk fg_p191N)) (h.rwx m2 e (h.2.1.2.wD M.1 (fg_dys_60 M.1 ec i) (by omega)) (fg_wD_pt h.pt M.1))
theorem c_FS_day {a : Int32} (h : fg_CI σ z w P I T v s R B) (H : ∀ u, fg_sm fg_pC σ u → fg_CI u z (fg_daW z w a) (fg_daP z w P a) I T v s R B → Q (fg_daA z w a) u) : fg_Run (d + 3) 70 0 [some (.ref 0), some (.int a), none, none] [] σ Q := by
  have X := h.2.1
  refine b_FS_day_0 (fg_use (r_FS_refusedDays X ⟨fun q => ?_, fun q => ?_⟩))
  · obtain ⟨n, c, hn, rfl, h0, hc, ec⟩ := fg_rfd_0 X.2.2.2.2 q
    rw [fg_daW, fg_daP, fg_daA, if_pos q, if_pos q, if_pos q, nI_clamp (by omega)] at H
    refine fg_use (r_PA_remember X h.2.2.1 (fun u2 m2 hP => ?_))
    exact l_FS_day hn hc ec H n 0 u2 (by omega) (m2.wk fg_pPaC) (h.rem m2 hP)
  · rw [fg_daW, fg_daP, fg_daA, if_neg q, if_neg q, if_neg q] at H
    exact H σ fg_sm.rfl' h
theorem c_MO_day {a : Int32} (h : fg_RI σ z w P I T v s R B) (H : ∀ u, fg_sm fg_pN σ u → fg_RI u z (fg_daW z w a) (fg_daP z w P a) I T v s R B → Q (fg_daA z w a) u) : fg_Run (d + 2) 174 0 [some (.ref 187), some (.int a), none, none] [] σ Q := by
  have M := h.2.1.1
  refine b_MO_day_0 (fg_use (r_MO_daysRefused M h.1 ⟨fun q => ?_, fun q => ?_⟩))
  · obtain ⟨n, c, hn, rfl, h0, hc, ec⟩ := fg_rfd_0 h.2.1.2 q
    rw [fg_daW, fg_daP, fg_daA, if_pos q, if_pos q, if_pos q, nI_clamp (by omega)] at H
    refine fg_use (r_MO_remember h.1 h.2.1.2 h.pt h.2.2.1 (fun u2 m2 n2 hP => ?_))
    exact l_MO_day hn hc ec H n 0 u2 (by omega) m2 (h.rem n2 hP)
  · rw [fg_daW, fg_daP, fg_daA, if_neg q, if_neg q, if_neg q] at H
    exact H σ fg_sm.rfl' h
theorem r_FS_clN (X : fg_XI σ z w) (H : ∀ u, fg_sm fg_pX σ u → Q (fg_clA z w) u) : fg_Run (d + 5) 96 0 [some (.ref 0)] [] σ Q := by
  obtain ⟨_, ⟨a, ha, ea⟩, ⟨b, hb, eb⟩⟩ := X.2.2.2.2.B
  refine r_FS_clearNow X ha hb ea eb (fun u m => ?_)
  have := H u m
  rw [fg_clA, ea, eb, nI_clamp (by omega), nI_clamp (by omega)] at this
  exact this
theorem r_MO_clN (h : fg_RI σ z w P I T v s R B) (H : ∀ u, fg_sm fg_pN σ u → fg_RI u z w P I T v s R B → Q (fg_clA z w) u) : fg_Run (d + 5) 142 0 [some (.ref 187)] [] σ Q := by
  obtain ⟨_, ⟨a, ha, ea⟩, ⟨b, hb, eb⟩⟩ := h.2.1.2.B
  have h1 := h.1
  refine r_MO_clearNow ha hb h.2.1.1 (by rw [h1]; exact ea) (by rw [h1]; exact eb) (fun u m => ?_)
  have mM : fg_sm fg_pM σ u := m.wk (fun g hg => by simp [fg_pM] at hg; simp [fg_pK]; omega)
  have := H u (mM.wk fg_pMN) (h.m mM)
  rw [fg_clA, ea, eb, nI_clamp (by omega), nI_clamp (by omega)] at this
  rw [h1]
  exact this
def fg_anO (z : fg_Z) (w : Nat → Int32) (f k a b : Int32) : Bool := (fg_isn f (fg_zf z) && (fg_isr k 0 3 && (fg_isr a 0 4 && fg_isr b 0 4))) && decide (w (20 + f.toNatClampNeg) = -1)
def fg_anR (w : Nat → Int32) (f k a b : Int32) : Nat → Int32 := fg_ut (fg_wS w f.toNatClampNeg) f.toNatClampNeg (nI (100 * k.toNatClampNeg + 10 * a.toNatClampNeg + b.toNatClampNeg))
def fg_anW (z : fg_Z) (w : Nat → Int32) (f k a b : Int32) : Nat → Int32 := if fg_anO z w f k a b = true then fg_anR w f k a b else w
def fg_anP (z : fg_Z) (w : Nat → Int32) (P : fg_GP) (f k a b : Int32) : fg_GP := if fg_anO z w f k a b = true then fg_psh P w else P
def fg_anA (z : fg_Z) (w : Nat → Int32) (f k a b : Int32) : Int32 := if fg_isn f (fg_zf z) then (if fg_isr k 0 3 && (fg_isr a 0 4 && fg_isr b 0 4) then (if fg_anO z w f k a b = true then fg_clA z (fg_anR w f k a b) else -1000000003) else -1000000002) else -1000000001
theorem c_FS_anew {f k a b : Int32} (h : fg_CI σ z w P I T v s R B) (H : ∀ u, fg_sm fg_pC σ u → fg_CI u z (fg_anW z w f k a b) (fg_anP z w P f k a b) I T v s R B → Q (fg_anA z w f k a b) u) : fg_Run (d + 6) 72 0 [some (.ref 0), some (.int f), some (.int k), some (.int a), some (.int b)] [] σ Q := by
  have X := h.2.1
  have h10 := X.2.1.1.2.2.1
  refine b_FS_anew_0 ⟨fg_kd6 X.1, fg_use (r_SH_hasFlag X.1 X.2.1 X.2.2.1 (fg_bt (fun e1 => ?_) (fun e1 => ?_)))⟩
  · obtain ⟨x, hx, rfl⟩ := fg_isn_t e1 (by omega)
    have out : (fg_isr k 0 3 && (fg_isr a 0 4 && fg_isr b 0 4)) = false → Q (-1000000002) σ := fun q => by
      rw [fg_anW, fg_anP, fg_anA, fg_anO, e1, q] at H
      exact H σ fg_sm.rfl' h
    refine ⟨fun q => out (by rw [fg_isr_lo (lo := 0) (by decide) q]; rfl), fun q => ⟨fun q2 => out (by rw [fg_isr_gt (hi := 3) (by decide) q2]; rfl), fun q2 => ⟨fun q3 => out (by rw [fg_isr_lo (lo := 0) (hi := 4) (by decide) q3]; simp), fun q3 => ⟨fun q4 => out (by rw [fg_isr_gt (lo := 0) (hi := 4) (by decide) q4]; simp), fun q4 => ⟨fun q5 => out (by rw [fg_isr_lo (a := b) (lo := 0) (hi := 4) (by decide) q5]; simp), fun q5 => ⟨fun q6 => ?_, fun q6 => out (by rw [fg_isr_hi (a := b) (lo := 0) (hi := 4) (by decide) q6]; simp)⟩⟩⟩⟩⟩⟩
    have o1 := fg_isr_ok (lo := 0) (hi := 3) (by decide) (by decide) q (Int32.not_lt.mp q2)
    have o2 := fg_isr_ok (lo := 0) (hi := 4) (by decide) (by decide) q3 (Int32.not_lt.mp q4)
    have o3 := fg_isr_ok (lo := 0) (hi := 4) (by decide) (by decide) q5 q6
    obtain ⟨k, _, hk, rfl⟩ := fg_isr_t o1 (by decide)
    obtain ⟨a, _, ha, rfl⟩ := fg_isr_t o2 (by decide)
    obtain ⟨b, _, hb, rfl⟩ := fg_isr_t o3 (by decide)
    rw [fg_anW, fg_anP, fg_anA, fg_anO, fg_anR, e1, o1, o2, o3, nI_clamp (by omega), nI_clamp (by omega), nI_clamp (by omega), nI_clamp (by omega)] at H
    rw [nI_clamp (by omega), X.2.2.2.1.r4 hx]
    have vi : vp_in (nI x) 10 := vp_in_nI (by omega) (by decide)
    refine ⟨vi, fun q7 => fg_use (r_PA_remember X h.2.2.1 (fun u2 m2 hP => ⟨vi, vi, vi, ?_⟩)), fun q7 => ?_⟩
    · rw [decide_eq_true q7] at H
      have h2 := h.rem m2 hP
      have m3 : fg_sm (fg_pH 15) u2 (fg_sR (fg_sR (fg_sR u2 16 x (nI k)) 17 x (nI a)) 18 x (nI b)) := ((fg_sm_R (fg_p15 (by omega) (by omega))).tr (fg_sm_R (fg_p15 (by omega) (by omega)))).tr (fg_sm_R (fg_p15 (by omega) (by omega)))
      have D3 := h2.2.1.2.2.2.1.u0 X.2.1 hx (k := k) (a := a) (b := b) ⟨hk, ha, hb⟩
      refine fg_use (r_DK_mend X.2.1 D3 hx (fun u4 m4 D4 => ?_))
      have ew : fg_wS (fg_ut w x (nI (100 * k + 10 * a + b))) x = fg_ut (fg_wS w x) x (nI (100 * k + 10 * a + b)) := by
        rw [fg_wS, fg_ut_c (a := x) (by omega), fg_ut_c (a := x) (by omega), fg_wS]
      rw [ew] at D4
      have h4 := h2.dck (m3.tr m4) D4 ((h2.2.1.2.2.2.2.S X.2.1 hx).pt X.2.1 hx)
      refine fg_use (r_FS_clN h4.2.1 (fun u5 m5 => ?_))
      exact H u5 (((m2.wk fg_pPaC).tr ((m3.tr m4).wk fg_p15C)).tr (m5.wk fg_pXC)) (h4.x m5)
    · rw [decide_eq_false q7] at H
      exact H σ fg_sm.rfl' h
  · rw [fg_anW, fg_anP, fg_anA, fg_anO, e1] at H
    exact H σ fg_sm.rfl' h
theorem c_MO_anew {f k a b : Int32} (h : fg_RI σ z w P I T v s R B) (H : ∀ u, fg_sm fg_pN σ u → fg_RI u z (fg_anW z w f k a b) (fg_anP z w P f k a b) I T v s R B → Q (fg_anA z w f k a b) u) : fg_Run (d + 6) 178 0 [some (.ref 187), some (.int f), some (.int k), some (.int a), some (.int b)] [] σ Q := by
  have M := h.2.1.1
  have hz := M.1
  have h10 := hz.1.2.2.1
  refine b_MO_anew_0 (fg_use (r_MO_isFlag hz M.2.1 (fg_bt (fun e1 => ?_) (fun e1 => ?_))))
  · obtain ⟨x, hx, rfl⟩ := fg_isn_t e1 (by omega)
    have out : (fg_isr k 0 3 && (fg_isr a 0 4 && fg_isr b 0 4)) = false → Q (-1000000002) σ := fun q => by
      rw [fg_anW, fg_anP, fg_anA, fg_anO, e1, q] at H
      exact H σ fg_sm.rfl' h
    refine fg_use (r_MO_inr (lo := 0) (hi := 3) rfl rfl (fg_bt' (fun o1 => fg_use (r_MO_inr (lo := 0) (hi := 4) rfl rfl (fg_bt' (fun o2 => fg_use (r_MO_inr (lo := 0) (hi := 4) rfl rfl (fg_bt (fun o3 => ?_) (fun o3 => out (by rw [o3]; simp))))) (fun o2 => out (by rw [o2]; simp))))) (fun o1 => out (by rw [o1]; rfl))))
    obtain ⟨k, _, hk, rfl⟩ := fg_isr_t o1 (by decide)
    obtain ⟨a, _, ha, rfl⟩ := fg_isr_t o2 (by decide)
    obtain ⟨b, _, hb, rfl⟩ := fg_isr_t o3 (by decide)
    rw [fg_anW, fg_anP, fg_anA, fg_anO, fg_anR, e1, o1, o2, o3, nI_clamp (by omega), nI_clamp (by omega), nI_clamp (by omega), nI_clamp (by omega)] at H
    have i := fg_ix (c := 20) (i := x) (n := 61) (by omega) (by decide)
    have ep : 100 * nI k + 10 * nI a + nI b = nI (100 * k + 10 * a + b) := by
      rw [show (100 : Int32) = nI 100 from rfl, show (10 : Int32) = nI 10 from rfl, pk_mul, pk_mul, nI_add, nI_add]
    rw [show (20 : Int32) = nI 20 from rfl, i.2, h.1, ep, nI_clamp (by omega)]
    refine ⟨i.1, fun q7 => fg_use (r_MO_remember h.1 h.2.1.2 h.pt h.2.2.1 (fun u2 m2 n2 hP => ?_)), fun q7 => ?_⟩
    · rw [decide_eq_true q7] at H
      have h2 := h.rem n2 hP
      refine fg_use (r_MO_sewNow h2.1 (by omega) (fun u3 m3 e3 => ⟨vp_in_nI (by omega) (by decide), ?_⟩))
      have m4 : fg_sm fg_p191 u3 (fg_sR u3 191 x (nI (100 * k + 10 * a + b))) := fg_sm_R (by decide)
      have h4 := h2.rwx (m3.tr m4) (by rw [fg_row_sR, e3]) ((h2.2.1.2.S hz hx).pt hz hx) (fun g hg => by
        by_cases e : g = x
        · rw [e, fg_ut_s]
          exact ⟨k, a, b, ⟨hk, ha, hb⟩, rfl⟩
        · rw [fg_ut_n e]
          exact fg_wS_pt h2.pt hz g hg)
      refine fg_use (r_MO_clN h4 (fun u5 m5 h5 => ?_))
      exact H u5 ((m2.tr ((m3.tr m4).wk fg_p191N)).tr m5) h5
    · rw [decide_eq_false q7] at H
      exact H σ fg_sm.rfl' h
  · rw [fg_anW, fg_anP, fg_anA, fg_anO, e1] at H
    exact H σ fg_sm.rfl' h
/-- weather: b is 0 or 1 -/
def fg_wb (b : Int32) : Nat := if b = 0 then 0 else 1
def fg_weO (z : fg_Z) (w : Nat → Int32) (a b : Int32) : Bool := (fg_isr a 0 2 && decide (¬ fg_zH z = 0)) && !(decide (w 58 = a ∧ w 59 = nI (fg_wb b)))
def fg_weR (w : Nat → Int32) (a b : Int32) : Nat → Int32 := fg_ut (fg_ut w 58 a) 59 (nI (fg_wb b))
def fg_weW (z : fg_Z) (w : Nat → Int32) (a b : Int32) : Nat → Int32 := if fg_weO z w a b = true then fg_weR w a b else w
def fg_weP (z : fg_Z) (w : Nat → Int32) (P : fg_GP) (a b : Int32) : fg_GP := if fg_weO z w a b = true then fg_psh P w else P
def fg_weA (z : fg_Z) (w : Nat → Int32) (a b : Int32) : Int32 := if fg_isr a 0 2 then (if fg_weO z w a b = true then fg_clA z (fg_weR w a b) else -1000000003) else -1000000002
theorem fg_wb_le (b : Int32) : fg_wb b ≤ 1 := by unfold fg_wb; split <;> omega
theorem c_FS_weather {a b : Int32} (h : fg_CI σ z w P I T v s R B) (H : ∀ u, fg_sm fg_pC σ u → fg_CI u z (fg_weW z w a b) (fg_weP z w P a b) I T v s R B → Q (fg_weA z w a b) u) : fg_Run (d + 6) 73 0 [some (.ref 0), some (.int a), some (.int b), none] [] σ Q := by
  have X := h.2.1
  have out : fg_isr a 0 2 = false → Q (-1000000002) σ := fun q => by
    rw [fg_weW, fg_weP, fg_weA, fg_weO, q] at H
    exact H σ fg_sm.rfl' h
  have go : fg_weO z w a b = true → fg_isr a 0 2 = true → ∃ P, fg_Run (d + 5) 22 0 [some (.ref 23), some (.ref 15)] [] σ P ∧ ∀ x3 u4, P x3 u4 → (∃ P, fg_Run (d + 5) 96 0 [some (.ref 0)] [] (fg_sF (fg_sF u4 15 10 a) 15 11 (nI (fg_wb b))) P ∧ ∀ x5 u6, P x5 u6 → Q x5 u6) := fun o o1 => by
    rw [fg_weW, fg_weP, fg_weA, o, o1] at H
    refine fg_use (r_PA_remember X h.2.2.1 (fun u2 m2 hP => ?_))
    have h2 := h.rem m2 hP
    obtain ⟨a, _, ha, rfl⟩ := fg_isr_t o1 (by decide)
    have m3 : fg_sm (fg_pH 15) u2 (fg_sF (fg_sF u2 15 10 (nI a)) 15 11 (nI (fg_wb b))) := (fg_sm_F (fg_p15 (by omega) (by omega))).tr (fg_sm_F (fg_p15 (by omega) (by omega)))
    have h4 := h2.dck m3 ((h2.2.1.2.2.2.1.u10 X.2.1).u11 X.2.1) (h2.2.1.2.2.2.2.hw X.2.1 ha (fg_wb_le b))
    refine fg_use (r_FS_clN h4.2.1 (fun u5 m5 => ?_))
    exact H u5 (((m2.wk fg_pPaC).tr (m3.wk fg_p15C)).tr (m5.wk fg_pXC)) (h4.x m5)
  have nay : fg_weO z w a b = false → fg_isr a 0 2 = true → Q (-1000000003) σ := fun o o1 => by
    rw [fg_weW, fg_weP, fg_weA, o, o1] at H
    exact H σ fg_sm.rfl' h
  have f10 := X.2.2.2.1.f10
  have f11 := X.2.2.2.1.f11
  refine b_FS_weather_0 ⟨fun q => out (fg_isr_lo (lo := 0) (by decide) q), fun q => ⟨fun q2 => ?_, fun q2 => out (fg_isr_hi (hi := 2) (by decide) q2)⟩⟩
  have o1 := fg_isr_ok (lo := 0) (hi := 2) (by decide) (by decide) q q2
  refine ⟨fun b0 => ⟨fg_kd6 X.1, fg_use (r_SH_stands X.1 X.2.1 X.2.2.1 (fg_bt' (fun e => ?_) (fun e => ?_)))⟩, fun b0 => ⟨fg_kd6 X.1, fg_use (r_SH_stands X.1 X.2.1 X.2.2.1 (fg_bt' (fun e => ?_) (fun e => ?_)))⟩⟩
  · have e := of_decide_eq_true e
    have eb : fg_wb b = 0 := if_pos b0
    rw [eb] at go
    rw [f10, f11]
    refine ⟨fun q3 => go (by simp [fg_weO, o1, eb, q3]; omega) o1, fun q3 => ⟨fun q4 => go ?_ o1, fun q4 => nay ?_ o1⟩⟩
    · have : ¬ w 59 = nI 0 := q4
      simp [fg_weO, o1, eb, q3, this]
      omega
    · have : w 59 = nI 0 := q4
      simp [fg_weO, o1, eb, q3, this]
  · have e := of_decide_eq_false e
    exact nay (by simp [fg_weO, show fg_zH z = 0 by omega]) o1
  · have e := of_decide_eq_true e
    have eb : fg_wb b = 1 := if_neg b0
    rw [eb] at go
    rw [f10, f11]
    refine ⟨fun q3 => go (by simp [fg_weO, o1, eb, q3]; omega) o1, fun q3 => ⟨fun q4 => go ?_ o1, fun q4 => nay ?_ o1⟩⟩
    · have : ¬ w 59 = nI 1 := q4
      simp [fg_weO, o1, eb, q3, this]
      omega
    · have : w 59 = nI 1 := q4
      simp [fg_weO, o1, eb, q3, this]
  · have e := of_decide_eq_false e
    exact nay (by simp [fg_weO, show fg_zH z = 0 by omega]) o1
theorem c_MO_weather {a b : Int32} (h : fg_RI σ z w P I T v s R B) (H : ∀ u, fg_sm fg_pN σ u → fg_RI u z (fg_weW z w a b) (fg_weP z w P a b) I T v s R B → Q (fg_weA z w a b) u) : fg_Run (d + 6) 179 0 [some (.ref 187), some (.int a), some (.int b), none] [] σ Q := by
  have M := h.2.1.1
  have hz := M.1
  have h3 := hz.1.1
  have z0 : nI (fg_zH z) = 0 ↔ fg_zH z = 0 := nI_eq (b := 0) (by omega) (by decide)
  have go : fg_weO z w a b = true → fg_isr a 0 2 = true → ∃ P, fg_Run (d + 5) 166 0 [some (.ref 187), none] [] σ P ∧ ∀ x3 u4, P x3 u4 → (∃ P, fg_Run (d + 5) 142 0 [some (.ref 187)] [] (fg_sR (fg_sR u4 191 58 a) 191 59 (nI (fg_wb b))) P ∧ ∀ x5 u6, P x5 u6 → Q x5 u6) := fun o o1 => by
    rw [fg_weW, fg_weP, fg_weA, o, o1] at H
    refine fg_use (r_MO_remember h.1 h.2.1.2 h.pt h.2.2.1 (fun u2 m2 n2 hP => ?_))
    have h2 := h.rem n2 hP
    have h10 := hz.1.2.2.1
    obtain ⟨a, _, ha, rfl⟩ := fg_isr_t o1 (by decide)
    have m3 : fg_sm fg_p191 u2 (fg_sR (fg_sR u2 191 58 (nI a)) 191 59 (nI (fg_wb b))) := (fg_sm_R (by decide)).tr (fg_sm_R (by decide))
    have h4 := h2.rwx m3 (by rw [fg_row_sR, fg_row_sR, h2.1]) (h2.2.1.2.hw hz ha (fg_wb_le b)) (h2.pt.o (fun g hg => by rw [fg_ut_n (by omega), fg_ut_n (by omega)]))
    refine fg_use (r_MO_clN h4 (fun u5 m5 h5 => ?_))
    exact H u5 ((m2.tr (m3.wk fg_p191N)).tr m5) h5
  have nay : fg_weO z w a b = false → fg_isr a 0 2 = true → Q (-1000000003) σ := fun o o1 => by
    rw [fg_weW, fg_weP, fg_weA, o, o1] at H
    exact H σ fg_sm.rfl' h
  refine b_MO_weather_0 (fg_use (r_MO_inr (lo := 0) (hi := 2) rfl rfl (fg_bt (fun o1 => ?_) (fun o1 => ?_))))
  · rw [M.2.1.1.1, z0, h.1]
    refine ⟨fun b0 => ⟨fun e => nay (by simp [fg_weO, e]) o1, fun e => ?_⟩, fun b0 => ⟨fun e => nay (by simp [fg_weO, e]) o1, fun e => ?_⟩⟩
    · have eb : fg_wb b = 0 := if_pos b0
      rw [eb] at go
      refine ⟨fun q3 => go (by simp [fg_weO, o1, eb, q3]; omega) o1, fun q3 => ⟨fun q4 => go ?_ o1, fun q4 => nay ?_ o1⟩⟩
      · have : ¬ w 59 = nI 0 := q4
        simp [fg_weO, o1, eb, q3, this]
        omega
      · have : w 59 = nI 0 := q4
        simp [fg_weO, o1, eb, q3, this]
    · have eb : fg_wb b = 1 := if_neg b0
      rw [eb] at go
      refine ⟨fun q3 => go (by simp [fg_weO, o1, eb, q3]; omega) o1, fun q3 => ⟨fun q4 => go ?_ o1, fun q4 => nay ?_ o1⟩⟩
      · have : ¬ w 59 = nI 1 := q4
        simp [fg_weO, o1, eb, q3, this]
        omega
      · have : w 59 = nI 1 := q4
        simp [fg_weO, o1, eb, q3, this]
  · rw [fg_weW, fg_weP, fg_weA, fg_weO, o1] at H
    exact H σ fg_sm.rfl' h
end
