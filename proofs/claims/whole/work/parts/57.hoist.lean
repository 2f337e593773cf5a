/-! HOIST, HAUL, SEW -/
theorem fg_rx_row {z : fg_Z} {s : Nat × Nat} {e : Nat} (hz : fg_Zok z) (he : e < fg_zs z) (hu : fg_upb z s e = true) (q : Nat) : (if q < fg_zl z e then nI (fg_rw z e s q) else -1) = fg_pi (fg_rx z s e q) := by
  have h10 := hz.1.2.2.1
  unfold fg_rx fg_pi
  by_cases e1 : q < fg_zl z e
  · rw [if_pos e1, hu]
    simp only [e1, decide_true, Bool.and_self, if_true]
    rcases fg_rw_in hz he (Nat.le_refl _) hu e1 with x | x
    · rw [if_neg (by omega)]
    · have := hz.2.1 e he
      rw [if_neg (by omega)]
  · rw [if_neg e1]
    simp [e1]
section
variable {d : Nat} {σ u : fg_St} {Q : Int32 → fg_St → Prop} {z : fg_Z} {w w' : Nat → Int32} {P P' : fg_GP} {I : fg_GI} {T : fg_GT} {v : Int32} {s : Nat} {R : fg_GR} {B : fg_GB}
theorem fg_CI.rem (h : fg_CI σ z w P I T v s R B) (m : fg_sm fg_pPa σ u) (hP : fg_PaX u z P') : fg_CI u z w P' I T v s R B :=
  h.pa m (fun g h1 h2 h3 => by simp [fg_pPa]; omega) hP
theorem fg_CI.dck (h : fg_CI σ z w P I T v s R B) (m : fg_sm (fg_pH 15) σ u) (D : fg_DkX u 15 z w') (W : fg_Wk z w') : fg_CI u z w' P I T v s R B :=
  h.dk m (fun g h1 h2 h3 => fg_pH_no (by omega)) D W
theorem fg_pPaC : ∀ g, fg_pC g = false → fg_pPa g = false := by
  intro g h
  have h : ¬ g < 187 := of_decide_eq_false h
  simp [fg_pPa]
  omega
theorem fg_p15C : ∀ g, fg_pC g = false → fg_pH 15 g = false := by
  intro g h
  have h : ¬ g < 187 := of_decide_eq_false h
  exact fg_pH_no (by omega)
theorem fg_p191N : ∀ g, fg_pN g = false → fg_p191 g = false := by
  intro g h
  have h : ¬ 187 ≤ g := of_decide_eq_false h
  simp [fg_p191]
  omega
theorem fg_RI.rem (h : fg_RI σ z w P I T v s R B) (n : fg_sn (fun k => k == 30) (fun g => g == 204) σ u) (hP : fg_PaM u z P') : fg_RI u z w P' I T v s R B := by
  have pt := h.2.1.1.2.2.2
  rw [h.1] at pt
  have hs := h.2.2.2.2.2.2.1
  exact h.row n (fun k h1 h2 => by simpa using h1) (fun g h1 h2 h3 => by simpa using h2) ((funext (n.2 191 rfl)).trans h.1) h.2.1.2 pt hP ⟨hs.1, (n.1 8 rfl).trans hs.2⟩
theorem fg_RI.rwx (h : fg_RI σ z w P I T v s R B) (m : fg_sm fg_p191 σ u) (e : fg_R u 191 = w') (W : fg_Wk z w') (pt : fg_Pt z w') : fg_RI u z w' P I T v s R B := by
  have hs := h.2.2.2.2.2.2.1
  have n := m.sn (by decide)
  exact h.row n (fun k h1 h2 => rfl) (fun g h1 h2 h3 => by simpa [fg_p191] using h1) e W pt (h.2.2.1.sn n rfl rfl) ⟨hs.1, (n.1 8 rfl).trans hs.2⟩
theorem fg_RI.pt (h : fg_RI σ z w P I T v s R B) : fg_Pt z w := by
  have pt := h.2.1.1.2.2.2
  rw [h.1] at pt
  exact pt
theorem fg_Pt.o (pt : fg_Pt z w) (e : ∀ g, g < fg_zf z → w' g = w g) : fg_Pt z w' := fun g hg => by
  obtain ⟨k, a, b, e1, e2⟩ := pt g hg
  exact ⟨k, a, b, e1, (e g hg).trans e2⟩
theorem r_FS_canHoist {h e : Nat} (X : fg_XI σ z w) (hh : h < fg_zH z) (he : e < fg_zs z) (H : ∀ u, fg_sm fg_pX σ u → (fg_upb z (fg_sf z w) e = true → w (43 + h) = -1 → ∀ q, q < 4 → fg_R u 32 q = fg_pi (fg_rx z (fg_sf z w) e q)) → Q (fg_b (decide (w (43 + h) = -1) && fg_upb z (fg_sf z w) e)) u) : fg_Run (d + 3) 88 0 [some (.ref 0), some (.int (nI h)), some (.int (nI e))] [] σ Q := by
  have h3 := X.2.1.1.1
  refine b_FS_canHoist_0 ⟨fg_kd6 X.1, fg_use (r_SH_hasLine X.1 X.2.1 X.2.2.1 ?_)⟩
  rw [fg_isn_nI hh (by omega)]
  refine ⟨fun q => absurd q (by decide), fun _ => ⟨vp_in_nI (by omega) (by decide), ?_⟩⟩
  rw [nI_clamp (by omega), X.2.2.2.1.r5 (by omega)]
  refine ⟨fun q => r_FT X he (fun u m ht => ⟨fg_b01 _, ?_⟩), fun q => ?_⟩
  · have := H u m (fun _ _ => fg_tkp_row X.2.1 he ht)
    rw [decide_eq_true q, Bool.true_and] at this
    exact this
  · have := H σ fg_sm.rfl' (fun _ y => absurd y q)
    rw [decide_eq_false q, Bool.false_and] at this
    exact this
theorem r_MO_canHoist {h e : Nat} (M : fg_MI σ z) (h1 : fg_R σ 191 = w) (hh : h < 3) (he : e < fg_zs z) (H : ∀ u, fg_sm fg_pR σ u → (fg_upb z (fg_sf z w) e = true → w (43 + h) = -1 → ∀ q, q < 4 → fg_R u 196 q = fg_pi (fg_rx z (fg_sf z w) e q)) → Q (fg_b (decide (w (43 + h) = -1) && fg_upb z (fg_sf z w) e)) u) : fg_Run (d + 3) 167 0 [some (.ref 187), some (.int (nI h)), some (.int (nI e))] [] σ Q := by
  have x := fg_ix (c := 43) (i := h) (n := 61) (by omega) (by decide)
  refine b_MO_canHoist_0 ?_
  rw [show (43 : Int32) = nI 43 from rfl, x.2, h1]
  refine ⟨x.1, fun q => ?_, fun q => r_MT M he (fun u m hr _ => ?_)⟩
  · have := H σ fg_sm.rfl' (fun _ y => absurd y q)
    rw [decide_eq_false q, Bool.false_and] at this
    exact this
  · rw [h1] at hr ⊢
    have := H u m (fun y _ t ht => (hr y t ht).trans (fg_rx_row M.1 he y t))
    rw [decide_eq_true q, Bool.true_and] at this
    refine fg_bt' (fun y => ?_) (fun y => ?_)
    · rw [y] at this
      exact this
    · rw [y] at this
      exact this
def fg_hoO (z : fg_Z) (w : Nat → Int32) (a b : Int32) : Bool := fg_isn a (fg_zH z) && (fg_isn b (fg_zs z) && (decide (w (43 + a.toNatClampNeg) = -1) && fg_upb z (fg_sf z w) b.toNatClampNeg))
def fg_hoW (z : fg_Z) (w : Nat → Int32) (a b : Int32) : Nat → Int32 := if fg_hoO z w a b = true then fg_wH z w a.toNatClampNeg b.toNatClampNeg else w
def fg_hoP (z : fg_Z) (w : Nat → Int32) (P : fg_GP) (a b : Int32) : fg_GP := if fg_hoO z w a b = true then fg_psh P w else P
def fg_hoA (z : fg_Z) (w : Nat → Int32) (a b : Int32) : Int32 := if fg_isn a (fg_zH z) && fg_isn b (fg_zs z) then (if fg_hoO z w a b = true then nI (fg_ns (fg_rx z (fg_sf z w) b.toNatClampNeg) 4) else -1000000003) else -1000000001
theorem fg_wH_pt {h e : Nat} (pt : fg_Pt z w) (hz : fg_Zok z) (hh : h < 3) (he : e < fg_zs z) : fg_Pt z (fg_wH z w h e) := by
  have h10 := hz.1.2.2.1
  exact pt.o (fun g hg => by rw [fg_wH, fg_ut_n (by omega), fg_hw_o hz (fg_rx_ok hz he) hh 4 (by omega) g (by omega)])
theorem c_FS_hoist {a b : Int32} (h : fg_CI σ z w P I T v s R B) (H : ∀ u, fg_sm fg_pC σ u → fg_CI u z (fg_hoW z w a b) (fg_hoP z w P a b) I T v s R B → Q (fg_hoA z w a b) u) : fg_Run (d + 4) 68 0 [some (.ref 0), some (.int a), some (.int b)] [] σ Q := by
  have X := h.2.1
  have h3 := X.2.1.1.1
  have hs := X.2.1.1.2.2.2
  refine b_FS_hoist_0 ⟨fg_kd6 X.1, fg_use (r_SH_hasLine X.1 X.2.1 X.2.2.1 (fg_bt' (fun e1 => ⟨fg_kd6 X.1, fg_use (r_SH_hasSignal X.1 X.2.1 X.2.2.1 (fg_bt (fun e2 => ?_) (fun e2 => ?_)))⟩) (fun e1 => ?_)))⟩
  · obtain ⟨x, hx, rfl⟩ := fg_isn_t e1 (by omega)
    obtain ⟨y, hy, rfl⟩ := fg_isn_t e2 (by omega)
    have eO : fg_hoO z w (nI x) (nI y) = (decide (w (43 + x) = -1) && fg_upb z (fg_sf z w) y) := by
      rw [fg_hoO, e1, e2, nI_clamp (by omega), nI_clamp (by omega)]
      simp
    rw [fg_hoW, fg_hoP, fg_hoA, e1, e2, nI_clamp (by omega), nI_clamp (by omega), eO] at H
    refine fg_use (r_FS_canHoist X hx hy (fun u m hr => fg_bt (fun q => ?_) (fun q => ?_)))
    · rw [q] at H
      simp only [Bool.and_eq_true, decide_eq_true_eq] at q
      have hu := h.x m
      refine fg_use (r_PA_remember hu.2.1 hu.2.2.1 (fun u2 m2 hP => ?_))
      have h2 := hu.rem m2 hP
      refine fg_use (r_DK_raise X.2.1 (by omega) (fg_rx_ok X.2.1 hy) (fun j hj => ((m2.2 32 (by decide)).2 j).trans (hr q.2 q.1 j hj)) h2.2.1.2.2.2.1 (fun u3 m3 D => ?_))
      exact H u3 (((m.wk fg_pXC).tr (m2.wk fg_pPaC)).tr (m3.wk fg_p15C)) (h2.dck m3 D (h2.2.1.2.2.2.2.H X.2.1 hx hy q.1))
    · rw [q] at H
      exact H u (m.wk fg_pXC) (h.x m)
  · rw [fg_hoW, fg_hoP, fg_hoA, fg_hoO, e1, e2] at H
    exact H σ fg_sm.rfl' h
  · rw [fg_hoW, fg_hoP, fg_hoA, fg_hoO, e1] at H
    exact H σ fg_sm.rfl' h
theorem c_MO_hoist {a b : Int32} (h : fg_RI σ z w P I T v s R B) (H : ∀ u, fg_sm fg_pN σ u → fg_RI u z (fg_hoW z w a b) (fg_hoP z w P a b) I T v s R B → Q (fg_hoA z w a b) u) : fg_Run (d + 4) 169 0 [some (.ref 187), some (.int a), some (.int b)] [] σ Q := by
  have M := h.2.1.1
  have hz := M.1
  have h3 := hz.1.1
  have hs := hz.1.2.2.2
  refine b_MO_hoist_0 (fg_use (r_MO_isLine hz M.2.1 (fg_bt' (fun e1 => fg_use (r_MO_isSig hz M.2.1 (fg_bt (fun e2 => ?_) (fun e2 => ?_)))) (fun e1 => ?_))))
  · obtain ⟨x, hx, rfl⟩ := fg_isn_t e1 (by omega)
    obtain ⟨y, hy, rfl⟩ := fg_isn_t e2 (by omega)
    have eO : fg_hoO z w (nI x) (nI y) = (decide (w (43 + x) = -1) && fg_upb z (fg_sf z w) y) := by
      rw [fg_hoO, e1, e2, nI_clamp (by omega), nI_clamp (by omega)]
      simp
    rw [fg_hoW, fg_hoP, fg_hoA, e1, e2, nI_clamp (by omega), nI_clamp (by omega), eO] at H
    refine fg_use (r_MO_canHoist M h.1 (by omega) hy (fun u m hr => fg_bt (fun q => ?_) (fun q => ?_)))
    · rw [q] at H
      simp only [Bool.and_eq_true, decide_eq_true_eq] at q
      have hu := h.m (m.wk fg_pRM)
      refine fg_use (r_MO_remember hu.1 hu.2.1.2 hu.pt hu.2.2.1 (fun u2 m2 n2 hP => ?_))
      have h2 := hu.rem n2 hP
      refine fg_use (r_MO_hoistRow hz (by omega) (fg_rx_ok hz hy) (fun j hj => (n2.2 196 rfl j).trans (hr q.2 q.1 j hj)) h2.1 (fun u3 m3 e3 => ?_))
      exact H u3 (((m.wk (fun g hg => fg_pRM g (fg_pMN g hg))).tr m2).tr (m3.wk fg_p191N)) (h2.rwx m3 e3 (h2.2.1.2.H hz hx hy q.1) (fg_wH_pt h2.pt hz (by omega) hy))
    · rw [q] at H
      exact H u (m.wk (fun g hg => fg_pRM g (fg_pMN g hg))) (h.m (m.wk fg_pRM))
  · rw [fg_hoW, fg_hoP, fg_hoA, fg_hoO, e1, e2] at H
    exact H σ fg_sm.rfl' h
  · rw [fg_hoW, fg_hoP, fg_hoA, fg_hoO, e1] at H
    exact H σ fg_sm.rfl' h
def fg_haO (z : fg_Z) (w : Nat → Int32) (a : Int32) : Bool := fg_isn a (fg_zH z) && !(decide (w (43 + a.toNatClampNeg) = -1))
def fg_haW (z : fg_Z) (w : Nat → Int32) (a : Int32) : Nat → Int32 := if fg_haO z w a = true then fg_wL w a.toNatClampNeg else w
def fg_haP (z : fg_Z) (w : Nat → Int32) (P : fg_GP) (a : Int32) : fg_GP := if fg_haO z w a = true then fg_psh P w else P
def fg_haA (z : fg_Z) (w : Nat → Int32) (a : Int32) : Int32 := if fg_isn a (fg_zH z) then (if fg_haO z w a = true then w (43 + a.toNatClampNeg) else -1000000003) else -1000000001
theorem fg_wL_pt {h : Nat} (pt : fg_Pt z w) (hz : fg_Zok z) : fg_Pt z (fg_wL w h) := by
  have h10 := hz.1.2.2.1
  exact pt.o (fun g hg => by unfold fg_wL fg_lg; rw [if_neg (by omega), if_neg (by omega)])
theorem c_FS_haul {a : Int32} (h : fg_CI σ z w P I T v s R B) (H : ∀ u, fg_sm fg_pC σ u → fg_CI u z (fg_haW z w a) (fg_haP z w P a) I T v s R B → Q (fg_haA z w a) u) : fg_Run (d + 3) 69 0 [some (.ref 0), some (.int a)] [] σ Q := by
  have X := h.2.1
  have h3 := X.2.1.1.1
  refine b_FS_haul_0 ⟨fg_kd6 X.1, fg_use (r_SH_hasLine X.1 X.2.1 X.2.2.1 (fg_bt (fun e1 => ?_) (fun e1 => ?_)))⟩
  · obtain ⟨x, hx, rfl⟩ := fg_isn_t e1 (by omega)
    rw [fg_haW, fg_haP, fg_haA, fg_haO, e1, nI_clamp (by omega)] at H
    rw [nI_clamp (by omega), X.2.2.2.1.r5 (by omega)]
    refine ⟨vp_in_nI (by omega) (by decide), fun q => fg_use (r_PA_remember X h.2.2.1 (fun u2 m2 hP => ?_)), fun q => ?_⟩
    · rw [decide_eq_false q] at H
      have h2 := h.rem m2 hP
      refine fg_use (r_DK_lower X.2.1 h2.2.1.2.2.2.2 h2.2.1.2.2.2.1 hx (fun u3 m3 D => ?_))
      exact H u3 ((m2.wk fg_pPaC).tr (m3.wk fg_p15C)) (h2.dck m3 D (h2.2.1.2.2.2.2.L X.2.1 hx))
    · rw [decide_eq_true q] at H
      exact H σ fg_sm.rfl' h
  · rw [fg_haW, fg_haP, fg_haA, fg_haO, e1] at H
    exact H σ fg_sm.rfl' h
theorem c_MO_haul {a : Int32} (h : fg_RI σ z w P I T v s R B) (H : ∀ u, fg_sm fg_pN σ u → fg_RI u z (fg_haW z w a) (fg_haP z w P a) I T v s R B → Q (fg_haA z w a) u) : fg_Run (d + 2) 171 0 [some (.ref 187), some (.int a)] [] σ Q := by
  have M := h.2.1.1
  have hz := M.1
  have h3 := hz.1.1
  refine b_MO_haul_0 (fg_use (r_MO_isLine hz M.2.1 (fg_bt (fun e1 => ?_) (fun e1 => ?_))))
  · obtain ⟨x, hx, rfl⟩ := fg_isn_t e1 (by omega)
    rw [fg_haW, fg_haP, fg_haA, fg_haO, e1, nI_clamp (by omega)] at H
    have i := fg_ix (c := 43) (i := x) (n := 61) (by omega) (by decide)
    rw [show (43 : Int32) = nI 43 from rfl, i.2, h.1]
    refine ⟨i.1, fun q => fg_use (r_MO_remember h.1 h.2.1.2 h.pt h.2.2.1 (fun u2 m2 n2 hP => ?_)), fun q => ?_⟩
    · rw [decide_eq_false q] at H
      have h2 := h.rem n2 hP
      refine fg_use (r_MO_haulNow (by omega) h2.1 (fun u3 m3 e3 => ?_))
      exact H u3 (m2.tr (m3.wk fg_p191N)) (h2.rwx m3 e3 (h2.2.1.2.L hz hx) (fg_wL_pt h2.pt hz))
    · rw [decide_eq_true q] at H
      exact H σ fg_sm.rfl' h
  · rw [fg_haW, fg_haP, fg_haA, fg_haO, e1] at H
    exact H σ fg_sm.rfl' h
def fg_swO (z : fg_Z) (w : Nat → Int32) (a : Int32) : Bool := fg_isn a (fg_zf z) && decide (w (20 + a.toNatClampNeg) = -1 ∧ w (30 + a.toNatClampNeg) = 1)
def fg_swW (z : fg_Z) (w : Nat → Int32) (a : Int32) : Nat → Int32 := if fg_swO z w a = true then fg_wS w a.toNatClampNeg else w
def fg_swP (z : fg_Z) (w : Nat → Int32) (P : fg_GP) (a : Int32) : fg_GP := if fg_swO z w a = true then fg_psh P w else P
def fg_swA (z : fg_Z) (w : Nat → Int32) (a : Int32) : Int32 := if fg_isn a (fg_zf z) then (if fg_swO z w a = true then w (10 + a.toNatClampNeg) else -1000000003) else -1000000001
theorem fg_wS_pt {f : Nat} (pt : fg_Pt z w) (hz : fg_Zok z) : fg_Pt z (fg_wS w f) := by
  have h10 := hz.1.2.2.1
  exact pt.o (fun g hg => fg_wS_n (by omega) (by omega))
theorem c_FS_sew {a : Int32} (h : fg_CI σ z w P I T v s R B) (H : ∀ u, fg_sm fg_pC σ u → fg_CI u z (fg_swW z w a) (fg_swP z w P a) I T v s R B → Q (fg_swA z w a) u) : fg_Run (d + 3) 71 0 [some (.ref 0), some (.int a), none] [] σ Q := by
  have X := h.2.1
  have h10 := X.2.1.1.2.2.1
  refine b_FS_sew_0 ⟨fg_kd6 X.1, fg_use (r_SH_hasFlag X.1 X.2.1 X.2.2.1 (fg_bt (fun e1 => ?_) (fun e1 => ?_)))⟩
  · obtain ⟨x, hx, rfl⟩ := fg_isn_t e1 (by omega)
    rw [fg_swW, fg_swP, fg_swA, fg_swO, e1, nI_clamp (by omega), Bool.true_and] at H
    refine fg_use (r_DK_canBeSewn X.2.1 X.2.2.2.1 hx (fg_bt (fun q => ?_) (fun q => ?_)))
    · rw [q] at H
      refine fg_use (r_PA_remember X h.2.2.1 (fun u2 m2 hP => ⟨vp_in_nI (by omega) (by decide), ?_⟩))
      have h2 := h.rem m2 hP
      refine fg_use (r_DK_mend X.2.1 h2.2.1.2.2.2.1 hx (fun u3 m3 D => ?_))
      rw [nI_clamp (by omega), h2.2.1.2.2.2.1.r3 hx]
      exact H u3 ((m2.wk fg_pPaC).tr (m3.wk fg_p15C)) (h2.dck m3 D (h2.2.1.2.2.2.2.S X.2.1 hx))
    · rw [q] at H
      exact H σ fg_sm.rfl' h
  · rw [fg_swW, fg_swP, fg_swA, fg_swO, e1] at H
    exact H σ fg_sm.rfl' h
theorem c_MO_sew {a : Int32} (h : fg_RI σ z w P I T v s R B) (H : ∀ u, fg_sm fg_pN σ u → fg_RI u z (fg_swW z w a) (fg_swP z w P a) I T v s R B → Q (fg_swA z w a) u) : fg_Run (d + 2) 177 0 [some (.ref 187), some (.int a), none] [] σ Q := by
  have M := h.2.1.1
  have hz := M.1
  have h10 := hz.1.2.2.1
  refine b_MO_sew_0 (fg_use (r_MO_isFlag hz M.2.1 (fg_bt (fun e1 => ?_) (fun e1 => ?_))))
  · obtain ⟨x, hx, rfl⟩ := fg_isn_t e1 (by omega)
    rw [fg_swW, fg_swP, fg_swA, fg_swO, e1, nI_clamp (by omega), Bool.true_and] at H
    refine fg_use (r_MO_canSew h.1 (by omega) (fg_bt (fun q => ?_) (fun q => ?_)))
    · rw [q] at H
      have i := fg_ix (c := 10) (i := x) (n := 61) (by omega) (by decide)
      refine fg_use (r_MO_remember h.1 h.2.1.2 h.pt h.2.2.1 (fun u2 m2 n2 hP => ⟨i.1, ?_⟩))
      have h2 := h.rem n2 hP
      refine fg_use (r_MO_sewNow h2.1 (by omega) (fun u3 m3 e3 => ?_))
      rw [show (10 : Int32) = nI 10 from rfl, i.2, h2.1]
      exact H u3 (m2.tr (m3.wk fg_p191N)) (h2.rwx m3 e3 (h2.2.1.2.S hz hx) (fg_wS_pt h2.pt hz))
    · rw [q] at H
      exact H σ fg_sm.rfl' h
  · rw [fg_swW, fg_swP, fg_swA, fg_swO, e1] at H
    exact H σ fg_sm.rfl' h
end
