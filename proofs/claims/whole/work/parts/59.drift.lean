/-! DRIFT: days by draws -/
def fg_nx (s : Nat) : Nat := (s * 1103515245 + 12345) % 2147483648
theorem fg_nx_lt (s : Nat) : fg_nx s < 2147483648 := Nat.mod_lt _ (by decide)
theorem fg_andL (a b : Nat) : lN a &&& lN b = lN (a &&& b) := by
  apply Int64.toBitVec_inj.1
  show BitVec.ofNat 64 a &&& BitVec.ofNat 64 b = BitVec.ofNat 64 (a &&& b)
  apply BitVec.eq_of_getLsbD_eq
  intro i hi
  simp [hi]
theorem fg_seed {s : Nat} (h : s < 2 ^ 31) : (((nI s).toInt64 * 1103515245) + 12345) = lN (s * 1103515245 + 12345) := by
  rw [nI_l h, show (1103515245 : Int64) = lN 1103515245 from rfl, show (12345 : Int64) = lN 12345 from rfl, lN_mul, lN_add]
theorem fg_seedX {s : Nat} (h : s < 2 ^ 31) : ((((nI s).toInt64 * 1103515245) + 12345) &&& 2147483647).toInt32 = nI (fg_nx s) := by
  rw [fg_seed h, show (2147483647 : Int64) = lN (2 ^ 31 - 1) from rfl, fg_andL, Nat.and_two_pow_sub_one_eq_mod, lN_i]
  rfl
theorem fg_seedM {s : Nat} (h : s < 2 ^ 31) : ((((nI s).toInt64 * 1103515245) + 12345) - (((nI s).toInt64 * 1103515245) + 12345) / 2147483648 * 2147483648).toInt32 = nI (fg_nx s) := by
  rw [fg_seed h, show (2147483648 : Int64) = lN 2147483648 from rfl, pk_lRem (by omega) (by decide) (by decide), lN_i]
  rfl
/-- a draw -/
def fg_dw (s n : Nat) : Nat := fg_nx s / 65536 % n
theorem fg_dw_lt (s : Nat) {n : Nat} (h : 0 < n) : fg_dw s n < n := Nat.mod_lt _ h
theorem fg_dw_eq {s n : Nat} (h : 0 < n) (hn : n < 2 ^ 31) : nI (fg_nx s) / 65536 - nI (fg_nx s) / 65536 / nI n * nI n = nI (fg_dw s n) := by
  have := fg_nx_lt s
  rw [show (65536 : Int32) = nI 65536 from rfl, pk_div (by omega) (by decide) (by decide), pk_rem (by omega) h hn]
  rfl
def fg_cHW (z : fg_Z) (w : Nat → Int32) (x s : Nat) : Nat → Int32 := if fg_zs z = 0 then w else if (decide (w (43 + x) = -1) && fg_upb z (fg_sf z w) (fg_dw s (fg_zs z))) = true then fg_wH z w x (fg_dw s (fg_zs z)) else w
def fg_cHS (z : fg_Z) (s : Nat) : Nat := if fg_zs z = 0 then s else fg_nx s
def fg_cSW (z : fg_Z) (w : Nat → Int32) (s : Nat) : Nat → Int32 := if fg_zf z = 0 then w else if decide (w (20 + fg_dw s (fg_zf z)) = -1 ∧ w (30 + fg_dw s (fg_zf z)) = 1) = true then fg_wS w (fg_dw s (fg_zf z)) else w
def fg_cSS (z : fg_Z) (s : Nat) : Nat := if fg_zf z = 0 then s else fg_nx s
def fg_cLW (w : Nat → Int32) (x : Nat) : Nat → Int32 := if w (43 + x) = -1 then w else fg_wL w x
def fg_cWW (w : Nat → Int32) (s : Nat) : Nat → Int32 := fg_ut (fg_ut w 58 (nI (fg_dw s 3))) 59 (nI (fg_dw (fg_nx s) 2))
/-- what a draw of 5 bids, x the line, s the seed behind both draws -/
def fg_aW (z : fg_Z) (w : Nat → Int32) (k x s : Nat) : Nat → Int32 := if k < 2 then fg_cHW z w x s else if k = 2 then fg_cLW w x else if k = 3 then fg_cWW w s else fg_cSW z w s
def fg_aS (z : fg_Z) (k s : Nat) : Nat := if k < 2 then fg_cHS z s else if k = 2 then s else if k = 3 then fg_nx (fg_nx s) else fg_cSS z s
def fg_chW (z : fg_Z) (w : Nat → Int32) (s : Nat) : Nat → Int32 := fg_aW z w (fg_dw s 5) (fg_dw (fg_nx s) (fg_zH z)) (fg_nx (fg_nx s))
def fg_chS (z : fg_Z) (s : Nat) : Nat := fg_aS z (fg_dw s 5) (fg_nx (fg_nx s))
def fg_dr (z : fg_Z) (w : Nat → Int32) (s : Nat) : Nat → (Nat → Int32) × Nat
  | 0 => (w, s)
  | n + 1 => (fg_wD z (fg_chW z (fg_dr z w s n).1 (fg_dr z w s n).2), fg_chS z (fg_dr z w s n).2)
section
variable {d : Nat} {σ u : fg_St} {Q : Int32 → fg_St → Prop} {z : fg_Z} {w w' : Nat → Int32} {P P' : fg_GP} {I : fg_GI} {T : fg_GT} {v : Int32} {s : Nat} {R : fg_GR} {B : fg_GB}
/-- the row keeps what holds of it, its days and its patterns -/
def fg_kp (z : fg_Z) (w w' : Nat → Int32) : Prop := fg_Wk z w' ∧ w' 60 = w 60 ∧ ∀ g, g < fg_zf z → w' g = w g
theorem fg_kp.r (W : fg_Wk z w) : fg_kp z w w := ⟨W, rfl, fun _ _ => rfl⟩
theorem fg_kp_cH (hz : fg_Zok z) (W : fg_Wk z w) {x : Nat} (hx : x < fg_zH z) (s : Nat) : fg_kp z w (fg_cHW z w x s) := by
  have h10 := hz.1.2.2.1
  have h3 := hz.1.1
  unfold fg_cHW
  split
  · exact fg_kp.r W
  · rename_i h0
    have hy := fg_dw_lt s (n := fg_zs z) (by omega)
    split
    · rename_i q
      simp only [Bool.and_eq_true, decide_eq_true_eq] at q
      refine ⟨W.H hz hx hy q.1, ?_, fun g hg => ?_⟩
      · rw [fg_wH, fg_ut_n (by omega), fg_hw_o hz (fg_rx_ok hz hy) (by omega) 4 (by omega) _ (by omega)]
      · rw [fg_wH, fg_ut_n (by omega), fg_hw_o hz (fg_rx_ok hz hy) (by omega) 4 (by omega) _ (by omega)]
    · exact fg_kp.r W
theorem fg_kp_cL (hz : fg_Zok z) (W : fg_Wk z w) {x : Nat} (hx : x < fg_zH z) : fg_kp z w (fg_cLW w x) := by
  have h10 := hz.1.2.2.1
  have h3 := hz.1.1
  unfold fg_cLW
  split
  · exact fg_kp.r W
  · refine ⟨W.L hz hx, ?_, fun g hg => ?_⟩
    · unfold fg_wL fg_lg
      rw [if_neg (by omega), if_neg (by omega)]
    · unfold fg_wL fg_lg
      rw [if_neg (by omega), if_neg (by omega)]
theorem fg_kp_cW (hz : fg_Zok z) (W : fg_Wk z w) (s : Nat) : fg_kp z w (fg_cWW w s) := by
  have h10 := hz.1.2.2.1
  have a1 := fg_dw_lt s (n := 3) (by omega)
  have a2 := fg_dw_lt (fg_nx s) (n := 2) (by omega)
  refine ⟨W.hw hz (by omega) (by omega), ?_, fun g hg => ?_⟩
  · rw [fg_cWW, fg_ut_n (by omega), fg_ut_n (by omega)]
  · rw [fg_cWW, fg_ut_n (by omega), fg_ut_n (by omega)]
theorem fg_kp_cS (hz : fg_Zok z) (W : fg_Wk z w) (s : Nat) : fg_kp z w (fg_cSW z w s) := by
  have h10 := hz.1.2.2.1
  unfold fg_cSW
  split
  · exact fg_kp.r W
  · have hy := fg_dw_lt s (n := fg_zf z) (by omega)
    split
    · exact ⟨W.S hz hy, fg_wS_n (by omega) (by omega), fun g hg => fg_wS_n (by omega) (by omega)⟩
    · exact fg_kp.r W
theorem fg_kp_ch (hz : fg_Zok z) (W : fg_Wk z w) (hH : 0 < fg_zH z) (s : Nat) : fg_kp z w (fg_chW z w s) := by
  have hx := fg_dw_lt (fg_nx s) hH
  unfold fg_chW fg_aW
  split
  · exact fg_kp_cH hz W hx _
  · split
    · exact fg_kp_cL hz W hx
    · split
      · exact fg_kp_cW hz W _
      · exact fg_kp_cS hz W _
theorem fg_CI.sd (h : fg_CI σ z w P I T v s R B) {s' : Nat} (hs : s' < 2147483648) : fg_CI (fg_sF σ 0 12 (nI s')) z w P I T v s' R B :=
  h.fs (p := fun g => g == 0) (fg_sm_F (by decide)) (fun g _ _ hg => by simpa using hg) h.2.2.2.2.2.1 ⟨by omega, rfl⟩
theorem fg_RI.sd (h : fg_RI σ z w P I T v s R B) {s' : Nat} (hs : s' < 2147483648) : fg_RI (fg_sF σ 187 8 (nI s')) z w P I T v s' R B := by
  have n : fg_sn (fun k => k == 8) fg_no σ (fg_sF σ 187 8 (nI s')) := fg_sn_F (by decide)
  exact h.row n (fun k h1 h2 => by simpa using h2) (fun g h1 h2 h3 => rfl) h.1 h.2.1.2 h.pt (h.2.2.1.sn n rfl rfl) ⟨by omega, rfl⟩
theorem r_FS_draw {n : Nat} (h : fg_CI σ z w P I T v s R B) (h0 : 0 < n) (hn : n < 2 ^ 31) (H : ∀ u, fg_sm fg_pC σ u → fg_CI u z w P I T v (fg_nx s) R B → Q (nI (fg_dw s n)) u) : fg_Run d 90 0 [some (.ref 0), some (.int (nI n))] [] σ Q := by
  have hs := h.2.2.2.2.2.2.1
  refine b_FS_draw_0 ?_
  rw [hs.2, fg_seedX hs.1, fg_dw_eq h0 hn]
  exact ⟨fun q => absurd q (nI_nle h0 hn), fun _ => ⟨nI_ne0 h0 hn, H _ (fg_sm_F (by decide)) (h.sd (fg_nx_lt s))⟩⟩
theorem r_MO_draw {n : Nat} (h : fg_RI σ z w P I T v s R B) (h0 : 0 < n) (hn : n < 2 ^ 31) (H : ∀ u, fg_sm fg_pN σ u → fg_RI u z w P I T v (fg_nx s) R B → Q (nI (fg_dw s n)) u) : fg_Run d 180 0 [some (.ref 187), some (.int (nI n))] [] σ Q := by
  have hs := h.2.2.2.2.2.2.1
  refine b_MO_draw_0 ?_
  rw [hs.2, fg_seedM hs.1, fg_dw_eq h0 hn]
  exact ⟨nI_ne0 h0 hn, H _ (fg_sm_F (by decide)) (h.sd (fg_nx_lt s))⟩
theorem r_FS_hoistDrawn {x : Nat} (h : fg_CI σ z w P I T v s R B) (hx : x < fg_zH z) (H : ∀ u, fg_sm fg_pC σ u → fg_CI u z (fg_cHW z w x s) P I T v (fg_cHS z s) R B → Q 0 u) : fg_Run (d + 4) 92 0 [some (.ref 0), some (.int (nI x)), none] [] σ Q := by
  have X := h.2.1
  have h3 := X.2.1.1.1
  have hs := X.2.1.1.2.2.2
  have z0 : nI (fg_zs z) = 0 ↔ fg_zs z = 0 := nI_eq (b := 0) (by omega) (by decide)
  refine b_FS_hoistDrawn_0 ⟨fg_kd6 X.1, ?_⟩
  rw [X.2.2.1.1.2.2.2, z0]
  refine ⟨fun q => ⟨fg_kd6 X.1, fg_use (r_FS_draw h (by omega) (by omega) (fun u m h1 => ?_))⟩, fun q => ?_⟩
  · rw [fg_cHW, fg_cHS, if_neg q, if_neg q] at H
    have hy := fg_dw_lt s (n := fg_zs z) (by omega)
    have X1 := h1.2.1
    refine fg_use (r_FS_canHoist X1 hx hy (fun u2 m2 hr => fg_bt' (fun q => ?_) (fun q => ?_)))
    · rw [q] at H
      simp only [Bool.and_eq_true, decide_eq_true_eq] at q
      have h2 := h1.x m2
      refine fg_use (r_DK_raise X.2.1 (by omega) (fg_rx_ok X.2.1 hy) (fun j hj => hr q.2 q.1 j hj) h2.2.1.2.2.2.1 (fun u3 m3 D => ?_))
      exact H u3 ((m.tr (m2.wk fg_pXC)).tr (m3.wk fg_p15C)) (h2.dck m3 D (h2.2.1.2.2.2.2.H X.2.1 hx hy q.1))
    · rw [q] at H
      exact H u2 (m.tr (m2.wk fg_pXC)) (h1.x m2)
  · rw [fg_cHW, fg_cHS, if_pos q, if_pos q] at H
    exact H σ fg_sm.rfl' h
theorem r_MO_chanceHoist {x : Nat} (h : fg_RI σ z w P I T v s R B) (hx : x < fg_zH z) (h0 : 0 < fg_zs z) (H : ∀ u, fg_sm fg_pN σ u → fg_RI u z (fg_cHW z w x s) P I T v (fg_cHS z s) R B → Q 0 u) : fg_Run (d + 4) 181 0 [some (.ref 187), some (.int (nI x)), none, none] [] σ Q := by
  have M := h.2.1.1
  have hz := M.1
  have h3 := hz.1.1
  have hs := hz.1.2.2.2
  refine b_MO_chanceHoist_0 ?_
  rw [M.2.1.1.2.2.2]
  refine fg_use (r_MO_draw h h0 (by omega) (fun u m h1 => ?_))
  have n0 : ¬ fg_zs z = 0 := by omega
  rw [fg_cHW, fg_cHS, if_neg n0, if_neg n0] at H
  have hy := fg_dw_lt s h0
  refine fg_use (r_MO_canHoist h1.2.1.1 h1.1 (by omega) hy (fun u2 m2 hr => fg_bt' (fun q => ?_) (fun q => ?_)))
  · rw [q] at H
    simp only [Bool.and_eq_true, decide_eq_true_eq] at q
    have h2 := h1.m (m2.wk fg_pRM)
    refine fg_use (r_MO_hoistRow hz (by omega) (fg_rx_ok hz hy) (fun j hj => hr q.2 q.1 j hj) h2.1 (fun u3 m3 e3 => ?_))
    exact H u3 ((m.tr (m2.wk (fun g hg => fg_pRM g (fg_pMN g hg)))).tr (m3.wk fg_p191N)) (h2.rwx m3 e3 (h2.2.1.2.H hz hx hy q.1) (fg_wH_pt h2.pt hz (by omega) hy))
  · rw [q] at H
    exact H u2 (m.tr (m2.wk (fun g hg => fg_pRM g (fg_pMN g hg)))) (h1.m (m2.wk fg_pRM))
theorem r_FS_sewDrawn (h : fg_CI σ z w P I T v s R B) (H : ∀ u, fg_sm fg_pC σ u → fg_CI u z (fg_cSW z w s) P I T v (fg_cSS z s) R B → Q 0 u) : fg_Run (d + 2) 93 0 [some (.ref 0), none] [] σ Q := by
  have X := h.2.1
  have h10 := X.2.1.1.2.2.1
  have z0 : nI (fg_zf z) = 0 ↔ fg_zf z = 0 := nI_eq (b := 0) (by omega) (by decide)
  refine b_FS_sewDrawn_0 ⟨fg_kd6 X.1, ?_⟩
  rw [X.2.2.1.1.2.2.1, z0]
  refine ⟨fun q => ⟨fg_kd6 X.1, fg_use (r_FS_draw h (by omega) (by omega) (fun u m h1 => ?_))⟩, fun q => ?_⟩
  · rw [fg_cSW, fg_cSS, if_neg q, if_neg q] at H
    have hy := fg_dw_lt s (n := fg_zf z) (by omega)
    have X1 := h1.2.1
    refine fg_use (r_DK_canBeSewn X.2.1 X1.2.2.2.1 hy (fg_bt' (fun q => ?_) (fun q => ?_)))
    · rw [q] at H
      refine fg_use (r_DK_mend X.2.1 X1.2.2.2.1 hy (fun u3 m3 D => ?_))
      exact H u3 (m.tr (m3.wk fg_p15C)) (h1.dck m3 D (X1.2.2.2.2.S X.2.1 hy))
    · rw [q] at H
      exact H u m h1
  · rw [fg_cSW, fg_cSS, if_pos q, if_pos q] at H
    exact H σ fg_sm.rfl' h
theorem r_MO_chanceSew (h : fg_RI σ z w P I T v s R B) (h0 : 0 < fg_zf z) (H : ∀ u, fg_sm fg_pN σ u → fg_RI u z (fg_cSW z w s) P I T v (fg_cSS z s) R B → Q 0 u) : fg_Run (d + 2) 182 0 [some (.ref 187), none] [] σ Q := by
  have M := h.2.1.1
  have hz := M.1
  have h10 := hz.1.2.2.1
  refine b_MO_chanceSew_0 ?_
  rw [M.2.1.1.2.2.1]
  refine fg_use (r_MO_draw h h0 (by omega) (fun u m h1 => ?_))
  have n0 : ¬ fg_zf z = 0 := by omega
  rw [fg_cSW, fg_cSS, if_neg n0, if_neg n0] at H
  have hy := fg_dw_lt s h0
  refine fg_use (r_MO_canSew h1.1 (by omega) (fg_bt' (fun q => ?_) (fun q => ?_)))
  · rw [q] at H
    refine fg_use (r_MO_sewNow h1.1 (by omega) (fun u3 m3 e3 => ?_))
    exact H u3 (m.tr (m3.wk fg_p191N)) (h1.rwx m3 e3 (h1.2.1.2.S hz hy) (fg_wS_pt h1.pt hz))
  · rw [q] at H
    exact H u m h1
theorem r_FS_act (h : fg_CI σ z w P I T v s R B) (hH : 0 < fg_zH z) (H : ∀ u, fg_sm fg_pC σ u → fg_CI u z (fg_chW z w s) P I T v (fg_chS z s) R B → Q 0 u) : fg_Run (d + 5) 91 0 [some (.ref 0), none, none] [] σ Q := by
  have X := h.2.1
  have hz := X.2.1
  have h3 := hz.1.1
  refine b_FS_actByDraws_0 (fg_use (r_FS_draw (n := 5) h (by decide) (by decide) (fun u1 m1 h1 => ⟨fg_kd6 h1.2.1.1, ?_⟩)))
  rw [h1.2.1.2.2.1.1.1]
  refine fg_use (r_FS_draw h1 hH (by omega) (fun u2 m2 h2 => ?_))
  have hk := fg_dw_lt s (n := 5) (by omega)
  have hx := fg_dw_lt (fg_nx s) hH
  unfold fg_chW fg_chS at H
  generalize fg_dw s 5 = k at hk H ⊢
  generalize fg_dw (fg_nx s) (fg_zH z) = x at hx H ⊢
  generalize fg_nx (fg_nx s) = t at h2 H
  have m12 := m1.tr m2
  have k0 : nI k = 0 ↔ k = 0 := nI_eq (b := 0) (by omega) (by decide)
  have k1 : nI k = 1 ↔ k = 1 := nI_eq (b := 1) (by omega) (by decide)
  have k2 : nI k = 2 ↔ k = 2 := nI_eq (b := 2) (by omega) (by decide)
  have k3 : nI k = 3 ↔ k = 3 := nI_eq (b := 3) (by omega) (by decide)
  rw [k0, k1, k2, k3]
  have X2 := h2.2.1
  refine ⟨fun q => ?_, fun q0 => ⟨fun q => ?_, fun q1 => ⟨fun q => ⟨fg_kd6 X2.1, fg_use (r_SH_hasLine X2.1 hz X2.2.2.1 ?_)⟩, fun q2 => ⟨fun q => ?_, fun q3 => ?_⟩⟩⟩⟩
  · have c2 : k < 2 := by omega
    rw [fg_aW, fg_aS, if_pos c2, if_pos c2] at H
    exact fg_use (r_FS_hoistDrawn h2 hx (fun u m h' => H u (m12.tr m) h'))
  · have c2 : k < 2 := by omega
    rw [fg_aW, fg_aS, if_pos c2, if_pos c2] at H
    exact fg_use (r_FS_hoistDrawn h2 hx (fun u m h' => H u (m12.tr m) h'))
  · have c2 : ¬ k < 2 := by omega
    rw [fg_aW, fg_aS, if_neg c2, if_neg c2, if_pos q, if_pos q, fg_cLW] at H
    rw [fg_isn_nI hx (by omega), nI_clamp (by omega), X2.2.2.2.1.r5 (by omega)]
    refine ⟨fun q => absurd q (by decide), fun _ => ⟨vp_in_nI (by omega) (by decide), fun q4 => ?_, fun q4 => ?_⟩⟩
    · rw [if_pos q4] at H
      exact H u2 m12 h2
    · rw [if_neg q4] at H
      exact fg_use (r_DK_lower hz X2.2.2.2.2 X2.2.2.2.1 hx (fun u m D => H u (m12.tr (m.wk fg_p15C)) (h2.dck m D (X2.2.2.2.2.L hz hx))))
  · have c2 : ¬ k < 2 := by omega
    rw [fg_aW, fg_aS, if_neg c2, if_neg c2, if_neg q2, if_neg q2, if_pos q, if_pos q, fg_cWW] at H
    refine fg_use (r_FS_draw (n := 3) h2 (by decide) (by decide) (fun u4 m4 h4 => ?_))
    have a1 := fg_dw_lt t (n := 3) (by omega)
    have a2 := fg_dw_lt (fg_nx t) (n := 2) (by omega)
    have X4 := h4.2.1
    have m5 : fg_sm (fg_pH 15) u4 (fg_sF u4 15 10 (nI (fg_dw t 3))) := fg_sm_F (fg_p15 (by omega) (by omega))
    have h5 : fg_CI (fg_sF u4 15 10 (nI (fg_dw t 3))) z (fg_ut w 58 (nI (fg_dw t 3))) P I T v (fg_nx t) R B := h4.dck m5 (X4.2.2.2.1.u10 hz) (by
      obtain ⟨_, _, ⟨b, hb, eb⟩⟩ := X4.2.2.2.2.B
      have := X4.2.2.2.2.hw hz (a := fg_dw t 3) (b := b) (by omega) hb
      rw [← eb, ← fg_ut_n (w := w) (a := 58) (k := 59) (x := nI (fg_dw t 3)) (by omega), fg_ut_id] at this
      exact this)
    refine fg_use (r_FS_draw (n := 2) h5 (by decide) (by decide) (fun u6 m6 h6 => ?_))
    have m7 : fg_sm (fg_pH 15) u6 (fg_sF u6 15 11 (nI (fg_dw (fg_nx t) 2))) := fg_sm_F (fg_p15 (by omega) (by omega))
    exact H _ ((((m12.tr m4).tr (m5.wk fg_p15C)).tr m6).tr (m7.wk fg_p15C)) (h6.dck m7 (h6.2.1.2.2.2.1.u11 hz) (X4.2.2.2.2.hw hz (by omega) (by omega)))
  · have c2 : ¬ k < 2 := by omega
    rw [fg_aW, fg_aS, if_neg c2, if_neg c2, if_neg q2, if_neg q2, if_neg q3, if_neg q3] at H
    exact fg_use (r_FS_sewDrawn h2 (fun u m h' => H u (m12.tr m) h'))
end
