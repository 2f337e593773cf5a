/-! DRIFT -/
section
variable {d : Nat} {σ u : fg_St} {Q : Int32 → fg_St → Prop} {z : fg_Z} {w w' : Nat → Int32} {P P' : fg_GP} {I : fg_GI} {T : fg_GT} {v : Int32} {s : Nat} {R : fg_GR} {B : fg_GB}
theorem r_MO_chance (h : fg_RI σ z w P I T v s R B) (hH : 0 < fg_zH z) (H : ∀ u, fg_sm fg_pN σ u → fg_RI u z (fg_chW z w s) P I T v (fg_chS z s) R B → Q 0 u) : fg_Run (d + 5) 183 0 [some (.ref 187), none, none, none] [] σ Q := by
  have hz := h.2.1.1.1
  have h3 := hz.1.1
  have h10 := hz.1.2.2.1
  have hs10 := hz.1.2.2.2
  refine b_MO_chance_0 (fg_use (r_MO_draw (n := 5) h (by decide) (by decide) (fun u1 m1 h1 => ?_)))
  rw [h1.2.1.1.2.1.1.1]
  refine fg_use (r_MO_draw h1 hH (by omega) (fun u2 m2 h2 => ?_))
  have hk := fg_dw_lt s (n := 5) (by omega)
  have hx := fg_dw_lt (fg_nx s) hH
  unfold fg_chW fg_chS at H
  generalize fg_dw s 5 = k at hk H ⊢
  generalize fg_dw (fg_nx s) (fg_zH z) = x at hx H ⊢
  generalize fg_nx (fg_nx s) = t at h2 H
  have m12 := m1.tr m2
  have k2l : 2 ≤ nI k ↔ 2 ≤ k := nI_leI (a := 2) (by decide) (by omega)
  have k2 : nI k = 2 ↔ k = 2 := nI_eq (b := 2) (by omega) (by decide)
  have k3 : nI k = 3 ↔ k = 3 := nI_eq (b := 3) (by omega) (by decide)
  have k4 : nI k = 4 ↔ k = 4 := nI_eq (b := 4) (by omega) (by decide)
  have M2 := h2.2.1.1
  have i := fg_ix (c := 43) (i := x) (n := 61) (by omega) (by decide)
  have zf0 : nI (fg_zf z) ≤ 0 ↔ fg_zf z ≤ 0 := nI_leI (b := 0) (by omega) (by decide)
  have zs0 : nI (fg_zs z) ≤ 0 ↔ fg_zs z ≤ 0 := nI_leI (b := 0) (by omega) (by decide)
  rw [k2l, k2, k3, k4, M2.2.1.1.2.2.1, M2.2.1.1.2.2.2, zf0, zs0, show (43 : Int32) = nI 43 from rfl, i.2, h2.1]
  refine ⟨fun q2 => ⟨fun n2 => ⟨fun n3 => ⟨fun n4 => absurd (by omega) n4, fun q4 => ⟨fun z0 => ?_, fun z0 => ?_⟩⟩, fun q3 => ?_⟩, fun q => ⟨i.1, fun e => ⟨fun n3 => ⟨fun n4 => ?_, fun q4 => absurd q4 (by omega)⟩, fun q3 => absurd q3 (by omega)⟩, fun e => ?_⟩⟩, fun q2 => ⟨fun z0 => ⟨fun n2 => ⟨fun n3 => ⟨fun n4 => ?_, fun q4 => absurd q4 (by omega)⟩, fun q3 => absurd q3 (by omega)⟩, fun q => absurd q (by omega)⟩, fun z0 => ?_⟩⟩
  · have c2 : ¬ k < 2 := by omega
    have y0 : fg_zf z = 0 := by omega
    rw [fg_aW, fg_aS, if_neg c2, if_neg c2, if_neg n2, if_neg n2, if_neg n3, if_neg n3, fg_cSW, fg_cSS, if_pos y0, if_pos y0] at H
    exact H u2 m12 h2
  · have c2 : ¬ k < 2 := by omega
    rw [fg_aW, fg_aS, if_neg c2, if_neg c2, if_neg n2, if_neg n2, if_neg n3, if_neg n3] at H
    exact fg_use (r_MO_chanceSew h2 (by omega) (fun u m h' => H u (m12.tr m) h'))
  · have c2 : ¬ k < 2 := by omega
    rw [fg_aW, fg_aS, if_neg c2, if_neg c2, if_neg n2, if_neg n2, if_pos q3, if_pos q3, fg_cWW] at H
    refine fg_use (r_MO_draw (n := 3) h2 (by decide) (by decide) (fun u4 m4 h4 => ?_))
    have a1 := fg_dw_lt t (n := 3) (by omega)
    have a2 := fg_dw_lt (fg_nx t) (n := 2) (by omega)
    have m5 : fg_sm fg_p191 u4 (fg_sR u4 191 58 (nI (fg_dw t 3))) := fg_sm_R (by decide)
    have h5 : fg_RI (fg_sR u4 191 58 (nI (fg_dw t 3))) z (fg_ut w 58 (nI (fg_dw t 3))) P I T v (fg_nx t) R B := h4.rwx m5 (by rw [fg_row_sR, h4.1]) (by
      obtain ⟨_, _, ⟨b, hb, eb⟩⟩ := h4.2.1.2.B
      have := h4.2.1.2.hw hz (a := fg_dw t 3) (b := b) (by omega) hb
      rw [← eb, ← fg_ut_n (w := w) (a := 58) (k := 59) (x := nI (fg_dw t 3)) (by omega), fg_ut_id] at this
      exact this) (h4.pt.o (fun g hg => fg_ut_n (by omega)))
    refine fg_use (r_MO_draw (n := 2) h5 (by decide) (by decide) (fun u6 m6 h6 => ?_))
    have m7 : fg_sm fg_p191 u6 (fg_sR u6 191 59 (nI (fg_dw (fg_nx t) 2))) := fg_sm_R (by decide)
    exact H _ ((((m12.tr m4).tr (m5.wk fg_p191N)).tr m6).tr (m7.wk fg_p191N)) (h6.rwx m7 (by rw [fg_row_sR, h6.1]) (h4.2.1.2.hw hz (by omega) (by omega)) (h6.pt.o (fun g hg => fg_ut_n (by omega))))
  · have c2 : ¬ k < 2 := by omega
    rw [fg_aW, fg_aS, if_neg c2, if_neg c2, if_pos q, if_pos q, fg_cLW, if_pos e] at H
    exact H u2 m12 h2
  · have c2 : ¬ k < 2 := by omega
    rw [fg_aW, fg_aS, if_neg c2, if_neg c2, if_pos q, if_pos q, fg_cLW, if_neg e] at H
    exact fg_use (r_MO_haulNow (by omega) h2.1 (fun u m e3 => H u (m12.tr (m.wk fg_p191N)) (h2.rwx m e3 (h2.2.1.2.L hz hx) (fg_wL_pt h2.pt hz))))
  · have c2 : k < 2 := by omega
    have y0 : fg_zs z = 0 := by omega
    rw [fg_aW, fg_aS, if_pos c2, if_pos c2, fg_cHW, fg_cHS, if_pos y0, if_pos y0] at H
    exact H u2 m12 h2
  · have c2 : k < 2 := by omega
    rw [fg_aW, fg_aS, if_pos c2, if_pos c2] at H
    exact fg_use (r_MO_chanceHoist h2 hx (by omega) (fun u m h' => H u (m12.tr m) h'))
theorem fg_dr_ok (hz : fg_Zok z) (W : fg_Wk z w) (hH : 0 < fg_zH z) {c : Nat} (hc : c ≤ 9000) (ec : w 60 = nI c) (s : Nat) : ∀ n, n ≤ 60 → fg_Wk z (fg_dr z w s n).1 ∧ (fg_dr z w s n).1 60 = nI (c + n) := by
  intro n
  induction n with
  | zero => intro _; exact ⟨W, ec⟩
  | succ n ih =>
    intro hn
    obtain ⟨i1, i2⟩ := ih (by omega)
    obtain ⟨k1, k2, k3⟩ := fg_kp_ch hz i1 hH (fg_dr z w s n).2
    refine ⟨k1.wD hz (k2.trans i2) (by omega), ?_⟩
    show fg_wD z (fg_chW z (fg_dr z w s n).1 (fg_dr z w s n).2) 60 = _
    rw [fg_wD_60 hz, k2, i2, nI_1]
    rfl
def fg_dfW (z : fg_Z) (w : Nat → Int32) (s : Nat) (a : Int32) : Nat → Int32 := if fg_rfd z w a = 0 then (fg_dr z w s a.toNatClampNeg).1 else w
def fg_dfS (z : fg_Z) (w : Nat → Int32) (s : Nat) (a : Int32) : Nat := if fg_rfd z w a = 0 then (fg_dr z w s a.toNatClampNeg).2 else s
def fg_dfA (z : fg_Z) (w : Nat → Int32) (s : Nat) (a : Int32) : Int32 := if fg_rfd z w a = 0 then nI (fg_tn z (fg_dr z w s a.toNatClampNeg).1) else fg_rfd z w a
theorem l_FS_drift {n c : Nat} (hH : 0 < fg_zH z) (hz : fg_Zok z) (W : fg_Wk z w) (hn : n ≤ 60) (hc : c ≤ 9000) (ec : w 60 = nI c) (H : ∀ u, fg_sm fg_pC σ u → fg_CI u z (fg_dr z w s n).1 P I T v (fg_dr z w s n).2 R B → Q (nI (fg_tn z (fg_dr z w s n).1)) u) : ∀ m i (τ : fg_St), i + m = n → fg_sm fg_pC σ τ → fg_CI τ z (fg_dr z w s i).1 P I T v (fg_dr z w s i).2 R B → fg_Run (d + 6) 74 25 [some (.ref 0), some (.int (nI n)), none, some (.int (nI i))] [] τ Q := by
  intro m
  induction m with
  | zero =>
    intro i τ hi m1 h
    have hi : i = n := by omega
    subst hi
    refine b_FS_drift_25 ⟨fun _ => ?_, fun q => absurd (nI_le (Nat.le_refl _) (by omega)) q⟩
    rw [h.2.1.2.2.2.1.f7]
    exact H τ m1 h
  | succ m ih =>
    intro i τ hi m1 h
    obtain ⟨i1, i2⟩ := fg_dr_ok hz W hH hc ec s i (by omega)
    obtain ⟨k1, k2, k3⟩ := fg_kp_ch hz i1 hH (fg_dr z w s i).2
    refine b_FS_drift_25 ⟨fun q => absurd q (nI_ge (by omega) (by omega)), fun _ => fg_use (r_FS_act h hH (fun u2 m2 h2 => ?_))⟩
    have X := h2.2.1
    refine fg_use (r_DK_passDay X.1 X.2.1 X.2.2.2.2 X.2.2.2.1 X.2.2.1.1.2.2.1 (fun u m3 D => ?_))
    rw [nI_1]
    exact ih (i + 1) u (by omega) ((m1.tr m2).tr (m3.wk fg_p15C)) (h2.dck m3 D (k1.wD hz (k2.trans i2) (by omega)))
theorem l_MO_drift {n c : Nat} (hH : 0 < fg_zH z) (hz : fg_Zok z) (W : fg_Wk z w) (hn : n ≤ 60) (hc : c ≤ 9000) (ec : w 60 = nI c) (H : ∀ u, fg_sm fg_pN σ u → fg_RI u z (fg_dr z w s n).1 P I T v (fg_dr z w s n).2 R B → Q (nI (fg_tn z (fg_dr z w s n).1)) u) : ∀ m i (τ : fg_St), i + m = n → fg_sm fg_pN σ τ → fg_RI τ z (fg_dr z w s i).1 P I T v (fg_dr z w s i).2 R B → fg_Run (d + 6) 184 18 [some (.ref 187), some (.int (nI n)), none, some (.int (nI i))] [] τ Q := by
  intro m
  induction m with
  | zero =>
    intro i τ hi m1 h
    have hi : i = n := by omega
    subst hi
    have M := h.2.1.1
    refine b_MO_drift_18 ⟨fun _ => fg_use (r_MO_tornFlags M.1.1.2.2.1 M.2.1.1.2.2.1 ?_), fun q => absurd (nI_le (Nat.le_refl _) (by omega)) q⟩
    rw [h.1]
    exact H τ m1 h
  | succ m ih =>
    intro i τ hi m1 h
    obtain ⟨i1, i2⟩ := fg_dr_ok hz W hH hc ec s i (by omega)
    obtain ⟨k1, k2, k3⟩ := fg_kp_ch hz i1 hH (fg_dr z w s i).2
    refine b_MO_drift_18 ⟨fun q => absurd q (nI_ge (by omega) (by omega)), fun _ => fg_use (r_MO_chance h hH (fun u2 m2 h2 => ?_))⟩
    have M := h2.2.1.1
    refine fg_use (r_MO_pass M.1 h2.1 M.2.1.1.2.2.1 (fun u m3 e => ?_))
    rw [nI_1]
    exact ih (i + 1) u (by omega) ((m1.tr m2).tr (m3.wk fg_p191N)) (h2.rwx m3 e (k1.wD hz (k2.trans i2) (by omega)) (fg_wD_pt h2.pt hz))
theorem c_FS_drift {a : Int32} (h : fg_CI σ z w P I T v s R B) (H : ∀ u, fg_sm fg_pC σ u → fg_CI u z (fg_dfW z w s a) (fg_daP z w P a) I T v (fg_dfS z w s a) R B → Q (fg_dfA z w s a) u) : fg_Run (d + 6) 74 0 [some (.ref 0), some (.int a), none, none] [] σ Q := by
  have X := h.2.1
  refine b_FS_drift_0 (fg_use (r_FS_refusedDays X ⟨fun q => ?_, fun q => ?_⟩))
  · obtain ⟨n, c, hn, rfl, h0, hc, ec⟩ := fg_rfd_0 X.2.2.2.2 q
    rw [fg_dfW, fg_daP, fg_dfS, fg_dfA, if_pos q, if_pos q, if_pos q, if_pos q, nI_clamp (by omega)] at H
    refine fg_use (r_PA_remember X h.2.2.1 (fun u2 m2 hP => ?_))
    exact l_FS_drift (by omega) X.2.1 X.2.2.2.2 hn hc ec H n 0 u2 (by omega) (m2.wk fg_pPaC) (h.rem m2 hP)
  · rw [fg_dfW, fg_daP, fg_dfS, fg_dfA, if_neg q, if_neg q, if_neg q, if_neg q] at H
    exact H σ fg_sm.rfl' h
theorem c_MO_drift {a : Int32} (h : fg_RI σ z w P I T v s R B) (H : ∀ u, fg_sm fg_pN σ u → fg_RI u z (fg_dfW z w s a) (fg_daP z w P a) I T v (fg_dfS z w s a) R B → Q (fg_dfA z w s a) u) : fg_Run (d + 6) 184 0 [some (.ref 187), some (.int a), none, none] [] σ Q := by
  have M := h.2.1.1
  refine b_MO_drift_0 (fg_use (r_MO_daysRefused M h.1 ⟨fun q => ?_, fun q => ?_⟩))
  · obtain ⟨n, c, hn, rfl, h0, hc, ec⟩ := fg_rfd_0 h.2.1.2 q
    rw [fg_dfW, fg_daP, fg_dfS, fg_dfA, if_pos q, if_pos q, if_pos q, if_pos q, nI_clamp (by omega)] at H
    refine fg_use (r_MO_remember h.1 h.2.1.2 h.pt h.2.2.1 (fun u2 m2 n2 hP => ?_))
    exact l_MO_drift (by omega) M.1 h.2.1.2 hn hc ec H n 0 u2 (by omega) m2 (h.rem n2 hP)
  · rw [fg_dfW, fg_daP, fg_dfS, fg_dfA, if_neg q, if_neg q, if_neg q, if_neg q] at H
    exact H σ fg_sm.rfl' h
end
