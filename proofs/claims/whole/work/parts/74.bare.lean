/-! BEFORE THE FIRST SHIP: the reference's row is all 0 -/
abbrev fg_z0 : fg_Z := (fg_S1 0 0).1
def fg_wz : Nat → Int32 := fg_w0 (fg_S1 0 0)
def fg_zO : Nat → Int32 := fun _ => 0
def fg_ImU (σ : fg_St) (I : fg_GI) : Prop := ∀ i, i < 2 → fg_R σ 208 i = fg_b (I.1 i) ∧ (I.1 i = true → (∀ k, k < 61 → fg_R σ 207 (62 * i + k) = 0) ∧ fg_R σ 207 (62 * i + 61) = nI (I.2.2 i) ∧ I.2.2 i < 2 ^ 31 ∧ I.2.1 i = fg_wz)
def fg_RU (σ : fg_St) (z : fg_Z) (w : Nat → Int32) (P : fg_GP) (I : fg_GI) (T : fg_GT) (v : Int32) (s : Nat) (R : fg_GR) (B : fg_GB) : Prop := (z = fg_z0 ∧ w = fg_wz) ∧ (fg_R σ 191 = fg_zO ∧ fg_MI σ fg_z0) ∧ (P.1 = 0 ∧ fg_F σ 187 30 = 0) ∧ fg_ImU σ I ∧ fg_TxM σ T ∧ fg_F σ 187 11 = v ∧ (s < 2 ^ 31 ∧ fg_F σ 187 8 = nI s) ∧ (R.1 = 0 ∧ fg_F σ 187 26 = 0) ∧ (B.1 = 0 ∧ fg_F σ 187 32 = 0)
/-- the reference, before the first ship or after -/
def fg_J (σ : fg_St) (z : fg_Z) (w : Nat → Int32) (P : fg_GP) (I : fg_GI) (T : fg_GT) (v : Int32) (s : Nat) (R : fg_GR) (B : fg_GB) : Prop := fg_RI σ z w P I T v s R B ∨ fg_RU σ z w P I T v s R B
section
variable {d : Nat} {σ u : fg_St} {Q : Int32 → fg_St → Prop} {z : fg_Z} {w : Nat → Int32} {P : fg_GP} {I : fg_GI} {T : fg_GT} {v : Int32} {s : Nat} {R : fg_GR} {B : fg_GB} {hz wd : Nat} {p f r : Nat → Bool}
theorem fg_isn0 {a : Int32} : fg_isn a 0 = false := decide_eq_false (by omega)
theorem fg_n0x {a : Int32} {X : Prop} (e : fg_isn a 0 = true) : X := by
  rw [fg_isn0] at e
  cases e
theorem fg_w61_s (a : Nat → Int32) : fg_w61 a a = a := funext fun k => by unfold fg_w61; split <;> rfl
theorem fg_wz_o {k : Nat} (h : 61 ≤ k) : fg_wz k = 0 := by
  unfold fg_wz fg_w0
  rw [if_neg (show ¬ k < fg_zf (fg_S1 0 0).1 from Nat.not_lt_zero _), if_neg (by omega), if_neg (by omega)]
theorem fg_w61_z (a : Nat → Int32) : fg_w61 a fg_wz = fg_w61 a fg_zO := funext fun k => by
  unfold fg_w61
  by_cases h : k < 61
  · rw [if_pos h, if_pos h]
  · rw [if_neg h, if_neg h]
    exact fg_wz_o (by omega)
theorem fg_ImU.sn (h : fg_ImU σ I) (m : fg_sn f r σ u) (h0 : r 207 = false) (h1 : r 208 = false) : fg_ImU u I := fun i hi => ⟨(m.2 208 h1 i).trans (h i hi).1, fun q => ⟨fun k hk => (m.2 207 h0 _).trans (((h i hi).2 q).1 k hk), (m.2 207 h0 _).trans ((h i hi).2 q).2.1, ((h i hi).2 q).2.2⟩⟩
theorem fg_RU.sm (h : fg_RU σ z w P I T v s R B) (m : fg_sm p σ u) (hp : ∀ g, 187 ≤ g → fg_pM g = false → p g = false) : fg_RU u z w P I T v s R B := by
  obtain ⟨a1, a2, a3, a4, a5, a6, a7, a8, a9⟩ := h
  have n := m.sn (hp 187 (by omega) (by decide))
  exact ⟨a1, ⟨(funext (n.2 191 (hp _ (by omega) (by decide)))).trans a2.1, a2.2.sn n rfl rfl rfl rfl (hp _ (by omega) (by decide)) (hp _ (by omega) (by decide)) (hp _ (by omega) (by decide))⟩, ⟨a3.1, (n.1 30 rfl).trans a3.2⟩, a4.sn n (hp _ (by omega) (by decide)) (hp _ (by omega) (by decide)), a5.sn n rfl (hp _ (by omega) (by decide)), (n.1 11 rfl).trans a6, ⟨a7.1, (n.1 8 rfl).trans a7.2⟩, ⟨a8.1, (n.1 26 rfl).trans a8.2⟩, ⟨a9.1, (n.1 32 rfl).trans a9.2⟩⟩
theorem fg_RU.m (h : fg_RU σ z w P I T v s R B) (m : fg_sm fg_pM σ u) : fg_RU u z w P I T v s R B := h.sm m (fun _ _ q => q)
theorem fg_J.c (h : fg_J σ z w P I T v s R B) (m : fg_sm fg_pC σ u) : fg_J u z w P I T v s R B := h.imp (fun h => h.c m) (fun h => h.sm m (fun g h1 _ => decide_eq_false (by omega)))
theorem fg_J.sc (h : fg_J σ z w P I T v s R B) (m : fg_sc σ u) : fg_J u z w P I T v s R B := by
  rcases h with h | h
  · exact Or.inl (h.sc m)
  · refine Or.inr ?_
    obtain ⟨a1, a2, a3, a4, a5, a6, a7, a8, a9⟩ := h
    have n : fg_sn fg_no fg_pC σ u := ⟨fun k _ => (m 187 (by decide)).1 k, fun g hg => (m g (by have : ¬ g < 187 := of_decide_eq_false hg; omega)).2⟩
    exact ⟨a1, ⟨(funext (n.2 191 rfl)).trans a2.1, a2.2.sn n rfl rfl rfl rfl rfl rfl rfl⟩, ⟨a3.1, (n.1 30 rfl).trans a3.2⟩, a4.sn n rfl rfl, a5.sn n rfl rfl, (n.1 11 rfl).trans a6, ⟨a7.1, (n.1 8 rfl).trans a7.2⟩, ⟨a8.1, (n.1 26 rfl).trans a8.2⟩, ⟨a9.1, (n.1 32 rfl).trans a9.2⟩⟩
set_option maxRecDepth 100000 in
set_option maxHeartbeats 4000000 in
theorem g_MO_told {a : Int32} (hh : hz ≤ 2) (hw : wd ≤ 1) (e1 : fg_R σ 191 58 = nI hz) (e2 : fg_R σ 191 59 = nI wd) (M : fg_MI σ z) (a5 : fg_F σ 187 10 = nI T.1) (a8 : fg_RdM σ z R.1 R.2.1 R.2.2) (a9 : fg_F σ 187 32 = nI B.1) (a3 : fg_F σ 187 30 = nI P.1) (hx : ∀ u, fg_sm fg_pM σ u → Q (fg_tlA z (fg_R σ 191) hz wd P T R B a) u) : fg_Run (d + 7) 159 0 [some (.ref 187), some (.int a)] [] σ Q := by
  refine b_MO_told_0 ⟨fun q0 => by subst q0; rw [fg_tl0] at hx; have hs := hx σ fg_sm.rfl'; exact (by rw [M.2.1.1.1]; exact hs), fun q0 => ⟨fun q1 => by subst q1; rw [fg_tl1] at hx; have hs := hx σ fg_sm.rfl'; exact (by rw [M.2.1.1.2.1]; exact hs), fun q1 => ⟨fun q2 => by subst q2; rw [fg_tl2] at hx; have hs := hx σ fg_sm.rfl'; exact (by rw [M.2.1.1.2.2.1]; exact hs), fun q2 => ⟨fun q3 => by subst q3; rw [fg_tl3] at hx; have hs := hx σ fg_sm.rfl'; exact (by rw [M.2.1.1.2.2.2]; exact hs), fun q3 => ⟨fun q4 => by subst q4; rw [fg_tl4] at hx; have hs := hx σ fg_sm.rfl'; exact (by rw [a5]; exact hs), fun q4 => ⟨fun q5 => by subst q5; rw [fg_tl5] at hx; have hs := hx σ fg_sm.rfl'; exact (hs), fun q5 => ⟨fun q6 => by subst q6; rw [fg_tl6] at hx; have hs := hx σ fg_sm.rfl'; exact (hs), fun q6 => ⟨fun q7 => by subst q7; rw [fg_tl7] at hx; have hs := hx σ fg_sm.rfl'; exact (hs), fun q7 => ⟨fun q8 => by subst q8; rw [fg_tl8] at hx; have hs := hx σ fg_sm.rfl'; exact (fg_use (r_MO_freeFlags M.1 M.2.1 hs)), fun q8 => ⟨fun q9 => by subst q9; rw [fg_tl9] at hx; have hs := hx σ fg_sm.rfl'; exact (fg_use (r_MO_tornFlags M.1.1.2.2.1 M.2.1.1.2.2.1 hs)), fun q9 => ⟨fun q10 => by subst q10; rw [fg_tl10] at hx; have hs := hx σ fg_sm.rfl'; exact (fg_use (r_MO_canGoUp M hx)), fun q10 => ⟨fun q11 => by subst q11; rw [fg_tl11] at hx; have hs := hx σ fg_sm.rfl'; exact (fg_use (r_MO_clearNow hh hw M e1 e2 (fun u m => hx u (m.wk fg_pKM)))), fun q11 => ⟨fun q12 => by subst q12; rw [fg_tl12] at hx; have hs := hx σ fg_sm.rfl'; exact (fg_use (r_MO_clearest M hx)), fun q12 => ⟨fun q13 => by subst q13; rw [fg_tl13] at hx; have hs := hx σ fg_sm.rfl'; exact (fg_use (r_MO_mostTogether M hx)), fun q13 => ⟨fun q14 => by subst q14; rw [fg_tl14] at hx; have hs := hx σ fg_sm.rfl'; exact (fg_use (r_MO_needed M.1 M.2.1 hs)), fun q14 => ⟨fun q15 => by subst q15; rw [fg_tl15] at hx; have hs := hx σ fg_sm.rfl'; exact (fg_use (r_MO_better M hh hw e1 e2 hx)), fun q15 => ⟨fun q16 => by subst q16; rw [fg_tl16] at hx; have hs := hx σ fg_sm.rfl'; exact (by rw [a8.1.1]; exact hs), fun q16 => ⟨fun q17 => by subst q17; rw [fg_tl17] at hx; have hs := hx σ fg_sm.rfl'; exact (fg_use (r_MO_weathers M a8 (fun u m => fg_use (r_MO_bits (Nat.lt_of_lt_of_le (fg_set_lt _ _) (by decide)) (hx u m))))), fun q17 => ⟨fun q18 => by subst q18; rw [fg_tl18] at hx; have hs := hx σ fg_sm.rfl'; exact (fg_use (r_MO_weathers M a8 hx)), fun q18 => ⟨fun q19 => by subst q19; rw [fg_tl19] at hx; have hs := hx σ fg_sm.rfl'; exact (fg_use (r_MO_askNext M a8 hx)), fun q19 => ⟨fun q20 => by subst q20; rw [fg_tl20] at hx; have hs := hx σ fg_sm.rfl'; exact (by rw [a9]; exact hs), fun q20 => ⟨fun q21 => by subst q21; rw [fg_tl21] at hx; have hs := hx σ fg_sm.rfl'; exact (by rw [a3]; exact hs), fun q21 => by rw [fg_tlO q0 q1 q2 q3 q4 q5 q6 q7 q8 q9 q10 q11 q12 q13 q14 q15 q16 q17 q18 q19 q20 q21] at hx; exact hx σ fg_sm.rfl'⟩⟩⟩⟩⟩⟩⟩⟩⟩⟩⟩⟩⟩⟩⟩⟩⟩⟩⟩⟩⟩⟩
theorem g_MO_together {a : Int32} (h1 : fg_R σ 191 = w) (M : fg_MI σ z) (hx : ∀ u, fg_sm fg_pM σ u → Q (fg_toA z w a) u) : fg_Run (d + 4) 152 0 [some (.ref 187), some (.int a)] [] σ Q := by
  have H := hx σ fg_sm.rfl'
  have hf := fg_p10 M.1.1.2.2.2
  refine b_MO_together_0 (fg_use (r_MO_areSignals M.1 M.2.1 (fg_bt (fun e => ?_) (fun e => ?_))))
  · obtain ⟨g, hg, rfl⟩ := fg_isn_t e (by omega)
    refine fg_use (r_MO_fly M (by omega) (fun u m => ?_))
    have Hu := hx u (m.wk fg_pRM)
    rw [fg_toA, if_pos e, nI_clamp (by omega)] at Hu
    rw [h1]
    refine fg_bt' (fun q => ?_) (fun q => ?_)
    · rw [q] at Hu
      exact Hu
    · rw [q] at Hu
      exact Hu
  · rw [fg_toA, if_neg (by rw [e]; decide)] at H
    exact H
theorem g_MO_turns {a b : Int32} (h1 : fg_R σ 191 = w) (M : fg_MI σ z) (hx : ∀ u, fg_sm fg_pM σ u → Q (fg_trA z w a b) u) : fg_Run (d + 5) 154 0 [some (.ref 187), some (.int a), some (.int b), none, none] [] σ Q := by
  have H := hx σ fg_sm.rfl'
  have hf := fg_p10 M.1.1.2.2.2
  refine b_MO_turns_0 (fg_use (r_MO_areSignals M.1 M.2.1 (fg_bt (fun e => fg_use (r_MO_inr (lo := 0) (hi := 1) rfl rfl (fg_bt (fun o => ?_) (fun o => ?_)))) (fun e => ?_))))
  · obtain ⟨g, hg, rfl⟩ := fg_isn_t e (by omega)
    refine fg_use (r_MO_findTurns M rfl (by omega) (fun u m r1 r2 => ?_))
    have Hu := hx u (m.wk fg_p2M)
    rw [fg_trA, if_pos e, if_pos o, nI_clamp (by omega)] at Hu
    rw [h1] at r1 r2
    have hF := fg_fr_le (F := fg_flb z (fg_tn z w)) (P := g) (by omega)
    have ml : 1000000 ≤ nI (fg_fr (fg_flb z (fg_tn z w)) g) ↔ 1000000 ≤ fg_fr (fg_flb z (fg_tn z w)) g := nI_leI (a := 1000000) (by decide) (by omega)
    have mt : nI (fg_fr (fg_flb z (fg_tn z w)) g) < 1000000 ↔ fg_fr (fg_flb z (fg_tn z w)) g < 1000000 := nI_ltI (b := 1000000) (by omega) (by decide)
    rw [nI_clamp (by omega), r1 g (fun _ q => q), ml, mt]
    have vi : vp_in (nI g) 1024 := vp_in_nI (by omega) (by decide)
    have no : 1000000 ≤ fg_fr (fg_flb z (fg_tn z w)) g → Q (-1) u := fun q => by rw [if_neg (by omega)] at Hu; exact Hu
    refine ⟨fun q => ⟨vi, fun q2 => no q2, fun q2 => ⟨vi, ?_⟩⟩, fun q => ⟨vi, fun q2 => ?_, fun q2 => ⟨vi, fun q3 => no q3, fun q3 => absurd q3 (by omega)⟩⟩⟩
    · rw [if_pos (by omega), if_pos q] at Hu
      exact Hu
    · rw [if_pos (by omega), if_neg q] at Hu
      by_cases h0 : g = 0
      · subst h0
        refine b_MO_turns_71 ⟨fun _ => ?_, fun q => absurd (nI_le (a := 0) (b := 0) (by decide) (by decide)) q⟩
        rw [fg_fsX_eq (x := -1) (Or.inl ⟨rfl, fun G a b => by omega⟩)] at Hu
        exact Hu
      · refine l_MO_turnsB (by omega) h0 q2 r1 r2 (fun x hx => ?_) g (-1) (fun _ q => q) (Or.inl ⟨rfl, fun G a b => by omega⟩)
        rw [fg_fsX_eq hx] at Hu
        exact Hu
  · rw [fg_trA, if_pos e, if_neg (by rw [o]; decide)] at H
    exact H
  · rw [fg_trA, if_neg (by rw [e]; decide)] at H
    exact H
end
