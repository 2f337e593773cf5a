/-! SMALL METHODS: feed, fault, seed, tear, read, write, judge, clear -/
section
variable {d : Nat} {σ : fg_St} {Q : Int32 → fg_St → Prop} {z : fg_Z} {w : Nat → Int32} {P : fg_GP} {I : fg_GI} {T : fg_GT} {v : Int32} {s : Nat} {R : fg_GR} {B : fg_GB}
def fg_fdT (T : fg_GT) (a : Int32) : fg_GT := if fg_isr a 0 255 = true then (if T.1 < 240 then (T.1 + 1, fun i => if i = T.1 then a.toNatClampNeg else T.2 i) else T) else T
def fg_fdA (T : fg_GT) (a : Int32) : Int32 := if fg_isr a 0 255 = true then (if T.1 < 240 then nI (T.1 + 1) else -1000000004) else -1000000002
theorem c_FS_feed {a : Int32} (h : fg_CI σ z w P I T v s R B) (H : ∀ u, fg_sm fg_pC σ u → fg_CI u z w P I (fg_fdT T a) v s R B → Q (fg_fdA T a) u) : fg_Run (d + 1) 60 0 [some (.ref 0), some (.int a)] [] σ Q := by
  have out : fg_isr a 0 255 = false → Q (-1000000002) σ := by
    intro e
    have := H σ fg_sm.rfl' (by rw [fg_fdT, e]; exact h)
    rw [fg_fdA, e] at this
    exact this
  have h5 := h.2.2.2.2.1
  have hb := h5.1
  refine b_FS_feed_0 ⟨fun q => out (fg_isr_lo (lo := 0) (by decide) q), fun q => ⟨fun q2 => fg_use (b_TX_append_0 ?_), fun q2 => out (fg_isr_hi (hi := 255) (by decide) q2)⟩⟩
  have e := fg_isr_ok (lo := 0) (hi := 255) (by decide) (by decide) q q2
  obtain ⟨c, _, hc, rfl⟩ := fg_isr_t e (by decide)
  rw [fg_fdA, fg_fdT, if_pos e, if_pos e] at H
  rw [h5.2.1, nI_clamp (by omega), nI_1]
  refine ⟨fun q3 => ⟨vp_in_nI ?_ (by decide), ?_⟩, fun q3 => ?_⟩
  · exact (nI_ltI (b := 240) (by omega) (by decide)).mp q3
  · have q3 : T.1 < 240 := (nI_ltI (b := 240) (by omega) (by decide)).mp q3
    rw [if_pos q3, if_pos q3] at H
    refine ⟨fun q => absurd q (by decide), fun _ => H _ (((fg_sm_R (by decide)).tr (fg_sm_F (by decide)))) ?_⟩
    refine h.tx (p := fun g => g == 1 || g == 2) ((fg_sm_R (by decide)).tr (fg_sm_F (by decide))) (fun g _ _ hg => by simp; omega) ⟨?_, rfl, fun i hi => ?_⟩
    · show T.1 + 1 ≤ 240
      omega
    · show fg_R (fg_sR σ 2 T.1 (nI c)) 2 i = nI (if i = T.1 then (nI c).toNatClampNeg else T.2 i) ∧ (if i = T.1 then (nI c).toNatClampNeg else T.2 i) ≤ 255
      have hi : i < T.1 + 1 := hi
      rw [fg_R_sR, nI_clamp (by omega)]
      by_cases e1 : i = T.1
      · rw [if_pos ⟨rfl, e1⟩, if_pos e1]
        exact ⟨rfl, hc⟩
      · rw [if_neg (fun q => e1 q.2), if_neg e1]
        exact h5.2.2 i (by omega)
  · have q3 : ¬ T.1 < 240 := fun x => q3 ((nI_ltI (b := 240) (by omega) (by decide)).mpr x)
    rw [if_neg q3, if_neg q3] at H
    exact ⟨fun _ => H σ fg_sm.rfl' h, fun q => absurd rfl q⟩
theorem c_MO_feed {a : Int32} (h : fg_RI σ z w P I T v s R B) (H : ∀ u, fg_sm fg_pN σ u → fg_RI u z w P I (fg_fdT T a) v s R B → Q (fg_fdA T a) u) : fg_Run (d + 1) 116 0 [some (.ref 187), some (.int a)] [] σ Q := by
  have h5 := h.2.2.2.2.1
  have hb := h5.1
  refine b_MO_feed_0 (fg_use (r_MO_inr (lo := 0) (hi := 255) rfl rfl (fg_bt (fun e => ?_) (fun e => ?_))))
  · obtain ⟨c, _, hc, rfl⟩ := fg_isr_t e (by decide)
    rw [fg_fdA, fg_fdT, if_pos e, if_pos e] at H
    rw [h5.2.1, nI_clamp (by omega), nI_1]
    have e4 : nI T.1 = 240 ↔ T.1 = 240 := nI_eq (b := 240) (by omega) (by decide)
    rw [e4]
    refine ⟨fun q3 => ⟨vp_in_nI (by omega) (by decide), ?_⟩, fun q3 => ?_⟩
    · rw [if_pos (by omega), if_pos (by omega)] at H
      have n : fg_sn (fun k => k == 10) (fun g => g == 192) σ (fg_sF (fg_sR σ 192 T.1 (nI c)) 187 10 (nI (T.1 + 1))) := (fg_sn_R (by decide)).tr (fg_sn_F (by decide))
      obtain ⟨a1, a2, a3, a4, a5, a6, a7, a8, a9⟩ := h
      refine H _ ((fg_sm_R (by decide)).tr (fg_sm_F (by decide))) ⟨a1, ⟨a2.1.sn n rfl rfl rfl rfl rfl rfl rfl, a2.2⟩, a3.sn n rfl rfl, a4.sn n rfl rfl, ⟨?_, rfl, fun i hi => ?_⟩, a6, a7, a8.sn n rfl rfl rfl, a9.sn n rfl rfl rfl⟩
      · show T.1 + 1 ≤ 240
        omega
      · show fg_R (fg_sR σ 192 T.1 (nI c)) 192 i = nI (if i = T.1 then (nI c).toNatClampNeg else T.2 i) ∧ (if i = T.1 then (nI c).toNatClampNeg else T.2 i) ≤ 255
        have hi : i < T.1 + 1 := hi
        rw [fg_R_sR, nI_clamp (by omega)]
        by_cases e1 : i = T.1
        · rw [if_pos ⟨rfl, e1⟩, if_pos e1]
          exact ⟨rfl, hc⟩
        · rw [if_neg (fun q => e1 q.2), if_neg e1]
          exact h5.2.2 i (by omega)
    · rw [if_neg (by omega), if_neg (by omega)] at H
      exact H σ fg_sm.rfl' h
  · rw [fg_fdA, fg_fdT, if_neg (by rw [e]; decide), if_neg (by rw [e]; decide)] at H
    exact H σ fg_sm.rfl' h
theorem c_FS_fault (h : fg_CI σ z w P I T v s R B) (H : ∀ u, fg_sm fg_pC σ u → fg_CI u z w P I T v s R B → Q v u) : fg_Run d 62 0 [some (.ref 0)] [] σ Q := by
  refine b_FS_fault_0 ?_
  rw [h.2.2.2.2.2.1]
  exact H σ fg_sm.rfl' h
theorem c_MO_fault (h : fg_RI σ z w P I T v s R B) (H : ∀ u, fg_sm fg_pN σ u → fg_RI u z w P I T v s R B → Q v u) : fg_Run d 127 0 [some (.ref 187)] [] σ Q := by
  refine b_MO_fault_0 ?_
  rw [h.2.2.2.2.2.1]
  exact H σ fg_sm.rfl' h
def fg_seS (s : Nat) (a : Int32) : Nat := if 0 ≤ a then a.toNatClampNeg else s
def fg_seA (s : Nat) (a : Int32) : Int32 := if 0 ≤ a then nI s else -1000000002
theorem fg_nn {a : Int32} (h : 0 ≤ a) : ∃ j : Nat, j < 2 ^ 31 ∧ a = nI j := nI_of (fun q => absurd h (by
  rw [fg_le']
  rw [fg_lt] at q
  have : (0 : Int32).toInt = 0 := rfl
  omega))
theorem c_FS_seed {a : Int32} (h : fg_CI σ z w P I T v s R B) (H : ∀ u, fg_sm fg_pC σ u → fg_CI u z w P I T v (fg_seS s a) R B → Q (fg_seA s a) u) : fg_Run d 84 0 [some (.ref 0), some (.int a), none] [] σ Q := by
  refine b_FS_seed_0 ⟨fun q => ?_, fun q => ?_⟩
  · rw [fg_seS, fg_seA, if_pos q, if_pos q] at H
    rw [h.2.2.2.2.2.2.1.2]
    obtain ⟨j, hj, rfl⟩ := fg_nn q
    refine H _ (fg_sm_F (by decide)) (h.fs (p := fun g => g == 0) (fg_sm_F (by decide)) (fun g _ _ hg => by simpa using hg) h.2.2.2.2.2.1 ⟨?_, ?_⟩)
    · rw [nI_clamp hj]
      exact hj
    · rw [nI_clamp hj]
      rfl
  · rw [fg_seS, fg_seA, if_neg q, if_neg q] at H
    exact H σ fg_sm.rfl' h
theorem c_MO_seed {a : Int32} (h : fg_RI σ z w P I T v s R B) (H : ∀ u, fg_sm fg_pN σ u → fg_RI u z w P I T v (fg_seS s a) R B → Q (fg_seA s a) u) : fg_Run d 192 0 [some (.ref 187), some (.int a), none] [] σ Q := by
  refine b_MO_seed_0 ⟨fun q => ?_, fun q => ?_⟩
  · rw [fg_seS, fg_seA, if_pos q, if_pos q] at H
    rw [h.2.2.2.2.2.2.1.2]
    obtain ⟨j, hj, rfl⟩ := fg_nn q
    have n : fg_sn (fun k => k == 8) fg_no σ (fg_sF σ 187 8 (nI j)) := fg_sn_F (by decide)
    obtain ⟨a1, a2, a3, a4, a5, a6, a7, a8, a9⟩ := h
    refine H _ (fg_sm_F (by decide)) ⟨a1, ⟨a2.1.sn n rfl rfl rfl rfl rfl rfl rfl, a2.2⟩, a3.sn n rfl rfl, a4.sn n rfl rfl, a5.sn n rfl rfl, a6, ⟨?_, ?_⟩, a8.sn n rfl rfl rfl, a9.sn n rfl rfl rfl⟩
    · rw [nI_clamp hj]
      exact hj
    · rw [nI_clamp hj]
      rfl
  · rw [fg_seS, fg_seA, if_neg q, if_neg q] at H
    exact H σ fg_sm.rfl' h
theorem c_FS_tear (h : fg_CI σ z w P I T v s R B) (H : ∀ u, fg_sm fg_pC σ u → fg_CI u z w P I T v s (0, R.2) (0, B.2) → Q (nI (R.1 + B.1)) u) : fg_Run (d + 1) 82 0 [some (.ref 0), none] [] σ Q := by
  have h8 := h.2.2.2.2.2.2.2.1
  have h9 := h.2.2.2.2.2.2.2.2
  refine b_FS_tear_0 (fg_use (b_LG_wipe_0 ?_))
  rw [h8.1.1, h9.1.2, nI_add]
  refine H _ ((fg_sm_F (by decide)).tr (fg_sm_F (by decide))) (h.lg (p := fun g => g == 26) ((fg_sm_F (by decide)).tr (fg_sm_F (by decide))) (fun g _ _ hg => by simp; omega) ⟨⟨rfl, by simp⟩, fun i hi => absurd hi (by simp)⟩ ⟨⟨by simp, rfl⟩, fun i hi => absurd hi (by simp)⟩)
theorem c_MO_tear (h : fg_RI σ z w P I T v s R B) (H : ∀ u, fg_sm fg_pN σ u → fg_RI u z w P I T v s (0, R.2) (0, B.2) → Q (nI (R.1 + B.1)) u) : fg_Run d 190 0 [some (.ref 187), none] [] σ Q := by
  have h8 := h.2.2.2.2.2.2.2.1
  have h9 := h.2.2.2.2.2.2.2.2
  refine b_MO_tear_0 ?_
  rw [h8.1.1, h9.1.2, nI_add]
  have n : fg_sn (fun k => k == 26 || k == 32) fg_no σ (fg_sF (fg_sF σ 187 26 0) 187 32 0) := (fg_sn_F (by decide)).tr (fg_sn_F (by decide))
  obtain ⟨a1, a2, a3, a4, a5, a6, a7, a8, a9⟩ := h
  exact H _ ((fg_sm_F (by decide)).tr (fg_sm_F (by decide))) ⟨a1, ⟨a2.1.sn n rfl rfl rfl rfl rfl rfl rfl, a2.2⟩, a3.sn n rfl rfl, a4.sn n rfl rfl, a5.sn n rfl rfl, a6, a7, ⟨⟨rfl, by simp⟩, fun i hi => absurd hi (by simp)⟩, ⟨⟨by simp, rfl⟩, fun i hi => absurd hi (by simp)⟩⟩
def fg_rdO (z : fg_Z) (R : fg_GR) (a b : Int32) : Bool := fg_isn a (fg_zs z) && fg_isn b (fg_zs z)
def fg_rdR (z : fg_Z) (R : fg_GR) (a b : Int32) : fg_GR := if fg_rdO z R a b = true then (if R.1 < 8 then (R.1 + 1, (fun i => if i = R.1 then a.toNatClampNeg else R.2.1 i), fun i => if i = R.1 then b.toNatClampNeg else R.2.2 i) else R) else R
def fg_rdA (z : fg_Z) (R : fg_GR) (a b : Int32) : Int32 := if fg_rdO z R a b = true then (if R.1 < 8 then nI (R.1 + 1) else -1000000004) else -1000000001
theorem c_FS_read {a b : Int32} (h : fg_CI σ z w P I T v s R B) (H : ∀ u, fg_sm fg_pC σ u → fg_CI u z w P I T v s (fg_rdR z R a b) B → Q (fg_rdA z R a b) u) : fg_Run (d + 1) 80 0 [some (.ref 0), some (.int a), some (.int b)] [] σ Q := by
  have hX := h.2.1
  have h8 := h.2.2.2.2.2.2.2.1
  have h9 := h.2.2.2.2.2.2.2.2
  have hb := h8.1.2
  have hs := hX.2.1.1.2.2.2
  have out : fg_rdO z R a b = false → Q (-1000000001) σ := by
    intro e
    rw [fg_rdA, fg_rdR, e] at H
    exact H σ fg_sm.rfl' h
  refine b_FS_read_0 ⟨fg_kd6 hX.1, fg_use (r_SH_hasSignal hX.1 hX.2.1 hX.2.2.1 (fg_bt' (fun e1 => ⟨fg_kd6 hX.1, fg_use (r_SH_hasSignal hX.1 hX.2.1 hX.2.2.1 (fg_bt (fun e2 => ?_) (fun e2 => out (by simp [fg_rdO, e2]))))⟩) (fun e1 => out (by simp [fg_rdO, e1]))))⟩
  have e : fg_rdO z R a b = true := by simp [fg_rdO, e1, e2]
  obtain ⟨x, hx, rfl⟩ := fg_isn_t e1 (by omega)
  obtain ⟨y, hy, rfl⟩ := fg_isn_t e2 (by omega)
  rw [fg_rdA, fg_rdR, if_pos e, if_pos e] at H
  refine fg_use (b_LG_addRead_0 ?_)
  rw [h8.1.1, nI_clamp (by omega), nI_1]
  refine ⟨fun q => ?_, fun q => ?_⟩
  · have q : R.1 < 8 := (nI_ltI (b := 8) (by omega) (by decide)).mp q
    rw [if_pos q, if_pos q] at H
    have m : ∀ p : Nat → Bool, p 26 = true → p 27 = true → p 28 = true → fg_sm p σ (fg_sF (fg_sR (fg_sR σ 27 R.1 (nI x)) 28 R.1 (nI y)) 26 4 (nI (R.1 + 1))) := fun p p1 p2 p3 => ((fg_sm_R p2).tr (fg_sm_R p3)).tr (fg_sm_F p1)
    refine ⟨vp_in_nI q (by decide), vp_in_nI q (by decide), fun q => absurd q (by decide), fun _ => H _ (m _ (by decide) (by decide) (by decide)) (h.lg (p := fun g => 26 ≤ g && g ≤ 28) (m _ (by decide) (by decide) (by decide)) (fun g _ _ hg => by simp; omega) ⟨⟨rfl, by show R.1 + 1 ≤ 8; omega⟩, fun i hi => ?_⟩ ⟨h9.1, h9.2⟩)⟩
    have hi : i < R.1 + 1 := hi
    show fg_R (fg_sR (fg_sR σ 27 R.1 (nI x)) 28 R.1 (nI y)) 27 i = nI (if i = R.1 then (nI x).toNatClampNeg else R.2.1 i) ∧ (if i = R.1 then (nI x).toNatClampNeg else R.2.1 i) < fg_zs z ∧ fg_R (fg_sR (fg_sR σ 27 R.1 (nI x)) 28 R.1 (nI y)) 28 i = nI (if i = R.1 then (nI y).toNatClampNeg else R.2.2 i) ∧ (if i = R.1 then (nI y).toNatClampNeg else R.2.2 i) < fg_zs z
    rw [fg_R_sR, fg_R_sR, if_neg (fun q => absurd q.1 (by decide)), fg_R_sR, nI_clamp (by omega), nI_clamp (by omega)]
    by_cases e1 : i = R.1
    · rw [if_pos ⟨rfl, e1⟩, if_pos e1, if_pos ⟨rfl, e1⟩, if_pos e1]
      exact ⟨rfl, hx, rfl, hy⟩
    · rw [if_neg (fun q => e1 q.2), if_neg e1, if_neg (fun q => e1 q.2), if_neg e1, fg_R_sR, if_neg (fun q => absurd q.1 (by decide))]
      exact h8.2 i (by omega)
  · have q : ¬ R.1 < 8 := fun x => q ((nI_ltI (b := 8) (by omega) (by decide)).mpr x)
    rw [if_neg q, if_neg q] at H
    exact ⟨fun _ => H σ fg_sm.rfl' h, fun q => absurd rfl q⟩
theorem c_MO_read {a b : Int32} (h : fg_RI σ z w P I T v s R B) (H : ∀ u, fg_sm fg_pN σ u → fg_RI u z w P I T v s (fg_rdR z R a b) B → Q (fg_rdA z R a b) u) : fg_Run (d + 2) 188 0 [some (.ref 187), some (.int a), some (.int b)] [] σ Q := by
  have hM := h.2.1.1
  have h8 := h.2.2.2.2.2.2.2.1
  have hb := h8.1.2
  have hs := hM.1.1.2.2.2
  have out : fg_rdO z R a b = false → Q (-1000000001) σ := by
    intro e
    rw [fg_rdA, fg_rdR, e] at H
    exact H σ fg_sm.rfl' h
  refine b_MO_read_0 (fg_use (r_MO_isSig hM.1 hM.2.1 (fg_bt' (fun e1 => fg_use (r_MO_isSig hM.1 hM.2.1 (fg_bt (fun e2 => ?_) (fun e2 => out (by simp [fg_rdO, e2]))))) (fun e1 => out (by simp [fg_rdO, e1])))))
  have e : fg_rdO z R a b = true := by simp [fg_rdO, e1, e2]
  obtain ⟨x, hx, rfl⟩ := fg_isn_t e1 (by omega)
  obtain ⟨y, hy, rfl⟩ := fg_isn_t e2 (by omega)
  rw [fg_rdA, fg_rdR, if_pos e, if_pos e] at H
  have e8 : nI R.1 = 8 ↔ R.1 = 8 := nI_eq (b := 8) (by omega) (by decide)
  rw [h8.1.1, nI_clamp (by omega), nI_1, e8]
  refine ⟨fun q => ?_, fun q => ?_⟩
  · rw [if_pos (by omega), if_pos (by omega)] at H
    have n : fg_sn (fun k => k == 26) (fun g => g == 201 || g == 202) σ (fg_sF (fg_sR (fg_sR σ 201 R.1 (nI x)) 202 R.1 (nI y)) 187 26 (nI (R.1 + 1))) := ((fg_sn_R (by decide)).tr (fg_sn_R (by decide))).tr (fg_sn_F (by decide))
    obtain ⟨a1, a2, a3, a4, a5, a6, a7, a8, a9⟩ := h
    refine ⟨vp_in_nI (by omega) (by decide), vp_in_nI (by omega) (by decide), H _ (((fg_sm_R (by decide)).tr (fg_sm_R (by decide))).tr (fg_sm_F (by decide))) ⟨a1, ⟨a2.1.sn n rfl rfl rfl rfl rfl rfl rfl, a2.2⟩, a3.sn n rfl rfl, a4.sn n rfl rfl, a5.sn n rfl rfl, a6, a7, ⟨⟨rfl, by show R.1 + 1 ≤ 8; omega⟩, fun i hi => ?_⟩, a9.sn n rfl rfl rfl⟩⟩
    have hi : i < R.1 + 1 := hi
    show fg_R (fg_sR (fg_sR σ 201 R.1 (nI x)) 202 R.1 (nI y)) 201 i = nI (if i = R.1 then (nI x).toNatClampNeg else R.2.1 i) ∧ (if i = R.1 then (nI x).toNatClampNeg else R.2.1 i) < fg_zs z ∧ fg_R (fg_sR (fg_sR σ 201 R.1 (nI x)) 202 R.1 (nI y)) 202 i = nI (if i = R.1 then (nI y).toNatClampNeg else R.2.2 i) ∧ (if i = R.1 then (nI y).toNatClampNeg else R.2.2 i) < fg_zs z
    rw [fg_R_sR, fg_R_sR, if_neg (fun q => absurd q.1 (by decide)), fg_R_sR, nI_clamp (by omega), nI_clamp (by omega)]
    by_cases e1 : i = R.1
    · rw [if_pos ⟨rfl, e1⟩, if_pos e1, if_pos ⟨rfl, e1⟩, if_pos e1]
      exact ⟨rfl, hx, rfl, hy⟩
    · rw [if_neg (fun q => e1 q.2), if_neg e1, if_neg (fun q => e1 q.2), if_neg e1, fg_R_sR, if_neg (fun q => absurd q.1 (by decide))]
      exact h8.2 i (by omega)
  · rw [if_neg (by omega), if_neg (by omega)] at H
    exact H σ fg_sm.rfl' h
end
