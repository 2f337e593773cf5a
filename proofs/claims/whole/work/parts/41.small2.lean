/-! SMALL METHODS: write, judge, clear -/
section
variable {d : Nat} {σ : fg_St} {Q : Int32 → fg_St → Prop} {z : fg_Z} {w : Nat → Int32} {P : fg_GP} {I : fg_GI} {T : fg_GT} {v : Int32} {s : Nat} {R : fg_GR} {B : fg_GB}
def fg_wrO (z : fg_Z) (a b : Int32) : Bool := fg_isn a (fg_zH z) && (decide (b = -1) || fg_isn b (fg_zs z))
def fg_wrB (z : fg_Z) (B : fg_GB) (a b : Int32) : fg_GB := if fg_wrO z a b = true then (if B.1 < 15 then (B.1 + 1, (fun i => if i = B.1 then a.toNatClampNeg else B.2.1 i), fun i => if i = B.1 then b else B.2.2 i) else B) else B
def fg_wrA (z : fg_Z) (B : fg_GB) (a b : Int32) : Int32 := if fg_wrO z a b = true then (if B.1 < 15 then nI (B.1 + 1) else -1000000004) else -1000000001
theorem c_FS_write {a b : Int32} (h : fg_CI σ z w P I T v s R B) (H : ∀ u, fg_sm fg_pC σ u → fg_CI u z w P I T v s R (fg_wrB z B a b) → Q (fg_wrA z B a b) u) : fg_Run (d + 1) 81 0 [some (.ref 0), some (.int a), some (.int b)] [] σ Q := by
  have hX := h.2.1
  have h8 := h.2.2.2.2.2.2.2.1
  have h9 := h.2.2.2.2.2.2.2.2
  have hb := h9.1.1
  have hs := hX.2.1.1.1
  have out : fg_wrO z a b = false → Q (-1000000001) σ := by
    intro e
    rw [fg_wrA, fg_wrB, e] at H
    exact H σ fg_sm.rfl' h
  have go : fg_wrO z a b = true → fg_isn a (fg_zH z) = true → fg_Run d 18 0 [some (.ref 26), some (.int a), some (.int b)] [] σ (fun x3 u4 => ((x3 = 0 → Q (-1000000004) u4) ∧ (¬ (x3 = 0) → Q (fg_F u4 26 5) u4))) := by
    intro e e1
    obtain ⟨x, hx, rfl⟩ := fg_isn_t e1 (by omega)
    rw [fg_wrA, fg_wrB, if_pos e, if_pos e] at H
    refine b_LG_addEntry_0 ?_
    rw [h9.1.2, nI_clamp (by omega), nI_1]
    refine ⟨fun q => ?_, fun q => ?_⟩
    · have q : B.1 < 15 := (nI_ltI (b := 15) (by omega) (by decide)).mp q
      rw [if_pos q, if_pos q] at H
      have m : ∀ p : Nat → Bool, p 26 = true → p 29 = true → p 30 = true → fg_sm p σ (fg_sF (fg_sR (fg_sR σ 29 B.1 (nI x)) 30 B.1 b) 26 5 (nI (B.1 + 1))) := fun p p1 p2 p3 => ((fg_sm_R p2).tr (fg_sm_R p3)).tr (fg_sm_F p1)
      refine ⟨vp_in_nI q (by decide), vp_in_nI q (by decide), fun q => absurd q (by decide), fun _ => H _ (m _ (by decide) (by decide) (by decide)) (h.lg (p := fun g => 26 ≤ g && g ≤ 30) (m _ (by decide) (by decide) (by decide)) (fun g _ _ hg => by simp; omega) ⟨h8.1, h8.2⟩ ⟨⟨by show B.1 + 1 ≤ 15; omega, rfl⟩, fun i hi => ?_⟩)⟩
      have hi : i < B.1 + 1 := hi
      show fg_R (fg_sR (fg_sR σ 29 B.1 (nI x)) 30 B.1 b) 29 i = nI (if i = B.1 then (nI x).toNatClampNeg else B.2.1 i) ∧ (if i = B.1 then (nI x).toNatClampNeg else B.2.1 i) < fg_zH z ∧ fg_R (fg_sR (fg_sR σ 29 B.1 (nI x)) 30 B.1 b) 30 i = (if i = B.1 then b else B.2.2 i)
      rw [fg_R_sR, fg_R_sR, if_neg (fun q => absurd q.1 (by decide)), fg_R_sR, nI_clamp (by omega)]
      by_cases e1 : i = B.1
      · rw [if_pos ⟨rfl, e1⟩, if_pos e1, if_pos ⟨rfl, e1⟩, if_pos e1]
        exact ⟨rfl, hx, rfl⟩
      · rw [if_neg (fun q => e1 q.2), if_neg e1, if_neg (fun q => e1 q.2), if_neg e1, fg_R_sR, if_neg (fun q => absurd q.1 (by decide))]
        exact h9.2 i (by omega)
    · have q : ¬ B.1 < 15 := fun x => q ((nI_ltI (b := 15) (by omega) (by decide)).mpr x)
      rw [if_neg q, if_neg q] at H
      exact ⟨fun _ => H σ fg_sm.rfl' h, fun q => absurd rfl q⟩
  refine b_FS_write_0 ⟨fg_kd6 hX.1, fg_use (r_SH_hasLine hX.1 hX.2.1 hX.2.2.1 (fg_bt' (fun e1 => ⟨fun q => fg_use (go (by simp [fg_wrO, e1, q]) e1), fun q => ⟨fg_kd6 hX.1, fg_use (r_SH_hasSignal hX.1 hX.2.1 hX.2.2.1 (fg_bt (fun e2 => fg_use (go (by simp [fg_wrO, e1, e2]) e1)) (fun e2 => out (by simp [fg_wrO, q, e2]))))⟩⟩) (fun e1 => out (by simp [fg_wrO, e1]))))⟩
theorem c_MO_write {a b : Int32} (h : fg_RI σ z w P I T v s R B) (H : ∀ u, fg_sm fg_pN σ u → fg_RI u z w P I T v s R (fg_wrB z B a b) → Q (fg_wrA z B a b) u) : fg_Run (d + 2) 189 0 [some (.ref 187), some (.int a), some (.int b)] [] σ Q := by
  have hM := h.2.1.1
  have h9 := h.2.2.2.2.2.2.2.2
  have hb := h9.1.1
  have hs := hM.1.1.1
  have out : fg_wrO z a b = false → Q (-1000000001) σ := by
    intro e
    rw [fg_wrA, fg_wrB, e] at H
    exact H σ fg_sm.rfl' h
  have go : fg_wrO z a b = true → fg_isn a (fg_zH z) = true → ((¬ (fg_F σ 187 32) = 15 → (vp_in (fg_F σ 187 32) 15 ∧ (vp_in (fg_F σ 187 32) 15 ∧ Q ((fg_F σ 187 32) + 1) (fg_sF (fg_sR (fg_sR σ 205 ((fg_F σ 187 32).toNatClampNeg) a) 206 ((fg_F σ 187 32).toNatClampNeg) b) 187 32 ((fg_F σ 187 32) + 1))))) ∧ ((fg_F σ 187 32) = 15 → Q (-1000000004) σ)) := by
    intro e e1
    obtain ⟨x, hx, rfl⟩ := fg_isn_t e1 (by omega)
    rw [fg_wrA, fg_wrB, if_pos e, if_pos e] at H
    have e8 : nI B.1 = 15 ↔ B.1 = 15 := nI_eq (b := 15) (by omega) (by decide)
    rw [h9.1.2, nI_clamp (by omega), nI_1, e8]
    refine ⟨fun q => ?_, fun q => ?_⟩
    · rw [if_pos (by omega), if_pos (by omega)] at H
      have n : fg_sn (fun k => k == 32) (fun g => g == 205 || g == 206) σ (fg_sF (fg_sR (fg_sR σ 205 B.1 (nI x)) 206 B.1 b) 187 32 (nI (B.1 + 1))) := ((fg_sn_R (by decide)).tr (fg_sn_R (by decide))).tr (fg_sn_F (by decide))
      obtain ⟨a1, a2, a3, a4, a5, a6, a7, a8, a9⟩ := h
      refine ⟨vp_in_nI (by omega) (by decide), vp_in_nI (by omega) (by decide), H _ (((fg_sm_R (by decide)).tr (fg_sm_R (by decide))).tr (fg_sm_F (by decide))) ⟨a1, ⟨a2.1.sn n rfl rfl rfl rfl rfl rfl rfl, a2.2⟩, a3.sn n rfl rfl, a4.sn n rfl rfl, a5.sn n rfl rfl, a6, a7, a8.sn n rfl rfl rfl, ⟨⟨by show B.1 + 1 ≤ 15; omega, rfl⟩, fun i hi => ?_⟩⟩⟩
      have hi : i < B.1 + 1 := hi
      show fg_R (fg_sR (fg_sR σ 205 B.1 (nI x)) 206 B.1 b) 205 i = nI (if i = B.1 then (nI x).toNatClampNeg else B.2.1 i) ∧ (if i = B.1 then (nI x).toNatClampNeg else B.2.1 i) < fg_zH z ∧ fg_R (fg_sR (fg_sR σ 205 B.1 (nI x)) 206 B.1 b) 206 i = (if i = B.1 then b else B.2.2 i)
      rw [fg_R_sR, fg_R_sR, if_neg (fun q => absurd q.1 (by decide)), fg_R_sR, nI_clamp (by omega)]
      by_cases e1 : i = B.1
      · rw [if_pos ⟨rfl, e1⟩, if_pos e1, if_pos ⟨rfl, e1⟩, if_pos e1]
        exact ⟨rfl, hx, rfl⟩
      · rw [if_neg (fun q => e1 q.2), if_neg e1, if_neg (fun q => e1 q.2), if_neg e1, fg_R_sR, if_neg (fun q => absurd q.1 (by decide))]
        exact h9.2 i (by omega)
    · rw [if_neg (by omega), if_neg (by omega)] at H
      exact H σ fg_sm.rfl' h
  refine b_MO_write_0 (fg_use (r_MO_isLine hM.1 hM.2.1 (fg_bt' (fun e1 => ⟨fun q => go (by simp [fg_wrO, e1, q]) e1, fun q => fg_use (r_MO_isSig hM.1 hM.2.1 (fg_bt (fun e2 => go (by simp [fg_wrO, e1, e2]) e1) (fun e2 => out (by simp [fg_wrO, q, e2]))))⟩) (fun e1 => out (by simp [fg_wrO, e1])))))
/-- the first entry from i on that is otherwise, m to look at -/
def fg_jg (w : Nat → Int32) (B : fg_GB) : Nat → Nat → Int32
  | 0, _ => -1
  | m + 1, i => if w (43 + B.2.1 i) = B.2.2 i then fg_jg w B m (i + 1) else nI i
theorem l_FS_judge (h : fg_CI σ z w P I T v s R B) : ∀ m i, i + m = B.1 → (∀ u, fg_sm fg_pC σ u → fg_CI u z w P I T v s R B → Q (fg_jg w B m i) u) → fg_Run d 21 2 [some (.ref 26), some (.ref 15), some (.int (nI i)), none] [] σ Q := by
  have hX := h.2.1
  have h9 := h.2.2.2.2.2.2.2.2
  have hb := h9.1.1
  have hH := hX.2.1.1.1
  intro m
  induction m with
  | zero =>
    intro i hi H
    refine b_LG_firstFalse_2 ⟨fun _ => H σ fg_sm.rfl' h, fun q => absurd ?_ q⟩
    rw [h9.1.2]
    exact nI_le (by omega) (by omega)
  | succ m ih =>
    intro i hi H
    obtain ⟨g1, g2, g3⟩ := h9.2 i (by omega)
    refine b_LG_firstFalse_2 ⟨fun q => absurd q (by rw [h9.1.2]; exact nI_ge (by omega) (by omega)), fun _ => ⟨fun q => absurd q (nI_ge (b := 15) (by omega) (by decide)), fun _ => ⟨vp_in_nI (by omega) (by decide), ?_⟩⟩⟩
    rw [nI_clamp (by omega), g1, nI_clamp (by omega), g3]
    have e5 : fg_R σ 21 (B.2.1 i) = w (43 + B.2.1 i) := hX.2.2.2.1.2.2.2.2.2.1 (B.2.1 i) (by omega)
    rw [e5, nI_1]
    refine ⟨fun q => absurd q (nI_pos (by omega)), fun _ => ⟨fun q => absurd q (nI_ge (b := 3) (by omega) (by decide)), fun _ => ⟨vp_in_nI (by omega) (by decide), vp_in_nI (by omega) (by decide), fun q => ih (i + 1) (by omega) ?_, fun q => ?_⟩⟩⟩
    · rw [fg_jg, if_pos q] at H
      exact H
    · rw [fg_jg, if_neg q] at H
      exact H σ fg_sm.rfl' h
theorem c_FS_judge (h : fg_CI σ z w P I T v s R B) (H : ∀ u, fg_sm fg_pC σ u → fg_CI u z w P I T v s R B → Q (fg_jg w B B.1 0) u) : fg_Run (d + 1) 83 0 [some (.ref 0)] [] σ Q :=
  b_FS_judge_0 (fg_use (b_LG_firstFalse_0 (l_FS_judge h B.1 0 (by omega) H)))
theorem l_MO_judge (h : fg_RI σ z w P I T v s R B) : ∀ m i, i + m = B.1 → (∀ u, fg_sm fg_pN σ u → fg_RI u z w P I T v s R B → Q (fg_jg w B m i) u) → fg_Run d 191 2 [some (.ref 187), some (.int (nI i))] [] σ Q := by
  have h1 := h.1
  have hM := h.2.1.1
  have h9 := h.2.2.2.2.2.2.2.2
  have hb := h9.1.1
  have hH := hM.1.1.1
  intro m
  induction m with
  | zero =>
    intro i hi H
    refine b_MO_judge_2 ⟨fun _ => H σ fg_sm.rfl' h, fun q => absurd ?_ q⟩
    rw [h9.1.2]
    exact nI_le (by omega) (by omega)
  | succ m ih =>
    intro i hi H
    obtain ⟨g1, g2, g3⟩ := h9.2 i (by omega)
    refine b_MO_judge_2 ⟨fun q => absurd q (by rw [h9.1.2]; exact nI_ge (by omega) (by omega)), fun _ => ⟨vp_in_nI (by omega) (by decide), ?_⟩⟩
    have hx := fg_ix (c := 43) (i := B.2.1 i) (n := 61) (by omega) (by decide)
    rw [nI_clamp (by omega), g1, g3, show (43 : Int32) = nI 43 from rfl, hx.2, h1, nI_1]
    refine ⟨hx.1, vp_in_nI (by omega) (by decide), fun q => ih (i + 1) (by omega) ?_, fun q => ?_⟩
    · rw [fg_jg, if_pos q] at H
      exact H
    · rw [fg_jg, if_neg q] at H
      exact H σ fg_sm.rfl' h
theorem c_MO_judge (h : fg_RI σ z w P I T v s R B) (H : ∀ u, fg_sm fg_pN σ u → fg_RI u z w P I T v s R B → Q (fg_jg w B B.1 0) u) : fg_Run d 191 0 [some (.ref 187), none] [] σ Q :=
  b_MO_judge_0 (l_MO_judge h B.1 0 (by omega) H)
/-- odds -/
def fg_od (q : Int32) (y : Int64) : Nat → Int64
  | 0 => y
  | m + 1 => fg_od q ((y * q.toInt64) / 100) m
def fg_odA (a b : Int32) : Int32 := if fg_isr a 0 60 = true ∧ fg_isr b 0 100 = true then (fg_od b 1000000000 a.toNatClampNeg).toInt32 else -1000000002
theorem l_FS_clear {n : Nat} {b : Int32} (hn : n < 2 ^ 31) : ∀ m i (y : Int64), i + m = n → Q (fg_od b y m).toInt32 σ → fg_Run d 79 30 [none, some (.int (nI n)), some (.int b), some (.long y), none, some (.int (nI i))] [] σ Q := by
  intro m
  induction m with
  | zero =>
    intro i y hi H
    exact b_FS_clear_30 ⟨fun _ => H, fun q => absurd (nI_le (by omega) (by omega)) q⟩
  | succ m ih =>
    intro i y hi H
    refine b_FS_clear_30 ⟨fun q => absurd q (nI_ge (by omega) (by omega)), fun _ => ?_⟩
    rw [nI_1]
    exact ih (i + 1) _ (by omega) H
theorem l_MO_clear {n : Nat} {b : Int32} (hn : n < 2 ^ 31) : ∀ m i (y : Int64), i + m = n → Q (fg_od b y m).toInt32 σ → fg_Run (d + 1) 187 34 [none, some (.int (nI n)), some (.int b), some (.long y), none, some (.int (nI i))] [] σ Q := by
  intro m
  induction m with
  | zero =>
    intro i y hi H
    exact b_MO_clear_34 ⟨fun _ => H, fun q => absurd (nI_le (by omega) (by omega)) q⟩
  | succ m ih =>
    intro i y hi H
    refine b_MO_clear_34 ⟨fun q => absurd q (nI_ge (by omega) (by omega)), fun _ => ?_⟩
    rw [nI_1]
    exact ih (i + 1) _ (by omega) H
theorem c_FS_clear {a b : Int32} (h : fg_CI σ z w P I T v s R B) (H : ∀ u, fg_sm fg_pC σ u → fg_CI u z w P I T v s R B → Q (fg_odA a b) u) : fg_Run d 79 0 [some (.ref 0), some (.int a), some (.int b), none, none, none] [] σ Q := by
  have H := H σ fg_sm.rfl' h
  have o1 : fg_isr a 0 60 = false → Q (-1000000002) σ := fun e => by rw [fg_odA, e] at H; simpa using H
  have o2 : fg_isr b 0 100 = false → Q (-1000000002) σ := fun e => by rw [fg_odA, e] at H; simpa using H
  refine b_FS_clear_0 ⟨fun q => o1 (fg_isr_lo (lo := 0) (by decide) q), fun q => ⟨fun q2 => o1 (fg_isr_gt (hi := 60) (by decide) q2), fun q2 => ⟨fun q3 => o2 (fg_isr_lo (lo := 0) (by decide) q3), fun q3 => ⟨fun q4 => ?_, fun q4 => o2 (fg_isr_hi (hi := 100) (by decide) q4)⟩⟩⟩⟩
  have e1 := fg_isr_ok (lo := 0) (hi := 60) (by decide) (by decide) q (Int32.not_lt.mp q2)
  have e2 := fg_isr_ok (lo := 0) (hi := 100) (by decide) (by decide) q3 q4
  obtain ⟨n, _, hn, rfl⟩ := fg_isr_t e1 (by decide)
  rw [fg_odA, if_pos ⟨e1, e2⟩, nI_clamp (by omega)] at H
  exact l_FS_clear (by omega) n 0 _ (by omega) H
theorem c_MO_clear {a b : Int32} (h : fg_RI σ z w P I T v s R B) (H : ∀ u, fg_sm fg_pN σ u → fg_RI u z w P I T v s R B → Q (fg_odA a b) u) : fg_Run (d + 1) 187 0 [some (.ref 187), some (.int a), some (.int b), none, none, none] [] σ Q := by
  have H := H σ fg_sm.rfl' h
  have o1 : fg_isr a 0 60 = false → Q (-1000000002) σ := fun e => by rw [fg_odA, e] at H; simpa using H
  have o2 : fg_isr b 0 100 = false → Q (-1000000002) σ := fun e => by rw [fg_odA, e] at H; simpa using H
  refine b_MO_clear_0 (fg_use (r_MO_inr (lo := 0) (hi := 60) rfl rfl (fg_bt' (fun e1 => fg_use (r_MO_inr (lo := 0) (hi := 100) rfl rfl (fg_bt (fun e2 => ?_) o2))) o1)))
  obtain ⟨n, _, hn, rfl⟩ := fg_isr_t e1 (by decide)
  rw [fg_odA, if_pos ⟨e1, e2⟩, nI_clamp (by omega)] at H
  exact l_MO_clear (by omega) n 0 _ (by omega) H
end
