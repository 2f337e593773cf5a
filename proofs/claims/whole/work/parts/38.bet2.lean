/-! THE FLAG TO SEW ANEW: class and reference -/
theorem fg_pcx {p : Nat} (hp : p < 100) : nI p / 25 = nI (p / 25) ∧ nI p / 5 - nI p / 5 / 5 * 5 = nI (p / 5 % 5) ∧ nI p - nI p / 5 * 5 = nI (p % 5) := by
  have e5 : nI p / 5 = nI (p / 5) := by
    rw [show (5 : Int32) = nI 5 from rfl, pk_div (by omega) (by decide) (by decide)]
  refine ⟨?_, ?_, ?_⟩
  · rw [show (25 : Int32) = nI 25 from rfl, pk_div (by omega) (by decide) (by decide)]
  · rw [e5, show (5 : Int32) = nI 5 from rfl, pk_rem (by omega) (by decide) (by decide)]
  · rw [show (5 : Int32) = nI 5 from rfl, pk_rem (by omega) (by decide) (by decide)]
theorem fg_pcv {f p : Nat} : ((1000 * nI f + 100 * nI (p / 25)) + 10 * nI (p / 5 % 5)) + nI (p % 5) = nI (1000 * f + fg_pc p) := by
  rw [show (1000 : Int32) = nI 1000 from rfl, show (100 : Int32) = nI 100 from rfl, show (10 : Int32) = nI 10 from rfl, pk_mul, pk_mul, pk_mul, nI_add, nI_add, nI_add]
  congr 1
  unfold fg_pc
  omega
theorem fg_pcm {p : Nat} : (nI (p / 25) * 100 + nI (p / 5 % 5) * 10) + nI (p % 5) = nI (fg_pc p) := by
  rw [show (100 : Int32) = nI 100 from rfl, show (10 : Int32) = nI 10 from rfl, pk_mul, pk_mul, nI_add, nI_add]
  congr 1
  unfold fg_pc
  omega
theorem fg_p35 : ∀ g, fg_pX g = false → (fun g => g == 35) g = false := by
  intro g h
  unfold fg_pX at h
  simp only [Bool.or_eq_false_iff] at h
  exact h.1.1.1.1.2
theorem fg_p36 : ∀ g, fg_pX g = false → (fun g => g == 36) g = false := by
  intro g h
  unfold fg_pX at h
  simp only [Bool.or_eq_false_iff] at h
  exact h.1.1.1.2
section
variable {d : Nat} {Q : Int32 → fg_St → Prop} {z : fg_Z} {w : Nat → Int32} {s : Nat × Nat}
/-- countClearWith -/
theorem r_FS_countClearWith {σ : fg_St} {f p hz wd : Nat} {lf : Nat → Nat} (hX : fg_XI σ z w) (hf : f < fg_zf z) (hp : p < 100) (hh : hz ≤ 2) (hw : wd ≤ 1) (e1 : w 58 = nI hz) (e2 : w 59 = nI wd) (hlf : ∀ g, g < fg_zf z → lf g < 200) (hoff : ∀ g, g < fg_zf z → g ≠ f → lf g = fg_lw w hz wd g) (hW : fg_Wt3 z s lf σ) (H : ∀ u, fg_sm fg_pX σ u → fg_Wt3 z s (fg_lw (fg_wf w f (nI (fg_pc p))) hz wd) u → Q (nI (fg_num (fg_clr z s (fg_lw (fg_wf w f (nI (fg_pc p))) hz wd)) (fg_zs z))) u) : fg_Run (d + 3) 103 0 [some (.ref 0), some (.int (nI f)), some (.int (nI p)), some (.int (nI (fg_set (fun e => fg_t4 z e f 4) (fg_zs z))))] [] σ Q := by
  obtain ⟨h1, h2, h3, h4, h5⟩ := id hX
  have hs := h2.1.2.2.2
  have h10 := h2.1.2.2.1
  have d5 := h4.2.2.2.2.1
  have f10 : fg_F σ 15 10 = nI hz := d5.2.1.trans e1
  have f11 : fg_F σ 15 11 = nI wd := d5.2.2.trans e2
  have hx := fg_pcx hp
  have hlw := fun g hg => fg_wf_lw (w := w) (hz' := hz) (wd := wd) h2 hf hp (g := g) hg
  have hl2 : ∀ g, g < fg_zf z → fg_lw (fg_wf w f (nI (fg_pc p))) hz wd g < 200 := by
    intro g hg
    rw [hlw g hg]
    split
    · exact fg_lk_lt (by omega) (by omega) (by omega)
    · exact fg_lw_lt h4 g hg
  refine b_FS_countClearWith_0 ?_
  rw [hx.1, hx.2.1, hx.2.2, f10, f11]
  refine fg_use (r_FS_seenPattern (by omega) (by omega) (by omega) hh hw ⟨vp_in_nI (by omega) (by decide), ?_⟩)
  rw [nI_clamp (by omega)]
  have s1 : fg_sm fg_pX σ (fg_sR σ 35 f (nI (fg_lk (p / 25) (p / 5 % 5) (p % 5) hz wd))) := (fg_sm_R (P := fun g => g == 35) (by decide)).wk fg_p35
  have hX1 := hX.sm s1
  have hb : fg_set (fun e => fg_t4 z e f 4) (fg_zs z) < 1024 := Nat.lt_of_lt_of_le (fg_set_lt _ _) (fg_p10 hs)
  refine fg_use (r_WA_sign (s := s) (lf := fg_lw (fg_wf w f (nI (fg_pc p))) hz wd) h1 h2 hX1.2.2.1 hb hl2 (fun e j he hj => hW.2.1 e j he hj) (fun g hg => ?_) (fun u hsu hsg => ?_))
  · rw [hlw g hg, fg_R_sR]
    by_cases e : g = f
    · rw [if_pos ⟨rfl, e⟩, if_pos e]
    · rw [if_neg (fun q => e q.2), if_neg e, hW.2.2 g hg, hoff g hg e]
  · have su := s1.tr (hsu.wk fg_p36)
    have hXu := hX.sm su
    have hW3 : fg_Wt3 z s (fg_lw (fg_wf w f (nI (fg_pc p))) hz wd) u := by
      refine ⟨⟨((hsu.2 33 (by decide)).1 3).trans hW.1.1, fun e he hup => ?_⟩, fun e j he hj => ((hsu.2 34 (by decide)).2 _).trans (hW.2.1 e j he hj), fun g hg => ?_⟩
      · rw [hsg e he, fg_set_bit, decide_eq_true he, Bool.true_and]
        cases ht : fg_t4 z e f 4
        · rw [if_neg (by decide)]
          show fg_R σ 36 e = _
          rw [hW.1.2 e he hup, fg_sg_ext h2 he (lf' := fg_lw (fg_wf w f (nI (fg_pc p))) hz wd) (fun j hj => ?_)]
          have hne : fg_zr z e j ≠ f := by
            intro q
            rw [(fg_t4_iff 4).mpr ⟨j, by have := h2.2.1 e he; omega, hj, q⟩] at ht
            cases ht
          have hzr := h2.2.2.1 e he j hj
          rw [hlw _ hzr, if_neg hne, hoff _ hzr hne]
        · rw [if_pos rfl]
      · rw [(hsu.2 35 (by decide)).2, hlw g hg, fg_R_sR]
        by_cases e : g = f
        · rw [if_pos ⟨rfl, e⟩, if_pos e]
        · rw [if_neg (fun q => e q.2), if_neg e, hW.2.2 g hg, hoff g hg e]
    refine fg_use (r_WA_clearOnes hXu.1 h2 hXu.2.2.1 hl2 hW3.1 ?_)
    have hb2 : fg_set (fg_clr z s (fg_lw (fg_wf w f (nI (fg_pc p))) hz wd)) (fg_zs z) < 1024 := Nat.lt_of_lt_of_le (fg_set_lt _ _) (fg_p10 hs)
    refine fg_use (r_JI_bitCount hb2 ?_)
    rw [fg_cnt10 hs]
    exact H u su hW3
/-- the patterns of one flag -/
theorem l_FS_betterFlag2 {σ : fg_St} {f hz wd : Nat} (hX : fg_XI σ z w) (hf : f < fg_zf z) (hh : hz ≤ 2) (hw : wd ≤ 1) (e1 : w 58 = nI hz) (e2 : w 59 = nI wd) (hs' : s = fg_s0 z (fg_wo (fg_tn z w) (2 ^ f))) (H : ∀ u, fg_sm fg_pX σ u → fg_Run (d + 5) 102 30 [some (.ref 0), some (.int (nI (fg_bo z w hz wd (f + 1)).2)), some (.int (fg_bo z w hz wd (f + 1)).1), some (.int (nI (f + 1))), none, none, none] [] u Q) : ∀ m i (τ : fg_St) (lf : Nat → Nat), i + m = 100 → fg_sm fg_pX σ τ → (∀ g, g < fg_zf z → lf g < 200) → (∀ g, g < fg_zf z → g ≠ f → lf g = fg_lw w hz wd g) → fg_Wt3 z s lf τ → fg_Run (d + 5) 102 110 [some (.ref 0), some (.int (nI (fg_bp (fun p => fg_cn z (fg_wf w f (nI (fg_pc p))) hz wd) (fun p => nI (1000 * f + fg_pc p)) (fg_bo z w hz wd f) i).2)), some (.int (fg_bp (fun p => fg_cn z (fg_wf w f (nI (fg_pc p))) hz wd) (fun p => nI (1000 * f + fg_pc p)) (fg_bo z w hz wd f) i).1), some (.int (nI f)), some (.int (nI (fg_set (fun e => fg_t4 z e f 4) (fg_zs z)))), some (.int (nI i)), none] [] τ Q := by
  have h2 := hX.2.1
  have hs := h2.1.2.2.2
  have hb : fg_set (fun e => fg_t4 z e f 4) (fg_zs z) < 1024 := Nat.lt_of_lt_of_le (fg_set_lt _ _) (fg_p10 hs)
  have hle := fun i => fg_bp_le (val := fun p => nI (1000 * f + fg_pc p)) (c := fun p => fg_cn z (fg_wf w f (nI (fg_pc p))) hz wd) (s := fg_bo z w hz wd f) (k := fg_zs z) (fun _ => fg_cn_le) (fg_bo_ge f).2 i
  have hge := fun i => fg_bp_ge (val := fun p => nI (1000 * f + fg_pc p)) (c := fun p => fg_cn z (fg_wf w f (nI (fg_pc p))) hz wd) (s := fg_bo z w hz wd f) i
  -- nothing better is to come
  have stop : ∀ i τ, i ≤ 100 → fg_sm fg_pX σ τ → (∀ k, i ≤ k → k < 100 → fg_cn z (fg_wf w f (nI (fg_pc k))) hz wd ≤ (fg_bp (fun p => fg_cn z (fg_wf w f (nI (fg_pc p))) hz wd) (fun p => nI (1000 * f + fg_pc p)) (fg_bo z w hz wd f) i).2) → fg_Run (d + 5) 102 30 [some (.ref 0), some (.int (nI (fg_bp (fun p => fg_cn z (fg_wf w f (nI (fg_pc p))) hz wd) (fun p => nI (1000 * f + fg_pc p)) (fg_bo z w hz wd f) i).2)), some (.int (fg_bp (fun p => fg_cn z (fg_wf w f (nI (fg_pc p))) hz wd) (fun p => nI (1000 * f + fg_pc p)) (fg_bo z w hz wd f) i).1), some (.int (nI f + 1)), none, none, none] [] τ Q := by
    intro i τ hi hsm hc
    have := H τ hsm
    rw [fg_bo_s, fg_bp_off (p := i) (100 - i) (by omega) hc] at this
    rw [nI_1]
    exact this
  intro m
  induction m with
  | zero =>
    intro i τ lf hi hsm _ _ _
    have hi : i = 100 := by omega
    subst hi
    have hX' := hX.sm hsm
    have st := stop 100 τ (Nat.le_refl _) hsm (fun k a b => by omega)
    exact b_FS_betterFlag_110 ⟨fun _ => st, fun _ => ⟨fg_kd6 hX'.1, fun _ => st, fun _ => ⟨fun _ => st, fun q => absurd (nI_le (a := 100) (b := 100) (by decide) (by decide)) q⟩⟩⟩
  | succ m ih =>
    intro i τ lf hi hsm hlf hoff hW
    have hX' := hX.sm hsm
    have hlei := hle i
    refine b_FS_betterFlag_110 ⟨fun q => stop i τ (by omega) hsm (fun k a b => ?_), fun q => ⟨fg_kd6 hX'.1, fun q2 => stop i τ (by omega) hsm (fun k a b => ?_), fun q2 => ⟨fun q3 => absurd q3 (nI_ge (b := 100) (by omega) (by decide)), fun _ => ?_⟩⟩⟩
    · rw [fg_nI0 (by omega)] at q
      rw [fg_cn_no h2 hf b]
      · exact Nat.le_trans (fg_bo_ge f).1 (hge i)
      · intro e he
        have := fg_set_bit (fun e => fg_t4 z e f 4) (fg_zs z) e
        rw [q, Nat.zero_testBit, decide_eq_true he, Bool.true_and] at this
        exact this.symm
    · rw [hX'.2.2.1.1.2.2.2, nI_leI (by omega) (by omega)] at q2
      exact Nat.le_trans fg_cn_le q2
    · refine fg_use (r_FS_countClearWith hX' hf (show i < 100 by omega) hh hw e1 e2 hlf hoff hW (fun u hsu hW3 => ?_))
      have hcn : fg_num (fg_clr z s (fg_lw (fg_wf w f (nI (fg_pc i))) hz wd)) (fg_zs z) = fg_cn z (fg_wf w f (nI (fg_pc i))) hz wd := by
        unfold fg_cn
        rw [fg_wf_tn h2 hf, hs']
      have hcl := fg_cn_le (z := z) (w := fg_wf w f (nI (fg_pc i))) (hz := hz) (wd := wd)
      have hx := fg_pcx (p := i) (by omega)
      rw [hcn, nI_leI (by omega) (by omega), hx.1, hx.2.1, hx.2.2, fg_pcv, nI_1]
      have hl2 : ∀ g, g < fg_zf z → fg_lw (fg_wf w f (nI (fg_pc i))) hz wd g < 200 := by
        intro g hg
        rw [fg_wf_lw h2 hf (by omega) hg]
        split
        · exact fg_lk_lt (by omega) (by omega) (by omega)
        · exact fg_lw_lt hX'.2.2.2.1 g hg
      have ih := ih (i + 1) u _ (by omega) (hsm.tr hsu) hl2 (fun g hg hne => by rw [fg_wf_lw h2 hf (by omega) hg, if_neg hne]) hW3
      rw [fg_bp_s] at ih
      refine ⟨fun q => ?_, fun q => ?_⟩
      · rw [if_pos q] at ih
        exact ih
      · rw [if_neg q] at ih
        exact ih
theorem l_FS_betterFlag {σ : fg_St} {hz wd : Nat} (hX : fg_XI σ z w) (hh : hz ≤ 2) (hw : wd ≤ 1) (e1 : w 58 = nI hz) (e2 : w 59 = nI wd) (H : ∀ u, fg_sm fg_pX σ u → Q (fg_bo z w hz wd (fg_zf z)).1 u) : ∀ m i (τ : fg_St), i + m = fg_zf z → fg_sm fg_pX σ τ → fg_Run (d + 5) 102 30 [some (.ref 0), some (.int (nI (fg_bo z w hz wd i).2)), some (.int (fg_bo z w hz wd i).1), some (.int (nI i)), none, none, none] [] τ Q := by
  have h10 := hX.2.1.1.2.2.1
  intro m
  induction m with
  | zero =>
    intro i τ hi hsm
    have hi : i = fg_zf z := by omega
    subst hi
    have hX' := hX.sm hsm
    refine b_FS_betterFlag_30 ⟨fg_kd6 hX'.1, fun _ => H τ hsm, fun q => absurd ?_ q⟩
    rw [hX'.2.2.1.1.2.2.1]
    exact nI_le (Nat.le_refl _) (by omega)
  | succ m ih =>
    intro i τ hi hsm
    have hX' := hX.sm hsm
    obtain ⟨h1, h2, h3, h4, h5⟩ := id hX'
    have ht := fg_tn_lt (w := w) h2
    have hwl := fg_wo_le (fg_tn z w) (2 ^ i)
    refine b_FS_betterFlag_30 ⟨fg_kd6 h1, fun q => absurd q (by rw [h3.1.2.2.1]; exact nI_ge (by omega) (by omega)), fun _ => ⟨fun q => absurd q (nI_ge (b := 10) (by omega) (by decide)), fun _ => ⟨fg_kd6 h1, fg_use (r_SH_signalsWith h1 h2 h3 (by omega) ?_)⟩⟩⟩
    have h7 : fg_F τ 15 7 = nI (fg_tn z w) := h4.2.2.1
    rw [h7, fg_shl1 (by omega), fg_andn]
    refine fg_use (r_WA_raiseAll h1 h2 h3 (by omega) (fun u hsu huf hrow => fg_use (b_DK_weatherNumber_0 ?_)))
    have hXu := hX'.sm (hsu.wk fg_pWX)
    obtain ⟨g1, g2, g3, g4, g5⟩ := id hXu
    have f10 : fg_F u 15 10 = nI hz := g4.2.2.2.2.1.2.1.trans e1
    have f11 : fg_F u 15 11 = nI wd := g4.2.2.2.2.1.2.2.trans e2
    rw [f10, f11, show (2 : Int32) * nI hz + nI wd = nI (2 * hz + wd) by rw [show (2 : Int32) = nI 2 from rfl, pk_mul, nI_add]]
    refine fg_use (r_WA_see g1 g2 g3 g4 hh hw huf hrow (fun v hsv hlk hsg => ?_))
    have hsv2 := (hsu.wk fg_pWX).tr (hsv.wk fg_pSX)
    have hXv := hX'.sm hsv2
    exact l_FS_betterFlag2 hXv (show i < fg_zf z by omega) hh hw e1 e2 rfl (fun y hy => ih (i + 1) y (by omega) ((hsm.tr hsv2).tr hy)) 100 0 v (fg_lw w hz wd) rfl fg_sm.rfl' (fg_lw_lt g4) (fun _ _ _ => rfl) ⟨⟨((hsv.2 33 (by decide)).1 3).trans huf, hsg⟩, fun e j he hj => ((hsv.2 34 (by decide)).2 _).trans (hrow e j he hj), hlk⟩
theorem r_FS_betterFlag {σ : fg_St} {hz wd : Nat} (hX : fg_XI σ z w) (hh : hz ≤ 2) (hw : wd ≤ 1) (e1 : w 58 = nI hz) (e2 : w 59 = nI wd) (H : ∀ u, fg_sm fg_pX σ u → Q (fg_bo z w hz wd (fg_zf z)).1 u) : fg_Run (d + 5) 102 0 [some (.ref 0), none, none, none, none, none, none] [] σ Q := by
  have h5 := hX.2.2.2.1.2.2.2.2.1
  have hs := hX.2.1.1.2.2.2
  have f10 : fg_F σ 15 10 = nI hz := h5.2.1.trans e1
  have f11 : fg_F σ 15 11 = nI wd := h5.2.2.trans e2
  refine b_FS_betterFlag_0 (fg_use (b_DK_weatherNumber_0 ?_))
  rw [f10, f11, show (2 : Int32) * nI hz + nI wd = nI (2 * hz + wd) by rw [show (2 : Int32) = nI 2 from rfl, pk_mul, nI_add]]
  refine fg_use (r_FS_watchIn hX hh hw (fun u hsu hw3 => ?_))
  obtain ⟨g1, g2, g3, g4, g5⟩ := hX.sm hsu
  have hb2 : fg_set (fg_clr z (fg_s0 z (fg_tn z w)) (fg_lw w hz wd)) (fg_zs z) < 1024 := Nat.lt_of_lt_of_le (fg_set_lt _ _) (fg_p10 hs)
  refine fg_use (r_WA_clearOnes g1 g2 g3 (fg_lw_lt g4) hw3.1 (fg_use (r_JI_bitCount hb2 ?_)))
  rw [fg_cnt10 hs]
  exact l_FS_betterFlag hX hh hw e1 e2 H (fg_zf z) 0 u (by omega) hsu
end
/-! THE FLAG TO SEW ANEW: the reference -/
def fg_pM2 (g : Nat) : Bool := fg_pM g || g == 191
theorem fg_pMM2 : ∀ g, fg_pM2 g = false → fg_pM g = false := by
  intro g h
  unfold fg_pM2 at h
  simp only [Bool.or_eq_false_iff] at h
  exact h.1
theorem fg_pKM2 : ∀ g, fg_pM2 g = false → fg_pK g = false := fun g h => fg_pKM g (fg_pMM2 g h)
section
variable {d : Nat} {Q : Int32 → fg_St → Prop} {z : fg_Z}
theorem fg_MI_wf {σ τ : fg_St} {f p : Nat} (hM : fg_MI σ z) (hf : f < fg_zf z) (hp : p < 100) (hsm : fg_sm fg_pM2 σ τ) (hr : ∀ k, fg_R τ 191 k = fg_wf (fg_R σ 191) f (nI (fg_pc p)) k) : fg_MI τ z := by
  obtain ⟨h1, h2, h3, h4⟩ := hM
  have h10 := h1.1.2.2.1
  refine ⟨h1, h2.sm hsm (by decide) (by decide) (by decide), fun g hg => ?_, fun g hg => ?_⟩
  · rw [hr]
    unfold fg_wf
    rw [if_neg (by omega)]
    split
    · exact Or.inl rfl
    · exact h3 g hg
  · rw [hr]
    unfold fg_wf
    split
    · exact ⟨p / 25, p / 5 % 5, p % 5, ⟨by omega, by omega, by omega⟩, rfl⟩
    · rw [if_neg (by omega)]
      exact h4 g hg
theorem l_MO_better2 {σ : fg_St} {f hz wd : Nat} (hM : fg_MI σ z) (hf : f < fg_zf z) (hh : hz ≤ 2) (hw : wd ≤ 1) (e1 : fg_R σ 191 58 = nI hz) (e2 : fg_R σ 191 59 = nI wd) (H : ∀ u, fg_sm fg_pM σ u → fg_Run (d + 6) 146 12 [some (.ref 187), some (.int (fg_bo z (fg_R σ 191) hz wd (f + 1)).1), some (.int (nI (fg_bo z (fg_R σ 191) hz wd (f + 1)).2)), some (.int (nI (f + 1))), none, none, none, none] [] u Q) : ∀ m i (τ : fg_St) (x : Int32), i + m = 100 → fg_sm fg_pM2 σ τ → (∀ k, fg_F τ 191 k = fg_F σ 191 k) → (∀ k, fg_R τ 191 k = fg_wf (fg_R σ 191) f x k) → fg_Run (d + 6) 146 52 [some (.ref 187), some (.int (fg_bp (fun p => fg_cn z (fg_wf (fg_R σ 191) f (nI (fg_pc p))) hz wd) (fun p => nI (1000 * f + fg_pc p)) (fg_bo z (fg_R σ 191) hz wd f) i).1), some (.int (nI (fg_bp (fun p => fg_cn z (fg_wf (fg_R σ 191) f (nI (fg_pc p))) hz wd) (fun p => nI (1000 * f + fg_pc p)) (fg_bo z (fg_R σ 191) hz wd f) i).2)), some (.int (nI f)), some (.int (fg_R σ 191 f)), some (.int (fg_R σ 191 (30 + f))), some (.int (nI i)), none] [] τ Q := by
  have h10 := hM.1.1.2.2.1
  have hs := hM.1.1.2.2.2
  have hx30 := fg_ix (c := 30) (i := f) (n := 61) (by omega) (by decide)
  have hle := fun i => fg_bp_le (val := fun p => nI (1000 * f + fg_pc p)) (c := fun p => fg_cn z (fg_wf (fg_R σ 191) f (nI (fg_pc p))) hz wd) (s := fg_bo z (fg_R σ 191) hz wd f) (k := fg_zs z) (fun _ => fg_cn_le) (fg_bo_ge f).2 i
  intro m
  induction m with
  | zero =>
    intro i τ x hi hsm hF hr
    have hi : i = 100 := by omega
    subst hi
    refine b_MO_better_52 ⟨fun _ => ⟨vp_in_nI (by omega) (by decide), hx30.1, ?_⟩, fun q => absurd (nI_le (a := 100) (b := 100) (by decide) (by decide)) q⟩
    rw [show (30 : Int32) = nI 30 from rfl, hx30.2, nI_clamp (by omega), nI_1]
    refine H _ ⟨hsm.1, fun g hg => ⟨fun k => ?_, fun k => ?_⟩⟩
    · by_cases e : g = 191
      · subst e
        exact hF k
      · exact (hsm.2 g (by unfold fg_pM2; rw [hg]; simpa using e)).1 k
    · by_cases e : g = 191
      · subst e
        rw [fg_R_sR, fg_R_sR, hr]
        unfold fg_wf
        by_cases k1 : k = 30 + f
        · rw [if_pos ⟨rfl, k1⟩, k1]
        · rw [if_neg (fun q => k1 q.2)]
          by_cases k2 : k = f
          · rw [if_pos ⟨rfl, k2⟩, k2]
          · rw [if_neg (fun q => k2 q.2), if_neg k2, if_neg k1]
      · rw [fg_R_sR, if_neg (fun q => e q.1), fg_R_sR, if_neg (fun q => e q.1)]
        exact (hsm.2 g (by unfold fg_pM2; rw [hg]; simpa using e)).2 k
  | succ m ih =>
    intro i τ x hi hsm hF hr
    have hlei := hle i
    refine b_MO_better_52 ⟨fun q => absurd q (nI_ge (b := 100) (by omega) (by decide)), fun _ => ⟨vp_in_nI (by omega) (by decide), ?_⟩⟩
    have hx := fg_pcx (p := i) (by omega)
    rw [hx.1, hx.2.1, hx.2.2, fg_pcm, nI_clamp (by omega), nI_1]
    have s1 : fg_sm fg_pM2 σ (fg_sR τ 191 f (nI (fg_pc i))) := hsm.tr (fg_sm_R (by decide))
    have hr1 : ∀ k, fg_R (fg_sR τ 191 f (nI (fg_pc i))) 191 k = fg_wf (fg_R σ 191) f (nI (fg_pc i)) k := by
      intro k
      rw [fg_R_sR, hr]
      unfold fg_wf
      by_cases k2 : k = f
      · rw [if_pos ⟨rfl, k2⟩, if_pos k2]
      · rw [if_neg (fun q => k2 q.2), if_neg k2, if_neg k2]
    have hM1 := fg_MI_wf hM hf (show i < 100 by omega) s1 hr1
    have hfun : fg_R (fg_sR τ 191 f (nI (fg_pc i))) 191 = fg_wf (fg_R σ 191) f (nI (fg_pc i)) := funext hr1
    refine fg_use (r_MO_clearNow hh hw hM1 ?_ ?_ (fun u hsu => ?_))
    · rw [hr1]
      unfold fg_wf
      rw [if_neg (by omega), if_neg (by omega)]
      exact e1
    · rw [hr1]
      unfold fg_wf
      rw [if_neg (by omega), if_neg (by omega)]
      exact e2
    · rw [hfun]
      have hb2 : fg_set (fg_clr z (fg_s0 z (fg_tn z (fg_wf (fg_R σ 191) f (nI (fg_pc i))))) (fg_lw (fg_wf (fg_R σ 191) f (nI (fg_pc i))) hz wd)) (fg_zs z) < 1024 := Nat.lt_of_lt_of_le (fg_set_lt _ _) (fg_p10 hs)
      refine fg_use (r_MO_bits (by omega) ?_)
      rw [fg_cnt10 hs]
      have hcl := fg_cn_le (z := z) (w := fg_wf (fg_R σ 191) f (nI (fg_pc i))) (hz := hz) (wd := wd)
      have hu191 : fg_R u 191 f = nI (fg_pc i) := by
        rw [(hsu.2 191 (by decide)).2, hr1]
        unfold fg_wf
        rw [if_pos rfl]
      have ih := ih (i + 1) u (nI (fg_pc i)) (by omega) (s1.tr (hsu.wk fg_pKM2)) (fun k => ((hsu.2 191 (by decide)).1 k).trans (hF k)) (fun k => ((hsu.2 191 (by decide)).2 k).trans (hr1 k))
      rw [fg_bp_s] at ih
      have hval : 1000 * nI f + fg_R u 191 f = nI (1000 * f + fg_pc i) := by
        rw [hu191, show (1000 : Int32) = nI 1000 from rfl, pk_mul, nI_add]
      rw [show fg_num (fg_clr z (fg_s0 z (fg_tn z (fg_wf (fg_R σ 191) f (nI (fg_pc i))))) (fg_lw (fg_wf (fg_R σ 191) f (nI (fg_pc i))) hz wd)) (fg_zs z) = fg_cn z (fg_wf (fg_R σ 191) f (nI (fg_pc i))) hz wd from rfl, nI_leI (by omega) (by omega), hval]
      refine ⟨fun q => ⟨fun _ => ?_, fun q2 => absurd q q2⟩, fun q => ⟨vp_in_nI (by omega) (by decide), fun q2 => absurd q2 q, fun _ => ?_⟩⟩
      · rw [if_pos q] at ih
        exact ih
      · rw [if_neg q] at ih
        exact ih
theorem l_MO_better {σ : fg_St} {hz wd : Nat} (hM : fg_MI σ z) (hh : hz ≤ 2) (hw : wd ≤ 1) (e1 : fg_R σ 191 58 = nI hz) (e2 : fg_R σ 191 59 = nI wd) (H : ∀ u, fg_sm fg_pM σ u → Q (fg_bo z (fg_R σ 191) hz wd (fg_zf z)).1 u) : ∀ m i (τ : fg_St), i + m = fg_zf z → fg_sm fg_pM σ τ → fg_Run (d + 6) 146 12 [some (.ref 187), some (.int (fg_bo z (fg_R σ 191) hz wd i).1), some (.int (nI (fg_bo z (fg_R σ 191) hz wd i).2)), some (.int (nI i)), none, none, none, none] [] τ Q := by
  have h10 := hM.1.1.2.2.1
  intro m
  induction m with
  | zero =>
    intro i τ hi hsm
    have hi : i = fg_zf z := by omega
    subst hi
    have hM' := hM.sm hsm
    refine b_MO_better_12 ⟨fun _ => H τ hsm, fun q => absurd ?_ q⟩
    rw [hM'.2.1.1.2.2.1]
    exact nI_le (Nat.le_refl _) (by omega)
  | succ m ih =>
    intro i τ hi hsm
    have hM' := hM.sm hsm
    have e191 : fg_R τ 191 = fg_R σ 191 := funext (hsm.2 191 (by decide)).2
    have hx30 := fg_ix (c := 30) (i := i) (n := 61) (by omega) (by decide)
    refine b_MO_better_12 ⟨fun q => absurd q (by rw [hM'.2.1.1.2.2.1]; exact nI_ge (by omega) (by omega)), fun _ => ⟨vp_in_nI (by omega) (by decide), hx30.1, hx30.1, ?_⟩⟩
    rw [show (30 : Int32) = nI 30 from rfl, hx30.2, nI_clamp (by omega)]
    have go := l_MO_better2 (d := d) (Q := Q) (σ := τ) (f := i) hM' (by omega) hh hw (by rw [e191]; exact e1) (by rw [e191]; exact e2) (fun u hu => by rw [e191]; exact ih (i + 1) u (by omega) (hsm.tr hu)) 100 0 (fg_sR τ 191 (30 + i) 0) (fg_R τ 191 i) rfl (fg_sm_R (by decide)) (fun _ => rfl) (fun k => by
      rw [fg_R_sR]
      unfold fg_wf
      by_cases k1 : k = i
      · rw [if_neg (by omega), if_pos k1, k1]
      · rw [if_neg k1]
        by_cases k2 : k = 30 + i
        · rw [if_pos ⟨rfl, k2⟩, if_pos k2]
        · rw [if_neg (fun q => k2 q.2), if_neg k2])
    have hfb : fg_bp (fun p => fg_cn z (fg_wf (fg_R τ 191) i (nI (fg_pc p))) hz wd) (fun p => nI (1000 * i + fg_pc p)) (fg_bo z (fg_R τ 191) hz wd i) 0 = fg_bo z (fg_R σ 191) hz wd i := by
      rw [e191]
      rfl
    rw [hfb] at go
    exact go
theorem r_MO_better {σ : fg_St} {hz wd : Nat} (hM : fg_MI σ z) (hh : hz ≤ 2) (hw : wd ≤ 1) (e1 : fg_R σ 191 58 = nI hz) (e2 : fg_R σ 191 59 = nI wd) (H : ∀ u, fg_sm fg_pM σ u → Q (fg_bo z (fg_R σ 191) hz wd (fg_zf z)).1 u) : fg_Run (d + 6) 146 0 [some (.ref 187), none, none, none, none, none, none, none] [] σ Q := by
  have hs := hM.1.1.2.2.2
  refine b_MO_better_0 (fg_use (r_MO_clearNow hh hw hM e1 e2 (fun u hsu => ?_)))
  have hb2 : fg_set (fg_clr z (fg_s0 z (fg_tn z (fg_R σ 191))) (fg_lw (fg_R σ 191) hz wd)) (fg_zs z) < 1024 := Nat.lt_of_lt_of_le (fg_set_lt _ _) (fg_p10 hs)
  refine fg_use (r_MO_bits (by omega) ?_)
  rw [fg_cnt10 hs]
  exact l_MO_better hM hh hw e1 e2 H (fg_zf z) 0 u (by omega) (hsu.wk fg_pKM)
end
