/-! WHAT CAN GO UP NOW, THE CLEAREST WEATHER -/
theorem fg_kd6 {h : Nat} (Sh : h = 3 ∨ h = 9) : fg_kd h = 6 := by rcases Sh with rfl | rfl <;> rfl
/-- what is free -/
def fg_sf (z : fg_Z) (w : Nat → Int32) : Nat × Nat := (fg_set (fg_fre w) (fg_zf z), fg_set (fg_frs w) (fg_zN z + 1))
theorem fg_sf_lt {z : fg_Z} {w : Nat → Int32} (hz : fg_Zok z) : (fg_sf z w).1 < 1024 ∧ (fg_sf z w).2 < 16 := by
  refine ⟨Nat.lt_of_lt_of_le (fg_set_lt _ _) (fg_p10 hz.1.2.2.1), Nat.lt_of_lt_of_le (fg_set_lt _ _) ?_⟩
  exact (Nat.pow_le_pow_right (by decide) (by have := hz.1.2.1; omega) : 2 ^ (fg_zN z + 1) ≤ 2 ^ 4)
theorem fg_pLX : ∀ g, fg_pX g = false → fg_pL g = false := fun g h => fg_pLW g (fg_pWX g h)
/-- best of a run of numbers, the first of the greatest -/
def fg_bf (s : Int32 × Int32) (c : Nat → Int32) : Nat → Int32 × Int32
  | 0 => s
  | i + 1 => if c i ≤ (fg_bf s c i).2 then fg_bf s c i else (nI i, c i)
theorem fg_bf_s {s : Int32 × Int32} {c : Nat → Int32} (i : Nat) : fg_bf s c (i + 1) = if c i ≤ (fg_bf s c i).2 then fg_bf s c i else (nI i, c i) := rfl
theorem fg_or0 (a : Int32) : a ||| 0 = a := Int32.or_zero
theorem fg_bf_ext {s : Int32 × Int32} {c c' : Nat → Int32} : ∀ n, (∀ i, i < n → c i = c' i) → fg_bf s c n = fg_bf s c' n := by
  intro n
  induction n with
  | zero => intro _; rfl
  | succ n ih => intro h; rw [fg_bf, fg_bf, ih (fun i hi => h i (by omega)), h n (by omega)]
theorem fg_bf_01 {c : Nat → Int32} (h : 0 ≤ c 0) (n : Nat) : fg_bf (0, 0) c (n + 1) = fg_bf (0, -1) c (n + 1) := by
  induction n with
  | zero =>
    rw [fg_bf, fg_bf, fg_bf, fg_bf]
    simp only
    have e1 : ¬ c 0 ≤ -1 := by
      rw [fg_le'] at h ⊢
      have : (-1 : Int32).toInt = -1 := rfl
      have : (0 : Int32).toInt = 0 := rfl
      omega
    rw [if_neg e1]
    split
    · rename_i e2
      have : c 0 = 0 := Int32.le_antisymm e2 h
      rw [this]
      rfl
    · rfl
  | succ n ih => rw [fg_bf_s (n + 1), fg_bf_s (n + 1), ih]
section
variable {d : Nat} {Q : Int32 → fg_St → Prop} {z : fg_Z} {w : Nat → Int32} {e : Nat}
/-- the class: what is free is opened, a signal taken -/
theorem r_FT {τ : fg_St} (hX : fg_XI τ z w) (he : e < fg_zs z) {K : Int32 → fg_St → Prop} (H : ∀ u, fg_sm fg_pX τ u → fg_tkp z e (fg_sf z w) u → K (fg_b (fg_upb z (fg_sf z w) e)) u) : (∃ P, fg_Run (d + 2) 3 0 [some (.ref 15), some (.ref τ.1), none, none] [] τ P ∧ ∀ x3 u4, P x3 u4 → (∃ P, fg_Run (d + 2) 4 0 [some (.ref 15), some (.ref u4.1)] [] u4 P ∧ ∀ x5 u6, P x5 u6 → (∃ P, fg_Run (d + 2) 13 0 [some (.ref 31), some (.int x3), some (.int x5)] [] u6 P ∧ ∀ x7 u8, P x7 u8 → (∃ P, fg_Run (d + 2) 14 0 [some (.ref 31), some (.ref u8.1), some (.int (nI e)), none, none, none, none] [] u8 P ∧ ∀ x9 u10, P x9 u10 → K x9 u10)))) := by
  obtain ⟨h1, h2, h3, h4, h5⟩ := id hX
  have hb := fg_sf_lt (w := w) h2
  refine fg_use (r_DK_freeFlags h1 h2 h3 h4 h5 (fg_use (r_DK_freeSubstitutes h1 h2 h3 h4 (fg_use (b_LK_open_0 ?_)))))
  have s1 : fg_sm fg_pX τ (fg_sF (fg_sF τ 31 0 (nI (fg_sf z w).1)) 31 1 (nI (fg_sf z w).2)) := (fg_sm_F (by decide)).tr (fg_sm_F (by decide))
  have hX1 := hX.sm s1
  refine fg_use (r_LK_take (FF := (fg_sf z w).1) (FS := (fg_sf z w).2) h1 h2 hX1.2.2.1 he rfl rfl hb.1 hb.2 (fun u hsu htk => ?_))
  exact H u (s1.tr (hsu.wk fg_pLX)) htk
theorem l_FS_readySignals {σ : fg_St} (hX : fg_XI σ z w) (H : ∀ u, fg_sm fg_pX σ u → Q (nI (fg_set (fg_upb z (fg_sf z w)) (fg_zs z))) u) : ∀ m i (τ : fg_St), i + m = fg_zs z → fg_sm fg_pX σ τ → fg_Run (d + 3) 94 4 [some (.ref 0), some (.int (nI (fg_set (fg_upb z (fg_sf z w)) i))), some (.int (nI i))] [] τ Q := by
  have hs := hX.2.1.1.2.2.2
  intro m
  induction m with
  | zero =>
    intro i τ hi hsm
    have hi : i = fg_zs z := by omega
    subst hi
    have hX' := hX.sm hsm
    refine b_FS_readySignals_4 ⟨fg_kd6 hX'.1, fun _ => H τ hsm, fun q => absurd ?_ q⟩
    rw [hX'.2.2.1.1.2.2.2]
    exact nI_le (Nat.le_refl _) (by omega)
  | succ m ih =>
    intro i τ hi hsm
    have hX' := hX.sm hsm
    refine b_FS_readySignals_4 ⟨fg_kd6 hX'.1, fun q => absurd q (by rw [hX'.2.2.1.1.2.2.2]; exact nI_ge (by omega) (by omega)), fun _ => ?_⟩
    refine r_FT hX' (show i < fg_zs z by omega) (fun u hsu _ => ?_)
    have hst := fg_set_step (p := fg_upb z (fg_sf z w)) (n := i) (by omega)
    have ih := ih (i + 1) u (by omega) (hsm.tr hsu)
    rw [← hst] at ih
    rw [nI_1]
    cases hq : fg_upb z (fg_sf z w) i
    · rw [hq, if_neg (by decide)] at ih
      refine ⟨fun _ => ?_, fun q => absurd rfl q⟩
      rw [fg_or0] at ih
      exact ih
    · rw [hq, if_pos rfl] at ih
      exact ⟨fun q => absurd q (by decide), fun _ => ih⟩
theorem r_FS_readySignals {σ : fg_St} (hX : fg_XI σ z w) (H : ∀ u, fg_sm fg_pX σ u → Q (nI (fg_set (fg_upb z (fg_sf z w)) (fg_zs z))) u) : fg_Run (d + 3) 94 0 [some (.ref 0), none, none] [] σ Q :=
  b_FS_readySignals_0 (l_FS_readySignals hX H (fg_zs z) 0 σ (by omega) fg_sm.rfl')
/-- the reference: what is free, goesUp -/
theorem r_MT {τ : fg_St} (hM : fg_MI τ z) (he : e < fg_zs z) {K : Int32 → fg_St → Prop} (H : ∀ u, fg_sm fg_pR τ u → (fg_upb z (fg_sf z (fg_R τ 191)) e = true → ∀ q, q < 4 → fg_R u 196 q = if q < fg_zl z e then nI (fg_rw z e (fg_sf z (fg_R τ 191)) q) else -1) → fg_rok z (fg_R u 196) → K (fg_b (fg_upb z (fg_sf z (fg_R τ 191)) e)) u) : (∃ P, fg_Run (d + 2) 128 0 [some (.ref 187), none, none] [] τ P ∧ ∀ x1 u2, P x1 u2 → (∃ P, fg_Run (d + 2) 130 0 [some (.ref 187), none, none] [] u2 P ∧ ∀ x3 u4, P x3 u4 → (∃ P, fg_Run (d + 2) 134 0 [some (.ref 187), some (.int (nI e)), some (.int x1), some (.int x3), none] [] u4 P ∧ ∀ x5 u6, P x5 u6 → K x5 u6))) := by
  obtain ⟨h1, h2, h3, h4⟩ := id hM
  have hb := fg_sf_lt (w := fg_R τ 191) h1
  exact fg_use (r_MO_freeFlags h1 h2 (fg_use (r_MO_freeSubs h1 h2 (fg_use (r_MO_goesUp h1 h2 he hb.1 hb.2 H)))))
theorem l_MO_canGoUp {σ : fg_St} (hM : fg_MI σ z) (H : ∀ u, fg_sm fg_pM σ u → Q (nI (fg_set (fg_upb z (fg_sf z (fg_R σ 191))) (fg_zs z))) u) : ∀ m i (τ : fg_St), i + m = fg_zs z → fg_sm fg_pM σ τ → fg_Run (d + 3) 135 4 [some (.ref 187), some (.int (nI (fg_set (fg_upb z (fg_sf z (fg_R σ 191))) i))), some (.int (nI i))] [] τ Q := by
  have hs := hM.1.1.2.2.2
  intro m
  induction m with
  | zero =>
    intro i τ hi hsm
    have hi : i = fg_zs z := by omega
    subst hi
    have hM' := hM.sm hsm
    refine b_MO_canGoUp_4 ⟨fun _ => H τ hsm, fun q => absurd ?_ q⟩
    rw [hM'.2.1.1.2.2.2]
    exact nI_le (Nat.le_refl _) (by omega)
  | succ m ih =>
    intro i τ hi hsm
    have hM' := hM.sm hsm
    have e191 : fg_R τ 191 = fg_R σ 191 := funext (hsm.2 191 (by decide)).2
    refine b_MO_canGoUp_4 ⟨fun q => absurd q (by rw [hM'.2.1.1.2.2.2]; exact nI_ge (by omega) (by omega)), fun _ => ?_⟩
    refine r_MT hM' (show i < fg_zs z by omega) (fun u hsu _ _ => ?_)
    rw [e191]
    have hst := fg_set_step (p := fg_upb z (fg_sf z (fg_R σ 191))) (n := i) (by omega)
    have ih := ih (i + 1) u (by omega) (hsm.tr (hsu.wk fg_pRM))
    rw [← hst] at ih
    rw [nI_1]
    cases hq : fg_upb z (fg_sf z (fg_R σ 191)) i
    · rw [hq, if_neg (by decide)] at ih
      exact ⟨fun _ => ih, fun q => absurd rfl q⟩
    · rw [hq, if_pos rfl] at ih
      exact ⟨fun q => absurd q (by decide), fun _ => ih⟩
theorem r_MO_canGoUp {σ : fg_St} (hM : fg_MI σ z) (H : ∀ u, fg_sm fg_pM σ u → Q (nI (fg_set (fg_upb z (fg_sf z (fg_R σ 191))) (fg_zs z))) u) : fg_Run (d + 3) 135 0 [some (.ref 187), none, none] [] σ Q :=
  b_MO_canGoUp_0 (l_MO_canGoUp hM H (fg_zs z) 0 σ (by omega) fg_sm.rfl')
/-- how many are clear in weather v -/
def fg_cc (z : fg_Z) (w : Nat → Int32) (v : Nat) : Int32 := nI (fg_cnt (fg_set (fg_clr z (fg_s0 z (fg_tn z w)) (fg_lw w (v / 2) (v % 2))) (fg_zs z)) 10)
theorem fg_wv (v : Nat) : 2 * (v / 2) + v % 2 = v := by omega
theorem l_FS_clearest {σ : fg_St} (hX : fg_XI σ z w) (H : ∀ u, fg_sm fg_pX σ u → Q (fg_bf (0, -1) (fg_cc z w) 6).1 u) : ∀ m i (τ : fg_St), i + m = 6 → fg_sm fg_pX σ τ → fg_F τ 33 3 = nI (fg_set (fg_upb z (fg_s0 z (fg_tn z w))) (fg_zs z)) → (∀ e j, e < fg_zs z → j < 4 → fg_R τ 34 (e * 4 + j) = fg_pi (fg_rx z (fg_s0 z (fg_tn z w)) e j)) → fg_Run (d + 4) 97 28 [some (.ref 0), some (.int (fg_bf (0, -1) (fg_cc z w) i).1), some (.int (fg_bf (0, -1) (fg_cc z w) i).2), some (.int (nI i)), none] [] τ Q := by
  have hs := hX.2.1.1.2.2.2
  intro m
  induction m with
  | zero =>
    intro i τ hi hsm _ _
    have hi : i = 6 := by omega
    subst hi
    exact b_FS_clearest_28 ⟨fun _ => H τ hsm, fun q => absurd (nI_le (a := 6) (b := 6) (by decide) (by decide)) q⟩
  | succ m ih =>
    intro i τ hi hsm hf hr
    obtain ⟨g1, g2, g3, g4, g5⟩ := hX.sm hsm
    refine b_FS_clearest_28 ⟨fun q => absurd q (nI_ge (b := 6) (by omega) (by decide)), fun _ => ?_⟩
    have hsee := r_WA_see (d := d) (hz := i / 2) (wd := i % 2) (Q := fun x1 u2 => (∃ P, fg_Run (d + 3) 59 0 [some (.ref 33), some (.ref u2.1), none, none, none] [] u2 P ∧ ∀ x3 u4, P x3 u4 → (∃ P, fg_Run (d + 3) 195 0 [some (.int x3)] [] u4 P ∧ ∀ x5 u6, P x5 u6 → ((x5 ≤ (fg_bf (0, -1) (fg_cc z w) i).2 → fg_Run (d + 4) 97 28 [some (.ref 0), some (.int (fg_bf (0, -1) (fg_cc z w) i).1), some (.int (fg_bf (0, -1) (fg_cc z w) i).2), some (.int (nI i + 1)), none] [] u6 Q) ∧ (¬ (x5 ≤ (fg_bf (0, -1) (fg_cc z w) i).2) → fg_Run (d + 4) 97 28 [some (.ref 0), some (.int (nI i)), some (.int x5), some (.int (nI i + 1)), none] [] u6 Q))))) g1 g2 g3 g4 (by omega) (by omega) hf hr (fun u hsu hlk hsg => ?_)
    · rw [fg_wv] at hsee
      exact fg_use hsee
    · have hXu := hX.sm (hsm.tr (hsu.wk fg_pSX))
      refine fg_use (r_WA_clearOnes hXu.1 g2 hXu.2.2.1 (fg_lw_lt g4) ⟨((hsu.2 33 (by decide)).1 3).trans hf, hsg⟩ ?_)
      have hb : fg_set (fg_clr z (fg_s0 z (fg_tn z w)) (fg_lw w (i / 2) (i % 2))) (fg_zs z) < 1024 := Nat.lt_of_lt_of_le (fg_set_lt _ _) (fg_p10 hs)
      refine fg_use (r_JI_bitCount hb ?_)
      have ih := ih (i + 1) u (by omega) (hsm.tr (hsu.wk fg_pSX)) (((hsu.2 33 (by decide)).1 3).trans hf) (fun e j he hj => ((hsu.2 34 (by decide)).2 _).trans (hr e j he hj))
      rw [nI_1]
      rw [fg_bf] at ih
      refine ⟨fun q => ?_, fun q => ?_⟩
      · rw [if_pos (show fg_cc z w i ≤ _ from q)] at ih
        exact ih
      · rw [if_neg (show ¬ fg_cc z w i ≤ _ from q)] at ih
        exact ih
theorem r_FS_clearest {σ : fg_St} (hX : fg_XI σ z w) (H : ∀ u, fg_sm fg_pX σ u → Q (fg_bf (0, -1) (fg_cc z w) 6).1 u) : fg_Run (d + 4) 97 0 [some (.ref 0), none, none, none, none] [] σ Q := by
  obtain ⟨h1, h2, h3, h4, h5⟩ := id hX
  have ht := fg_tn_lt (w := w) h2
  refine b_FS_clearest_0 ?_
  have h7 : fg_F σ 15 7 = nI (fg_tn z w) := h4.2.2.1
  rw [h7]
  exact fg_use (r_WA_raiseAll h1 h2 h3 (by omega) (fun u hsu huf hrow => l_FS_clearest hX H 6 0 u rfl (hsu.wk fg_pWX) huf hrow))
theorem l_MO_clearest {σ : fg_St} (hM : fg_MI σ z) (H : ∀ u, fg_sm fg_pM σ u → Q (fg_bf (0, 0) (fg_cc z (fg_R σ 191)) 6).1 u) : ∀ m i (τ : fg_St), i + m = 6 → fg_sm fg_pM σ τ → fg_Run (d + 5) 143 6 [some (.ref 187), some (.int (fg_bf (0, 0) (fg_cc z (fg_R σ 191)) i).1), some (.int (fg_bf (0, 0) (fg_cc z (fg_R σ 191)) i).2), some (.int (nI i)), none] [] τ Q := by
  have hs := hM.1.1.2.2.2
  intro m
  induction m with
  | zero =>
    intro i τ hi hsm
    have hi : i = 6 := by omega
    subst hi
    exact b_MO_clearest_6 ⟨fun _ => H τ hsm, fun q => absurd (nI_le (a := 6) (b := 6) (by decide) (by decide)) q⟩
  | succ m ih =>
    intro i τ hi hsm
    have hM' := hM.sm hsm
    have e191 : fg_R τ 191 = fg_R σ 191 := funext (hsm.2 191 (by decide)).2
    refine b_MO_clearest_6 ⟨fun q => absurd q (nI_ge (b := 6) (by omega) (by decide)), fun _ => ?_⟩
    have hw2 := fg_w2 (hz := i / 2) (wd := i % 2) (by omega) (by omega)
    rw [fg_wv] at hw2
    rw [hw2.2, hw2.1]
    refine fg_use (r_MO_clearIn (by omega) (by omega) hM' (fun u hsu => ?_))
    rw [e191]
    have hb : fg_set (fg_clr z (fg_s0 z (fg_tn z (fg_R σ 191))) (fg_lw (fg_R σ 191) (i / 2) (i % 2))) (fg_zs z) < 1024 := Nat.lt_of_lt_of_le (fg_set_lt _ _) (fg_p10 hs)
    refine fg_use (r_MO_bits (by omega) ?_)
    have ih := ih (i + 1) u (by omega) (hsm.tr (hsu.wk fg_pKM))
    rw [nI_1]
    rw [fg_bf] at ih
    refine ⟨fun q => ?_, fun q => ?_⟩
    · rw [if_pos (show fg_cc z (fg_R σ 191) i ≤ _ from q)] at ih
      exact ⟨fun _ => ih, fun q2 => absurd q q2⟩
    · rw [if_neg (show ¬ fg_cc z (fg_R σ 191) i ≤ _ from q)] at ih
      exact ⟨fun q2 => absurd q2 q, fun _ => ih⟩
theorem r_MO_clearest {σ : fg_St} (hM : fg_MI σ z) (H : ∀ u, fg_sm fg_pM σ u → Q (fg_bf (0, -1) (fg_cc z (fg_R σ 191)) 6).1 u) : fg_Run (d + 5) 143 0 [some (.ref 187), none, none, none, none] [] σ Q := by
  refine b_MO_clearest_0 (l_MO_clearest hM ?_ 6 0 σ rfl fg_sm.rfl')
  rw [fg_bf_01]
  · exact H
  · unfold fg_cc
    have hs := hM.1.1.2.2.2
    rw [fg_le', nI_toInt]
    · show (0 : Int) ≤ _
      omega
    · have : ∀ S n, fg_cnt S n ≤ n := by
        intro S n
        induction n with
        | zero => exact Nat.le_refl _
        | succ n ih =>
          rw [fg_cnt]
          split <;> omega
      exact Nat.lt_of_le_of_lt (this _ 10) (by decide)
end
