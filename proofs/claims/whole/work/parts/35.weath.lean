/-! IN WHICH WEATHER IT WAS -/
/-- what was read: n of them, sent a, read b -/
def fg_RdX (σ : fg_St) (z : fg_Z) (n : Nat) (a b : Nat → Nat) : Prop := (fg_F σ 26 4 = nI n ∧ n ≤ 8) ∧ ∀ i, i < n → fg_R σ 27 i = nI (a i) ∧ a i < fg_zs z ∧ fg_R σ 28 i = nI (b i) ∧ b i < fg_zs z
def fg_RdM (σ : fg_St) (z : fg_Z) (n : Nat) (a b : Nat → Nat) : Prop := (fg_F σ 187 26 = nI n ∧ n ≤ 8) ∧ ∀ i, i < n → fg_R σ 201 i = nI (a i) ∧ a i < fg_zs z ∧ fg_R σ 202 i = nI (b i) ∧ b i < fg_zs z
theorem fg_RdX.sm {P : Nat → Bool} {σ u : fg_St} {z : fg_Z} {n : Nat} {a b : Nat → Nat} (h : fg_RdX σ z n a b) (s : fg_sm P σ u) (h1 : P 26 = false) (h2 : P 27 = false) (h3 : P 28 = false) : fg_RdX u z n a b := by
  refine ⟨⟨((s.2 26 h1).1 4).trans h.1.1, h.1.2⟩, fun i hi => ?_⟩
  obtain ⟨k1, k2, k3, k4⟩ := h.2 i hi
  exact ⟨((s.2 27 h2).2 i).trans k1, k2, ((s.2 28 h3).2 i).trans k3, k4⟩
theorem fg_RdM.sm {P : Nat → Bool} {σ u : fg_St} {z : fg_Z} {n : Nat} {a b : Nat → Nat} (h : fg_RdM σ z n a b) (s : fg_sm P σ u) (h1 : P 187 = false) (h2 : P 201 = false) (h3 : P 202 = false) : fg_RdM u z n a b := by
  refine ⟨⟨((s.2 187 h1).1 26).trans h.1.1, h.1.2⟩, fun i hi => ?_⟩
  obtain ⟨k1, k2, k3, k4⟩ := h.2 i hi
  exact ⟨((s.2 201 h2).2 i).trans k1, k2, ((s.2 202 h3).2 i).trans k3, k4⟩
def fg_fit (z : fg_Z) (s : Nat × Nat) (lf : Nat → Nat) (a b : Nat → Nat) : Nat → Bool
  | 0 => true
  | i + 1 => fg_fit z s lf a b i && fg_lke z s lf (a i) (b i)
theorem fg_fit_no {z : fg_Z} {s : Nat × Nat} {lf : Nat → Nat} {a b : Nat → Nat} {i : Nat} (h : fg_fit z s lf a b i = false) : ∀ m, fg_fit z s lf a b (i + m) = false := by
  intro m
  induction m with
  | zero => exact h
  | succ m ih => rw [← Nat.add_assoc, fg_fit, ih]; rfl
/-- the weathers that may have been -/
def fg_pw (z : fg_Z) (w : Nat → Int32) (a b : Nat → Nat) (n v : Nat) : Bool := fg_fit z (fg_s0 z (fg_tn z w)) (fg_lw w (v / 2) (v % 2)) a b n
/-- those alike in a weather -/
def fg_lks (z : fg_Z) (w : Nat → Int32) (v e : Nat) : Nat := fg_set (fg_lke z (fg_s0 z (fg_tn z w)) (fg_lw w (v / 2) (v % 2)) e) (fg_zs z)
def fg_ptn (W : Nat) (L : Nat → Int32) (v : Nat) : Nat := fg_num (fun u => W.testBit v && (W.testBit u && decide (L v = L u))) 6
def fg_gx (c : Nat → Nat) : Nat → Nat
  | 0 => 0
  | v + 1 => if fg_gx c v < c v then c v else fg_gx c v
theorem fg_gx_le {c : Nat → Nat} {k : Nat} (h : ∀ v, c v ≤ k) : ∀ n, fg_gx c n ≤ k := by
  intro n
  induction n with
  | zero => exact Nat.zero_le _
  | succ n ih =>
    rw [fg_gx]
    split
    · exact h n
    · exact ih
def fg_lsf (s : Int32 × Int32) (c : Nat → Int32) : Nat → Int32 × Int32
  | 0 => s
  | i + 1 => if (fg_lsf s c i).2 ≤ c i then fg_lsf s c i else (nI i, c i)
theorem fg_lsf_s {s : Int32 × Int32} {c : Nat → Int32} (i : Nat) : fg_lsf s c (i + 1) = if (fg_lsf s c i).2 ≤ c i then fg_lsf s c i else (nI i, c i) := rfl
section
variable {d : Nat} {Q : Int32 → fg_St → Prop} {z : fg_Z} {w : Nat → Int32} {s : Nat × Nat} {lf : Nat → Nat} {n : Nat} {a b : Nat → Nat} {h : Nat}
theorem l_LG_fits {σ : fg_St} (Sh : h = 3 ∨ h = 9) (hz : fg_Zok z) (hX : fg_ShX σ h z) (hlf : ∀ g, g < fg_zf z → lf g < 200) (hw : fg_Wt2 z s lf σ) (hR : fg_RdX σ z n a b) (H : Q (fg_b (fg_fit z s lf a b n)) σ) : ∀ m i, i + m = n → fg_fit z s lf a b i = true → fg_Run (d + 2) 20 2 [some (.ref 26), some (.ref h), some (.ref 33), some (.int (nI i))] [] σ Q := by
  have hn := hR.1.2
  have hs := hz.1.2.2.2
  intro m
  induction m with
  | zero =>
    intro i hi hf
    have hi : i = n := by omega
    subst hi
    rw [hf] at H
    refine b_LG_fits_2 Sh ⟨fun _ => H, fun q => absurd ?_ q⟩
    rw [hR.1.1]
    exact nI_le (Nat.le_refl _) (by omega)
  | succ m ih =>
    intro i hi hf
    obtain ⟨k1, k2, k3, k4⟩ := hR.2 i (by omega)
    refine b_LG_fits_2 Sh ⟨fun q => absurd q (by rw [hR.1.1]; exact nI_ge (by omega) (by omega)), fun _ => ⟨fun q => absurd q (nI_ge (b := 8) (by omega) (by decide)), fun _ => ⟨vp_in_nI (by omega) (by decide), ?_⟩⟩⟩
    rw [nI_clamp (by omega), k1, nI_1]
    refine fg_use (r_WA_likeOf Sh hz hX hlf hw k2 ⟨vp_in_nI (by omega) (by decide), ?_⟩)
    have hb : fg_set (fg_lke z s lf (a i)) (fg_zs z) < 1024 := Nat.lt_of_lt_of_le (fg_set_lt _ _) (fg_p10 hs)
    rw [k3]
    refine fg_use (r_FS_has (by omega) (by omega) ?_)
    rw [fg_set_bit, decide_eq_true k4, Bool.true_and]
    cases hq : fg_lke z s lf (a i) (b i)
    · refine ⟨fun q => absurd rfl q, fun _ => ?_⟩
      have := fg_fit_no (z := z) (s := s) (lf := lf) (a := a) (b := b) (i := i + 1) (by rw [fg_fit, hq, Bool.and_false]) m
      rw [show i + 1 + m = n by omega] at this
      rw [this] at H
      exact H
    · exact ⟨fun _ => ih (i + 1) (by omega) (by rw [fg_fit, hf, hq]; rfl), fun q => absurd q (by decide)⟩
theorem r_LG_fits {σ : fg_St} (Sh : h = 3 ∨ h = 9) (hz : fg_Zok z) (hX : fg_ShX σ h z) (hlf : ∀ g, g < fg_zf z → lf g < 200) (hw : fg_Wt2 z s lf σ) (hR : fg_RdX σ z n a b) (H : Q (fg_b (fg_fit z s lf a b n)) σ) : fg_Run (d + 2) 20 0 [some (.ref 26), some (.ref h), some (.ref 33), none] [] σ Q :=
  b_LG_fits_0 Sh (l_LG_fits Sh hz hX hlf hw hR H n 0 (by omega) rfl)
theorem l_FS_possibleWeathers {σ : fg_St} (hX : fg_XI σ z w) (hR : fg_RdX σ z n a b) (H : ∀ u, fg_sm fg_pX σ u → Q (nI (fg_set (fg_pw z w a b n) 6)) u) : ∀ m i (τ : fg_St), i + m = 6 → fg_sm fg_pX σ τ → fg_F τ 33 3 = nI (fg_set (fg_upb z (fg_s0 z (fg_tn z w))) (fg_zs z)) → (∀ e j, e < fg_zs z → j < 4 → fg_R τ 34 (e * 4 + j) = fg_pi (fg_rx z (fg_s0 z (fg_tn z w)) e j)) → fg_Run (d + 4) 104 26 [some (.ref 0), some (.int (nI (fg_set (fg_pw z w a b n) i))), some (.int (nI i))] [] τ Q := by
  have hs := hX.2.1.1.2.2.2
  intro m
  induction m with
  | zero =>
    intro i τ hi hsm _ _
    have hi : i = 6 := by omega
    subst hi
    exact b_FS_possibleWeathers_26 ⟨fun _ => H τ hsm, fun q => absurd (nI_le (a := 6) (b := 6) (by decide) (by decide)) q⟩
  | succ m ih =>
    intro i τ hi hsm hf hr
    obtain ⟨g1, g2, g3, g4, g5⟩ := hX.sm hsm
    refine b_FS_possibleWeathers_26 ⟨fun q => absurd q (nI_ge (b := 6) (by omega) (by decide)), fun _ => ?_⟩
    have e := fg_wv i
    have key : ∀ v, v = i → ∃ P, fg_Run (d + 3) 55 0 [some (.ref 33), some (.ref τ.1), some (.ref 15), some (.int (nI v)), none] [] τ P ∧ ∀ x1 u2, P x1 u2 → (∃ P, fg_Run (d + 3) 20 0 [some (.ref 26), some (.ref u2.1), some (.ref 33), none] [] u2 P ∧ ∀ x3 u4, P x3 u4 → ((x3 = 0 → fg_Run (d + 4) 104 26 [some (.ref 0), some (.int (nI (fg_set (fg_pw z w a b n) i))), some (.int (nI i + 1))] [] u4 Q) ∧ (¬ (x3 = 0) → fg_Run (d + 4) 104 26 [some (.ref 0), some (.int (nI (fg_set (fg_pw z w a b n) i) ||| (1 <<< (nI i &&& 31)))), some (.int (nI i + 1))] [] u4 Q))) := by
      intro v hv
      rw [hv, ← e]
      refine fg_use (r_WA_see g1 g2 g3 g4 (by omega) (by omega) hf hr (fun u hsu hlk hsg => ?_))
      rw [e]
      have hXu := hX.sm (hsm.tr (hsu.wk fg_pSX))
      have hsmu := hsm.tr (hsu.wk fg_pSX)
      refine fg_use (r_LG_fits hXu.1 g2 hXu.2.2.1 (fg_lw_lt g4) ⟨((hsu.2 33 (by decide)).1 3).trans hf, hsg⟩ (hR.sm hsmu (by decide) (by decide) (by decide)) ?_)
      have ih := ih (i + 1) u (by omega) hsmu (((hsu.2 33 (by decide)).1 3).trans hf) (fun e j he hj => ((hsu.2 34 (by decide)).2 _).trans (hr e j he hj))
      rw [← fg_set_step (p := fg_pw z w a b n) (n := i) (by omega)] at ih
      rw [nI_1]
      have hd : fg_pw z w a b n i = fg_fit z (fg_s0 z (fg_tn z w)) (fg_lw w (i / 2) (i % 2)) a b n := rfl
      rw [hd] at ih
      cases hq : fg_fit z (fg_s0 z (fg_tn z w)) (fg_lw w (i / 2) (i % 2)) a b n
      · rw [hq, if_neg (by decide), fg_or0] at ih
        exact ⟨fun _ => ih, fun q => absurd rfl q⟩
      · rw [hq, if_pos rfl] at ih
        exact ⟨fun q => absurd q (by decide), fun _ => ih⟩
    exact key i rfl
theorem r_FS_possibleWeathers {σ : fg_St} (hX : fg_XI σ z w) (hR : fg_RdX σ z n a b) (H : ∀ u, fg_sm fg_pX σ u → Q (nI (fg_set (fg_pw z w a b n) 6)) u) : fg_Run (d + 4) 104 0 [some (.ref 0), none, none] [] σ Q := by
  obtain ⟨h1, h2, h3, h4, h5⟩ := id hX
  have ht := fg_tn_lt (w := w) h2
  refine b_FS_possibleWeathers_0 ?_
  have h7 : fg_F σ 15 7 = nI (fg_tn z w) := h4.2.2.1
  rw [h7]
  exact fg_use (r_WA_raiseAll h1 h2 h3 (by omega) (fun u hsu huf hrow => l_FS_possibleWeathers hX hR H 6 0 u rfl (hsu.wk fg_pWX) huf hrow))
theorem fg_10e (v e : Nat) : nI v * 10 + nI e = nI (v * 10 + e) := by rw [show (10 : Int32) = nI 10 from rfl, pk_mul, nI_add]
theorem fg_e10 (v e : Nat) : 10 * nI v + nI e = nI (v * 10 + e) := by rw [show (10 : Int32) = nI 10 from rfl, pk_mul, nI_add, Nat.mul_comm]
theorem l_FS_fillLikes2 {σ : fg_St} {v : Nat} (hv : v < 6) (hX : fg_XI σ z w) (hw : fg_Wt2 z (fg_s0 z (fg_tn z w)) (fg_lw w (v / 2) (v % 2)) σ) (H : ∀ u, fg_sm (fun g => g == 40) σ u → (∀ k, fg_R u 40 k = if v * 10 ≤ k ∧ k < v * 10 + fg_zs z then nI (fg_lks z w v (k - v * 10)) else fg_R σ 40 k) → fg_Run (d + 4) 106 24 [some (.ref 0), some (.int (nI (v + 1))), none] [] u Q) : ∀ m i (τ : fg_St), i + m = fg_zs z → fg_sm (fun g => g == 40) σ τ → (∀ k, fg_R τ 40 k = if v * 10 ≤ k ∧ k < v * 10 + i then nI (fg_lks z w v (k - v * 10)) else fg_R σ 40 k) → fg_Run (d + 4) 106 48 [some (.ref 0), some (.int (nI v)), some (.int (nI i))] [] τ Q := by
  have hs := hX.2.1.1.2.2.2
  have p40 : ∀ g, fg_pX g = false → (fun g => g == 40) g = false := by
    intro g h
    unfold fg_pX at h
    simp only [Bool.or_eq_false_iff] at h
    exact h.2
  intro m
  induction m with
  | zero =>
    intro i τ hi hsm hk
    have hi : i = fg_zs z := by omega
    subst hi
    have hX' := hX.sm (hsm.wk p40)
    refine b_FS_fillLikes_48 ⟨fg_kd6 hX'.1, fun _ => ?_, fun q => absurd ?_ q⟩
    · rw [nI_1]
      exact H τ hsm hk
    · rw [hX'.2.2.1.1.2.2.2]
      exact nI_le (Nat.le_refl _) (by omega)
  | succ m ih =>
    intro i τ hi hsm hk
    have hX' := hX.sm (hsm.wk p40)
    refine b_FS_fillLikes_48 ⟨fg_kd6 hX'.1, fun q => absurd q (by rw [hX'.2.2.1.1.2.2.2]; exact nI_ge (by omega) (by omega)), fun _ => ?_⟩
    refine fg_use (r_WA_likeOf hX'.1 hX'.2.1 hX'.2.2.1 (fg_lw_lt hX'.2.2.2.1) ⟨((hsm.2 33 (by decide)).1 3).trans hw.1, fun e he hu => ((hsm.2 36 (by decide)).2 e).trans (hw.2 e he hu)⟩ (show i < fg_zs z by omega) ?_)
    rw [fg_10e, nI_clamp (by omega), nI_1]
    refine ⟨vp_in_nI (by omega) (by decide), ih (i + 1) _ (by omega) (hsm.tr (fg_sm_R (by decide))) (fun k => ?_)⟩
    rw [fg_R_sR]
    by_cases e1 : k = v * 10 + i
    · rw [if_pos ⟨rfl, e1⟩, if_pos (by omega), e1, show v * 10 + i - v * 10 = i by omega]
      rfl
    · rw [if_neg (fun q => e1 q.2), hk k]
      by_cases h1 : v * 10 ≤ k ∧ k < v * 10 + i
      · rw [if_pos h1, if_pos (by omega)]
      · rw [if_neg h1, if_neg (by omega)]
theorem l_FS_fillLikes {σ : fg_St} (hX : fg_XI σ z w) (H : ∀ u, fg_sm fg_pX σ u → (∀ v e, v < 6 → e < fg_zs z → fg_R u 40 (v * 10 + e) = nI (fg_lks z w v e)) → Q 0 u) : ∀ m i (τ : fg_St), i + m = 6 → fg_sm fg_pX σ τ → fg_F τ 33 3 = nI (fg_set (fg_upb z (fg_s0 z (fg_tn z w))) (fg_zs z)) → (∀ e j, e < fg_zs z → j < 4 → fg_R τ 34 (e * 4 + j) = fg_pi (fg_rx z (fg_s0 z (fg_tn z w)) e j)) → (∀ v e, v < i → e < fg_zs z → fg_R τ 40 (v * 10 + e) = nI (fg_lks z w v e)) → fg_Run (d + 4) 106 24 [some (.ref 0), some (.int (nI i)), none] [] τ Q := by
  have hs := hX.2.1.1.2.2.2
  have p40 : ∀ g, fg_pX g = false → (fun g => g == 40) g = false := by
    intro g h
    unfold fg_pX at h
    simp only [Bool.or_eq_false_iff] at h
    exact h.2
  intro m
  induction m with
  | zero =>
    intro i τ hi hsm _ _ hL
    have hi : i = 6 := by omega
    subst hi
    exact b_FS_fillLikes_24 ⟨fun _ => H τ hsm hL, fun q => absurd (nI_le (a := 6) (b := 6) (by decide) (by decide)) q⟩
  | succ m ih =>
    intro i τ hi hsm hf hr hL
    obtain ⟨g1, g2, g3, g4, g5⟩ := hX.sm hsm
    refine b_FS_fillLikes_24 ⟨fun q => absurd q (nI_ge (b := 6) (by omega) (by decide)), fun _ => ?_⟩
    have e := fg_wv i
    have key : ∀ v, v = i → ∃ P, fg_Run (d + 3) 55 0 [some (.ref 33), some (.ref τ.1), some (.ref 15), some (.int (nI v)), none] [] τ P ∧ ∀ x1 u2, P x1 u2 → fg_Run (d + 4) 106 48 [some (.ref 0), some (.int (nI i)), some (.int 0)] [] u2 Q := by
      intro v hv
      rw [hv, ← e]
      refine fg_use (r_WA_see g1 g2 g3 g4 (by omega) (by omega) hf hr (fun u hsu hlk hsg => ?_))
      rw [e]
      have hsmu := hsm.tr (hsu.wk fg_pSX)
      have hXu := hX.sm hsmu
      refine l_FS_fillLikes2 (by omega) hXu ⟨((hsu.2 33 (by decide)).1 3).trans hf, hsg⟩ (fun x hx hk => ?_) (fg_zs z) 0 u (by omega) fg_sm.rfl' (fun k => by rw [if_neg (by omega)])
      refine ih (i + 1) x (by omega) (hsmu.tr (hx.wk p40)) (((hx.2 33 (by decide)).1 3).trans (((hsu.2 33 (by decide)).1 3).trans hf)) (fun e j he hj => ((hx.2 34 (by decide)).2 _).trans (((hsu.2 34 (by decide)).2 _).trans (hr e j he hj))) (fun v e2 hv he => ?_)
      rw [hk]
      by_cases e1 : v = i
      · subst e1
        rw [if_pos (by omega), show v * 10 + e2 - v * 10 = e2 by omega]
      · rw [if_neg (by omega), (hsu.2 40 (by decide)).2]
        exact hL v e2 (by omega) he
    exact key i rfl
theorem r_FS_fillLikes {σ : fg_St} (hX : fg_XI σ z w) (H : ∀ u, fg_sm fg_pX σ u → (∀ v e, v < 6 → e < fg_zs z → fg_R u 40 (v * 10 + e) = nI (fg_lks z w v e)) → Q 0 u) : fg_Run (d + 4) 106 0 [some (.ref 0), none, none] [] σ Q := by
  obtain ⟨h1, h2, h3, h4, h5⟩ := id hX
  have ht := fg_tn_lt (w := w) h2
  refine b_FS_fillLikes_0 ?_
  have h7 : fg_F σ 15 7 = nI (fg_tn z w) := h4.2.2.1
  rw [h7]
  exact fg_use (r_WA_raiseAll h1 h2 h3 (by omega) (fun u hsu huf hrow => l_FS_fillLikes hX H 6 0 u rfl (hsu.wk fg_pWX) huf hrow (fun v e hv _ => absurd hv (by omega))))
theorem fg_ptn_le {W : Nat} {L : Nat → Int32} (v : Nat) : fg_ptn W L v ≤ 6 := fg_num_le _ 6
/-- the class's greatestPart -/
theorem l_FS_greatestPart2 {σ : fg_St} {e W v : Nat} {y3 : Int32} (he : e < 10) (hW : W < 64) (hv : v < 6) (H : fg_Run (d + 1) 107 5 [some (.ref 0), some (.int (nI e)), some (.int (nI W)), some (.int (if y3 < nI (fg_ptn W (fun x => fg_R σ 40 (x * 10 + e)) v) then nI (fg_ptn W (fun x => fg_R σ 40 (x * 10 + e)) v) else y3)), some (.int (nI (v + 1))), none, none] [] σ Q) : ∀ m i, i + m = 6 → fg_Run (d + 1) 107 18 [some (.ref 0), some (.int (nI e)), some (.int (nI W)), some (.int y3), some (.int (nI v)), some (.int (nI (fg_num (fun u => W.testBit v && (W.testBit u && decide (fg_R σ 40 (v * 10 + e) = fg_R σ 40 (u * 10 + e)))) i))), some (.int (nI i))] [] σ Q := by
  intro m
  induction m with
  | zero =>
    intro i hi
    have hi : i = 6 := by omega
    subst hi
    refine b_FS_greatestPart_18 ⟨fun _ => ?_, fun q => absurd (nI_le (a := 6) (b := 6) (by decide) (by decide)) q⟩
    rw [nI_1]
    exact H
  | succ m ih =>
    intro i hi
    have ih := ih (i + 1) (by omega)
    rw [fg_num] at ih
    refine b_FS_greatestPart_18 ⟨fun q => absurd q (nI_ge (b := 6) (by omega) (by decide)), fun _ => fg_use (r_FS_has (by omega) (by omega) ?_)⟩
    rw [nI_1 i]
    cases h1 : W.testBit v
    · simp only [h1, Bool.false_and] at ih ⊢
      exact ⟨fun _ => ih, fun q => absurd rfl q⟩
    · refine ⟨fun q => absurd q (by decide), fun _ => fg_use (r_FS_has (by omega) (by omega) ?_)⟩
      cases h2 : W.testBit i
      · simp only [h1, h2, Bool.true_and, Bool.false_and] at ih ⊢
        exact ⟨fun _ => ih, fun q => absurd rfl q⟩
      · refine ⟨fun q => absurd q (by decide), fun _ => ?_⟩
        rw [fg_10e, fg_10e, nI_clamp (by omega), nI_clamp (by omega)]
        simp only [h1, h2, Bool.true_and] at ih ⊢
        refine ⟨vp_in_nI (by omega) (by decide), vp_in_nI (by omega) (by decide), fun q => ?_, fun q => ?_⟩
        · rw [if_neg (by simpa using q)] at ih
          exact ih
        · rw [if_pos (by simpa using q), ← nI_1] at ih
          exact ih
theorem l_FS_greatestPart {σ : fg_St} {e W : Nat} (he : e < 10) (hW : W < 64) (H : Q (nI (fg_gx (fg_ptn W (fun x => fg_R σ 40 (x * 10 + e))) 6)) σ) : ∀ m i, i + m = 6 → fg_Run (d + 1) 107 5 [some (.ref 0), some (.int (nI e)), some (.int (nI W)), some (.int (nI (fg_gx (fg_ptn W (fun x => fg_R σ 40 (x * 10 + e))) i))), some (.int (nI i)), none, none] [] σ Q := by
  intro m
  induction m with
  | zero =>
    intro i hi
    have hi : i = 6 := by omega
    subst hi
    exact b_FS_greatestPart_5 ⟨fun _ => H, fun q => absurd (nI_le (a := 6) (b := 6) (by decide) (by decide)) q⟩
  | succ m ih =>
    intro i hi
    have ih := ih (i + 1) (by omega)
    refine b_FS_greatestPart_5 ⟨fun q => absurd q (nI_ge (b := 6) (by omega) (by decide)), fun _ => ?_⟩
    refine l_FS_greatestPart2 he hW (show i < 6 by omega) ?_ 6 0 rfl
    have h1 := fg_ptn_le (W := W) (L := fun x => fg_R σ 40 (x * 10 + e)) i
    have h2 := fg_gx_le (fg_ptn_le (W := W) (L := fun x => fg_R σ 40 (x * 10 + e))) i
    rw [fg_gx] at ih
    by_cases hq : fg_gx (fg_ptn W (fun x => fg_R σ 40 (x * 10 + e))) i < fg_ptn W (fun x => fg_R σ 40 (x * 10 + e)) i
    · rw [if_pos ((nI_ltI (by omega) (by omega)).mpr hq)]
      rw [if_pos hq] at ih
      exact ih
    · rw [if_neg (fun k => hq ((nI_ltI (by omega) (by omega)).mp k))]
      rw [if_neg hq] at ih
      exact ih
theorem r_FS_greatestPart {σ : fg_St} {e W : Nat} (he : e < 10) (hW : W < 64) (H : Q (nI (fg_gx (fg_ptn W (fun x => fg_R σ 40 (x * 10 + e))) 6)) σ) : fg_Run (d + 1) 107 0 [some (.ref 0), some (.int (nI e)), some (.int (nI W)), none, none, none, none] [] σ Q :=
  b_FS_greatestPart_0 (l_FS_greatestPart he hW H 6 0 rfl)
/-- the greatest part that a signal leaves -/
def fg_gp (z : fg_Z) (w : Nat → Int32) (W e : Nat) : Int32 := nI (fg_gx (fg_ptn W (fun v => nI (fg_lks z w v e))) 6)
theorem fg_gx_ext {c c' : Nat → Nat} : ∀ n, (∀ i, i < n → c i = c' i) → fg_gx c n = fg_gx c' n := by
  intro n
  induction n with
  | zero => intro _; rfl
  | succ n ih => intro h; rw [fg_gx, fg_gx, ih (fun i hi => h i (by omega)), h n (by omega)]
theorem fg_ptn_ext {W v : Nat} {L L' : Nat → Int32} (hv : v < 6) (h : ∀ i, i < 6 → L i = L' i) : fg_ptn W L v = fg_ptn W L' v := by
  unfold fg_ptn
  exact fg_num_ext 6 (fun i hi => by rw [h v hv, h i hi])
theorem l_FS_askedSignal {σ : fg_St} {W : Nat} (hX : fg_XI σ z w) (hW : W < 64) (hL : ∀ v e, v < 6 → e < fg_zs z → fg_R σ 40 (v * 10 + e) = nI (fg_lks z w v e)) {s0 : Int32 × Int32} (H : Q (fg_lsf s0 (fg_gp z w W) (fg_zs z)).1 σ) : ∀ m i, i + m = fg_zs z → fg_Run (d + 2) 105 19 [some (.ref 0), some (.int (nI W)), some (.int (fg_lsf s0 (fg_gp z w W) i).1), some (.int (fg_lsf s0 (fg_gp z w W) i).2), some (.int (nI i)), none] [] σ Q := by
  have hs := hX.2.1.1.2.2.2
  intro m
  induction m with
  | zero =>
    intro i hi
    have hi : i = fg_zs z := by omega
    subst hi
    refine b_FS_askedSignal_19 ⟨fg_kd6 hX.1, fun _ => H, fun q => absurd ?_ q⟩
    rw [hX.2.2.1.1.2.2.2]
    exact nI_le (Nat.le_refl _) (by omega)
  | succ m ih =>
    intro i hi
    have ih := ih (i + 1) (by omega)
    refine b_FS_askedSignal_19 ⟨fg_kd6 hX.1, fun q => absurd q (by rw [hX.2.2.1.1.2.2.2]; exact nI_ge (by omega) (by omega)), fun _ => fg_use (r_FS_greatestPart (by omega) hW ?_)⟩
    rw [fg_gx_ext (c' := fg_ptn W (fun v => nI (fg_lks z w v i))) 6 (fun v hv => fg_ptn_ext hv (fun x hx => hL x i hx (by omega))), nI_1]
    rw [fg_lsf_s] at ih
    refine ⟨fun q => ?_, fun q => ?_⟩
    · rw [if_pos (show _ ≤ fg_gp z w W i from q)] at ih
      exact ih
    · rw [if_neg (show ¬ _ ≤ fg_gp z w W i from q)] at ih
      exact ih
theorem r_FS_askedSignal {σ : fg_St} (hX : fg_XI σ z w) (hR : fg_RdX σ z n a b) (H : ∀ u, fg_sm fg_pX σ u → Q (fg_lsf (-1, nI (fg_cnt (fg_set (fg_pw z w a b n) 6) 10)) (fg_gp z w (fg_set (fg_pw z w a b n) 6)) (fg_zs z)).1 u) : fg_Run (d + 5) 105 0 [some (.ref 0), none, none, none, none, none] [] σ Q := by
  have hW : fg_set (fg_pw z w a b n) 6 < 64 := fg_set_lt _ 6
  refine b_FS_askedSignal_0 (fg_use (r_FS_possibleWeathers hX hR (fun u hsu => fg_use (r_FS_fillLikes (hX.sm hsu) (fun v hsv hL => fg_use (r_JI_bitCount (by omega) ?_))))))
  exact l_FS_askedSignal (s0 := (-1, nI (fg_cnt (fg_set (fg_pw z w a b n) 6) 10))) (hX.sm (hsu.tr hsv)) hW hL (H v (hsu.tr hsv)) (fg_zs z) 0 (by omega)
end
