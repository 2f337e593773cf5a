/-! A SIGNAL GOES UP: the reference -/
def fg_usd (r : Nat → Int32) (v : Int32) : Nat → Bool
  | 0 => false
  | i + 1 => fg_usd r v i || decide (r i = v)
theorem fg_usd_congr {r r' : Nat → Int32} {v : Int32} : ∀ i, (∀ t, t < i → r t = r' t) → fg_usd r v i = fg_usd r' v i := by
  intro i
  induction i with
  | zero => intro _; rfl
  | succ i ih => intro h; rw [fg_usd, fg_usd, ih (fun t ht => h t (by omega)), h i (by omega)]
theorem fg_tk_some {z : fg_Z} {e : Nat} {s : Nat × Nat} {n i : Nat} (h : (fg_tk z e s n).isSome = true) (hi : i ≤ n) : ∃ t, fg_tk z e s i = some t := by
  cases h1 : fg_tk z e s i with
  | some t => exact ⟨t, rfl⟩
  | none => rw [fg_tk_none h1 n hi] at h; cases h
theorem fg_rw_in {z : fg_Z} (hz : fg_Zok z) {e : Nat} {s : Nat × Nat} (he : e < fg_zs z) {n q : Nat} (hn : n ≤ fg_zl z e) (h : (fg_tk z e s n).isSome = true) (hq : q < n) : fg_rw z e s q < fg_zf z ∨ (21 ≤ fg_rw z e s q ∧ fg_rw z e s q ≤ 20 + q) := by
  obtain ⟨t, ht⟩ := fg_tk_some h (show q ≤ n by omega)
  obtain ⟨t2, ht2⟩ := fg_tk_some h (show q + 1 ≤ n by omega)
  have hrw : fg_rw z e s q = fg_pce z e t.1 t.2 q := by unfold fg_rw; rw [ht]
  rw [hrw]
  rcases fg_pce_in hz (FF := t.1) (FS := t.2) he (show q < fg_zl z e by omega) with h1 | h1 | h1
  · rw [fg_tk, ht] at ht2
    simp [h1] at ht2
  · exact Or.inl h1.1
  · exact Or.inr h1
/-- what a row may hold -/
def fg_rok (z : fg_Z) (r : Nat → Int32) : Prop := ∀ q, q < 4 → (r q = -1 ∨ ∃ p, r q = nI p ∧ (p < fg_zf z ∨ (21 ≤ p ∧ p ≤ 24)))
theorem fg_rok_of {z : fg_Z} (hz : fg_Zok z) {e : Nat} {s t : Nat × Nat} (he : e < fg_zs z) {i : Nat} (hi : i ≤ fg_zl z e) (ht : fg_tk z e s i = some t) {r : Nat → Int32} (hr : ∀ q, q < 4 → r q = if q < i then nI (fg_rw z e s q) else -1) : fg_rok z r := by
  have hl := hz.2.1 e he
  intro q hq
  rw [hr q hq]
  by_cases h : q < i
  · rw [if_pos h]
    right
    refine ⟨_, rfl, ?_⟩
    rcases fg_rw_in hz he hi (by rw [ht]; rfl) h with q1 | q1
    · exact Or.inl q1
    · exact Or.inr (by omega)
  · rw [if_neg h]
    exact Or.inl rfl
def fg_pR (g : Nat) : Bool := g == 196
section
variable {d : Nat} {Q : Int32 → fg_St → Prop} {z : fg_Z} {e FF FS : Nat}
theorem l_MO_isUsed {σ : fg_St} {v : Int32} {n : Nat} (hn : n ≤ 4) (H : Q (fg_b (fg_usd (fg_R σ 196) v n)) σ) : ∀ m i, i + m = n → fg_Run d 132 5 [some (.ref 187), some (.int v), some (.int (nI n)), some (.int (fg_b (fg_usd (fg_R σ 196) v i))), some (.int (nI i))] [] σ Q := by
  intro m
  induction m with
  | zero =>
    intro i hi
    have hi : i = n := by omega
    subst hi
    refine b_MO_isUsed_5 ⟨fun _ => ⟨by unfold fg_b; split <;> simp, H⟩, fun q => absurd (nI_le (Nat.le_refl _) (by omega)) q⟩
  | succ m ih =>
    intro i hi
    have ih := ih (i + 1) (by omega)
    refine b_MO_isUsed_5 ⟨fun q => absurd q (nI_ge (by omega) (by omega)), fun _ => ?_⟩
    rw [nI_1, nI_clamp (by omega)]
    rw [fg_usd] at ih
    cases hu : fg_usd (fg_R σ 196) v i
    · rw [hu] at ih
      refine ⟨fun q => absurd rfl q, fun _ => ⟨vp_in_nI (by omega) (by decide), fun q => ?_, fun q => ?_⟩⟩
      · rw [decide_eq_false q] at ih
        exact ih
      · rw [decide_eq_true q] at ih
        exact ih
    · rw [hu] at ih
      exact ⟨fun _ => ih, fun q => absurd q (by decide)⟩
theorem r_MO_isUsed {σ : fg_St} {v : Int32} {n : Nat} (hn : n ≤ 4) (H : Q (fg_b (fg_usd (fg_R σ 196) v n)) σ) : fg_Run d 132 0 [some (.ref 187), some (.int v), some (.int (nI n)), none, none] [] σ Q := b_MO_isUsed_0 (l_MO_isUsed hn H n 0 (by omega))
/-- what is left, by what the row holds -/
def fg_lft (s t : Nat × Nat) (r : Nat → Int32) (i : Nat) : Prop := (∀ g, g < 10 → t.1.testBit g = (s.1.testBit g && !(fg_usd r (nI g) i))) ∧ ∀ k, 1 ≤ k → k ≤ 3 → t.2.testBit k = (s.2.testBit k && !(fg_usd r (nI (20 + k)) i))
theorem fg_4e (e j : Nat) : 4 * nI e + nI j = nI (4 * e + j) := by rw [show (4 : Int32) = nI 4 from rfl, pk_mul, nI_add]
theorem l_MO_itemFor {σ : fg_St} {t : Nat × Nat} {j : Nat} (hz : fg_Zok z) (hM : fg_ShM σ z) (he : e < fg_zs z) (hj : j < fg_zl z e) (hFS : FS < 16) (hU : fg_lft (FF, FS) t (fg_R σ 196) j) : ∀ m k, 1 ≤ k → k + m = j + 1 → Q (if fg_alf z e t.2 j m k = 0 then -1 else nI (20 + fg_alf z e t.2 j m k)) σ → fg_Run (d + 1) 133 37 [some (.ref 187), some (.int (nI e)), some (.int (nI j)), none, some (.int (nI FS)), some (.int (nI (fg_zr z e j))), some (.int (nI k))] [] σ Q := by
  have hl := hz.2.1 e he
  have hr := hz.2.2.1 e he
  have hf := hz.1.2.2.1
  have hs := hz.1.2.2.2
  intro m
  induction m with
  | zero =>
    intro k h1 hk H
    exact b_MO_itemFor_37 ⟨fun _ => H, fun q => absurd (nI_lt (by omega) (by omega)) q⟩
  | succ m ih =>
    intro k h1 hk H
    have e1 : 4 * nI e + nI k - 1 = nI (4 * e + (k - 1)) := by
      rw [fg_4e]
      rw [show nI (4 * e + k) - 1 = nI (4 * e + k - 1) from pk_sub (b := 1) (by omega)]
      congr 1
      omega
    have hk2 := hU.2 k h1 (by omega)
    refine b_MO_itemFor_37 ⟨fun q => absurd q (nI_nlt (by omega) (by omega)), fun _ => fg_use (r_MO_has (by omega) (by omega) ?_)⟩
    have ih := ih (k + 1) (by omega) (by omega)
    rw [← nI_1] at ih
    unfold fg_alf at H
    cases hb : FS.testBit k
    · have hb2 : t.2.testBit k = false := by rw [hk2]; show (FS.testBit k && _) = false; rw [hb]; rfl
      rw [hb2] at H
      exact ⟨fun _ => ih H, fun q => absurd rfl q⟩
    · refine ⟨fun q => absurd q (by decide), fun _ => ?_⟩
      rw [show (20 : Int32) = nI 20 from rfl, nI_add]
      refine fg_use (r_MO_isUsed (by omega) ?_)
      cases hu : fg_usd (fg_R σ 196) (nI (20 + k)) j
      · have hb2 : t.2.testBit k = true := by rw [hk2]; show (FS.testBit k && _) = true; rw [hb, hu]; rfl
        rw [hb2] at H
        refine ⟨fun q => absurd rfl q, fun _ => ?_⟩
        rw [e1, nI_clamp (by omega), hM.2.2 e he (k - 1) (by omega), nI_eq (by have := hr (k - 1) (by omega); omega) (by have := hr j hj; omega)]
        refine ⟨vp_in_nI (by omega) (by decide), fun q => ?_, fun q => ?_⟩
        · have hq : (fg_zr z e (k - 1) == fg_zr z e j) = false := by simpa using q
          rw [hq] at H
          exact ih H
        · have hq : (fg_zr z e (k - 1) == fg_zr z e j) = true := by simpa using q
          rw [hq] at H
          have : ¬ k = 0 := by omega
          simpa [this] using H
      · have hb2 : t.2.testBit k = false := by rw [hk2]; show (FS.testBit k && _) = false; rw [hb, hu]; rfl
        rw [hb2] at H
        exact ⟨fun _ => ih H, fun q => absurd q (by decide)⟩
theorem r_MO_itemFor {σ : fg_St} {t : Nat × Nat} {j : Nat} (hz : fg_Zok z) (hM : fg_ShM σ z) (he : e < fg_zs z) (hj : j < fg_zl z e) (hFF : FF < 1024) (hFS : FS < 16) (hU : fg_lft (FF, FS) t (fg_R σ 196) j) (H : Q (fg_pi (fg_pce z e t.1 t.2 j)) σ) : fg_Run (d + 1) 133 0 [some (.ref 187), some (.int (nI e)), some (.int (nI j)), some (.int (nI FF)), some (.int (nI FS)), none, none] [] σ Q := by
  have hl := hz.2.1 e he
  have hr := hz.2.2.1 e he j hj
  have hf := hz.1.2.2.1
  have hs := hz.1.2.2.2
  refine b_MO_itemFor_0 ?_
  rw [fg_4e, nI_clamp (by omega), hM.2.2 e he j hj]
  have hg := hU.1 (fg_zr z e j) (by omega)
  have no : t.1.testBit (fg_zr z e j) = false → fg_Run (d + 1) 133 37 [some (.ref 187), some (.int (nI e)), some (.int (nI j)), none, some (.int (nI FS)), some (.int (nI (fg_zr z e j))), some (.int 1)] [] σ Q := by
    intro hb
    refine l_MO_itemFor hz hM he hj hFS hU j 1 (by omega) (by omega) ?_
    unfold fg_pce at H
    rw [if_neg (by rw [hb]; decide)] at H
    by_cases h0 : fg_alf z e t.2 j j 1 = 0
    · rw [if_pos h0] at H ⊢
      exact H
    · rw [if_neg h0] at H ⊢
      unfold fg_pi at H
      rw [if_neg (by rcases fg_alf_lt z e t.2 j j 1 with h | h <;> omega)] at H
      exact H
  refine ⟨vp_in_nI (by omega) (by decide), fg_use (r_MO_has (by omega) (by omega) ?_)⟩
  cases hb : FF.testBit (fg_zr z e j)
  · exact ⟨fun _ => no (by rw [hg]; show (FF.testBit _ && _) = false; rw [hb]; rfl), fun q => absurd rfl q⟩
  · refine ⟨fun q => absurd q (by decide), fun _ => fg_use (r_MO_isUsed (by omega) ?_)⟩
    cases hu : fg_usd (fg_R σ 196) (nI (fg_zr z e j)) j
    · have hb2 : t.1.testBit (fg_zr z e j) = true := by rw [hg]; show (FF.testBit _ && _) = true; rw [hb, hu]; rfl
      refine ⟨fun q => absurd rfl q, fun _ => ?_⟩
      unfold fg_pce at H
      rw [if_pos hb2] at H
      unfold fg_pi at H
      rw [if_neg (by omega)] at H
      exact H
    · exact ⟨fun _ => no (by rw [hg]; show (FF.testBit _ && _) = false; rw [hb, hu]; rfl), fun q => absurd q (by decide)⟩
theorem l_MO_goesUp {σ : fg_St} (hz : fg_Zok z) (hM : fg_ShM σ z) (he : e < fg_zs z) (hFF : FF < 1024) (hFS : FS < 16) (H : ∀ u, fg_sm fg_pR σ u → ((fg_tk z e (FF, FS) (fg_zl z e)).isSome = true → ∀ q, q < 4 → fg_R u 196 q = if q < fg_zl z e then nI (fg_rw z e (FF, FS) q) else -1) → fg_rok z (fg_R u 196) → Q (fg_b (fg_tk z e (FF, FS) (fg_zl z e)).isSome) u) : ∀ m i (τ : fg_St) (t : Nat × Nat), i + m = fg_zl z e → fg_tk z e (FF, FS) i = some t → fg_sm fg_pR σ τ → fg_lft (FF, FS) t (fg_R τ 196) i → (∀ q, q < 4 → fg_R τ 196 q = if q < i then nI (fg_rw z e (FF, FS) q) else -1) → fg_Run (d + 2) 134 26 [some (.ref 187), some (.int (nI e)), some (.int (nI FF)), some (.int (nI FS)), some (.int (nI i))] [] τ Q := by
  have hl := hz.2.1 e he
  have hs := hz.1.2.2.2
  have hf := hz.1.2.2.1
  intro m
  induction m with
  | zero =>
    intro i τ t hi ht hsm hU hr
    have hi : i = fg_zl z e := by omega
    subst hi
    have hM' := hM.sm hsm (by decide) (by decide) (by decide)
    refine b_MO_goesUp_26 ⟨vp_in_nI (by omega) (by decide), ?_⟩
    rw [nI_clamp (by omega), hM'.2.1 e he]
    refine ⟨fun _ => ?_, fun q => absurd (nI_le (Nat.le_refl _) (by omega)) q⟩
    have := H τ hsm (fun _ => hr) (fg_rok_of hz he (Nat.le_refl _) ht hr)
    rw [ht] at this
    exact this
  | succ m ih =>
    intro i τ t hi ht hsm hU hr
    have hM' := hM.sm hsm (by decide) (by decide) (by decide)
    refine b_MO_goesUp_26 ⟨vp_in_nI (by omega) (by decide), ?_⟩
    rw [nI_clamp (by omega), hM'.2.1 e he]
    refine ⟨fun q => absurd q (nI_ge (by omega) (by omega)), fun _ => ?_⟩
    refine fg_use (r_MO_itemFor hz hM' he (by omega) hFF hFS hU ?_)
    have hrw : fg_rw z e (FF, FS) i = fg_pce z e t.1 t.2 i := by unfold fg_rw; rw [ht]
    have hin := fg_pce_in hz (FF := t.1) (FS := t.2) he (show i < fg_zl z e by omega)
    have hbd := fg_tk_bd i t ht
    generalize hp : fg_pce z e t.1 t.2 i = p at hin hrw
    rw [nI_clamp (by omega), nI_1]
    refine ⟨vp_in_nI (by omega) (by decide), vp_in_nI (by omega) (by decide), ?_⟩
    rw [show fg_R (fg_sR τ 196 i (fg_pi p)) 196 i = fg_pi p by rw [fg_R_sR, if_pos ⟨rfl, rfl⟩]]
    have hsm2 : ∀ x, fg_sm fg_pR σ (fg_sR τ 196 i x) := fun x => hsm.tr (fg_sm_R (by decide))
    by_cases h99 : p = 99
    · subst h99
      have hnone : fg_tk z e (FF, FS) (fg_zl z e) = none := by
        refine fg_tk_none (i := i + 1) ?_ _ (by omega)
        rw [fg_tk, ht]
        simp [hp]
      refine ⟨fun q => absurd (by rfl) q, fun _ => ?_⟩
      have := H _ (hsm2 (fg_pi 99)) (fun q => by rw [hnone] at q; cases q) (fg_rok_of hz he (show i ≤ fg_zl z e by omega) ht (fun c hc => by
        rw [fg_R_sR]
        by_cases h1 : c = i
        · rw [if_pos ⟨rfl, h1⟩, if_neg (by omega)]
          rfl
        · rw [if_neg (fun z => h1 z.2), hr c hc]))
      rw [hnone] at this
      exact this
    · have hpi : fg_pi p = nI p := if_neg h99
      rw [hpi]
      have hpb : p ≤ 24 := by omega
      refine ⟨fun _ => ?_, fun q => absurd q (fg_nm1 (by omega))⟩
      have hrow : ∀ c, c < 4 → fg_R (fg_sR τ 196 i (nI p)) 196 c = if c < i + 1 then nI (fg_rw z e (FF, FS) c) else -1 := by
        intro c hc
        rw [fg_R_sR]
        by_cases h1 : c = i
        · rw [if_pos ⟨rfl, h1⟩, if_pos (by omega), h1, hrw]
        · rw [if_neg (fun z => h1 z.2), hr c hc]
          by_cases h2 : c < i
          · rw [if_pos h2, if_pos (by omega)]
          · rw [if_neg h2, if_neg (by omega)]
      have hus : ∀ v, fg_usd (fg_R (fg_sR τ 196 i (nI p)) 196) v (i + 1) = (fg_usd (fg_R τ 196) v i || decide (nI p = v)) := by
        intro v
        rw [fg_usd, fg_usd_congr (r := fg_R (fg_sR τ 196 i (nI p)) 196) (r' := fg_R τ 196) i (fun c hc => by rw [fg_R_sR, if_neg (by omega)])]
        rw [show fg_R (fg_sR τ 196 i (nI p)) 196 i = nI p by rw [fg_R_sR, if_pos ⟨rfl, rfl⟩]]
      have e1 : t.1 < 2 ^ 32 := by have := hbd.1; simp only at this; omega
      have e2 : t.2 < 2 ^ 32 := by have := hbd.2; simp only at this; omega
      by_cases hp20 : p < 20
      · refine ih (i + 1) _ (fg_wo t.1 (2 ^ p), t.2) (by omega) ?_ (hsm2 _) ⟨fun g hg => ?_, fun k h1 h3 => ?_⟩ hrow
        · rw [fg_tk, ht]
          simp only [hp]
          rw [if_neg h99, if_pos hp20]
        · rw [hus]
          show (fg_wo t.1 (2 ^ p)).testBit g = _
          rw [fg_wo_bit e1, hU.1 g hg, Nat.testBit_two_pow]
          have : decide (nI p = nI g) = decide (p = g) := by simp only [nI_eq (show p < 2 ^ 31 by omega) (show g < 2 ^ 31 by omega)]
          rw [this]
          cases (FF, FS).1.testBit g <;> cases fg_usd (fg_R τ 196) (nI g) i <;> simp
        · rw [hus]
          show t.2.testBit k = _
          rw [hU.2 k h1 h3, decide_eq_false (fun q => by have := (nI_eq (by omega) (by omega)).mp q; omega)]
          simp
      · refine ih (i + 1) _ (t.1, fg_wo t.2 (2 ^ (p - 20))) (by omega) ?_ (hsm2 _) ⟨fun g hg => ?_, fun k h1 h3 => ?_⟩ hrow
        · rw [fg_tk, ht]
          simp only [hp]
          rw [if_neg h99, if_neg hp20]
        · rw [hus]
          show t.1.testBit g = _
          rw [hU.1 g hg, decide_eq_false (fun q => by have := (nI_eq (by omega) (by omega)).mp q; omega)]
          simp
        · rw [hus]
          show (fg_wo t.2 (2 ^ (p - 20))).testBit k = _
          rw [fg_wo_bit e2, hU.2 k h1 h3, Nat.testBit_two_pow]
          have : decide (nI p = nI (20 + k)) = decide (p - 20 = k) := by
            simp only [nI_eq (show p < 2 ^ 31 by omega) (show 20 + k < 2 ^ 31 by omega)]
            congr 1
            apply propext
            omega
          rw [this]
          cases (FF, FS).2.testBit k <;> cases fg_usd (fg_R τ 196) (nI (20 + k)) i <;> simp
theorem l_MO_goesUp0 {y1 y2 y3 : Int32} : ∀ m i (σ : fg_St), i + m = 4 → (∀ u, fg_sm fg_pR σ u → (∀ t, t < 4 → fg_R u 196 t = if t < i then fg_R σ 196 t else -1) → fg_Run (d + 1) 134 26 [some (.ref 187), some (.int y1), some (.int y2), some (.int y3), some (.int 0)] [] u Q) → fg_Run (d + 1) 134 3 [some (.ref 187), some (.int y1), some (.int y2), some (.int y3), some (.int (nI i))] [] σ Q := by
  intro m
  induction m with
  | zero =>
    intro i σ hi H
    have hi : i = 4 := by omega
    subst hi
    exact b_MO_goesUp_3 ⟨fun _ => H σ fg_sm.rfl' (fun t ht => by rw [if_pos ht]), fun q => absurd (nI_le (a := 4) (b := 4) (by decide) (by decide)) q⟩
  | succ m ih =>
    intro i σ hi H
    refine b_MO_goesUp_3 ⟨fun q => absurd q (nI_ge (b := 4) (by omega) (by decide)), fun _ => ⟨vp_in_nI (by omega) (by decide), ?_⟩⟩
    rw [nI_clamp (by omega), nI_1]
    refine ih (i + 1) _ (by omega) (fun u hu hr => H u ((fg_sm_R (by decide)).tr hu) (fun t ht => ?_))
    rw [hr t ht, fg_R_sR]
    by_cases h1 : t < i
    · rw [if_pos (by omega), if_pos h1, if_neg (by omega)]
    · by_cases h2 : t = i
      · rw [if_pos (by omega), if_neg h1, if_pos ⟨rfl, h2⟩]
      · rw [if_neg (by omega), if_neg h1]
/-- goesUp: as take -/
theorem r_MO_goesUp {σ : fg_St} (hz : fg_Zok z) (hM : fg_ShM σ z) (he : e < fg_zs z) (hFF : FF < 1024) (hFS : FS < 16) (H : ∀ u, fg_sm fg_pR σ u → ((fg_tk z e (FF, FS) (fg_zl z e)).isSome = true → ∀ q, q < 4 → fg_R u 196 q = if q < fg_zl z e then nI (fg_rw z e (FF, FS) q) else -1) → fg_rok z (fg_R u 196) → Q (fg_b (fg_tk z e (FF, FS) (fg_zl z e)).isSome) u) : fg_Run (d + 2) 134 0 [some (.ref 187), some (.int (nI e)), some (.int (nI FF)), some (.int (nI FS)), none] [] σ Q := by
  refine b_MO_goesUp_0 (l_MO_goesUp0 4 0 σ rfl (fun u hu hr => ?_))
  refine l_MO_goesUp hz hM he hFF hFS H (fg_zl z e) 0 u (FF, FS) (by omega) rfl hu ⟨fun g _ => ?_, fun k _ _ => ?_⟩ (fun q hq => by rw [hr q hq, if_neg (by omega), if_neg (by omega)])
  · simp [fg_usd]
  · simp [fg_usd]
end
