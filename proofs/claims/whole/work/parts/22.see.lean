/-! HOW SIGNALS LOOK: see, sign, likeOf, clearOnes -/
/-- a flag's look out of the reference's row -/
def fg_lw (w : Nat → Int32) (hz wd g : Nat) : Nat := fg_lk ((w g).toNatClampNeg / 100) ((w g).toNatClampNeg / 10 % 10) ((w g).toNatClampNeg % 10) hz wd
theorem fg_lw_eq {w : Nat → Int32} {hz wd g k a b : Nat} (hk : k ≤ 3) (ha : a ≤ 4) (hb : b ≤ 4) (e : w g = nI (100 * k + 10 * a + b)) : fg_lw w hz wd g = fg_lk k a b hz wd := by
  unfold fg_lw
  rw [e, nI_clamp (by omega)]
  congr 1 <;> omega
theorem fg_col_le {c hz : Nat} (h : c ≤ 4) : fg_col c hz ≤ 4 := by
  unfold fg_col
  split
  · exact h
  · split
    · omega
    · split <;> omega
theorem fg_lk_lt {k a b hz wd : Nat} (hk : k ≤ 3) (ha : a ≤ 4) (hb : b ≤ 4) : fg_lk k a b hz wd < 200 := by
  unfold fg_lk
  have h1 := fg_col_le (hz := hz) ha
  have h2 := fg_col_le (hz := hz) hb
  split <;> omega
/-- alike -/
def fg_lke (z : fg_Z) (s : Nat × Nat) (lf : Nat → Nat) (e u : Nat) : Bool := fg_upb z s e && (fg_upb z s u && fg_sg z s lf u == fg_sg z s lf e)
def fg_clr (z : fg_Z) (s : Nat × Nat) (lf : Nat → Nat) (e : Nat) : Bool := fg_upb z s e && decide (∀ u, u < fg_zs z → u ≠ e → fg_lke z s lf e u = false)
def fg_pS (g : Nat) : Bool := g == 35 || g == 36
theorem fg_shpS {h : Nat} (Sh : h = 3 ∨ h = 9) : fg_pS h = false ∧ fg_pS (h + 4) = false ∧ fg_pS (h + 5) = false := by rcases Sh with rfl | rfl <;> decide
section
variable {d : Nat} {Q : Int32 → fg_St → Prop} {h : Nat} {z : fg_Z} {s : Nat × Nat} {lf : Nat → Nat}
theorem fg_any_col {σ : fg_St} {a0 a1 : Int32} (H : ∀ x, Q x σ) : fg_Run d 109 0 [some (.int a0), some (.int a1)] [] σ Q := b_FS_seenColour_0 ⟨fun _ => ⟨fun _ => ⟨fun _ => H _, fun _ => H _⟩, fun _ => H _⟩, fun _ => H _⟩
theorem fg_any_pat {σ : fg_St} {a0 a1 a2 a3 a4 : Int32} (H : ∀ x, Q x σ) : fg_Run (d + 1) 108 0 [some (.int a0), some (.int a1), some (.int a2), some (.int a3), some (.int a4), none, none, none] [] σ Q := by
  refine b_FS_seenPattern_0 ⟨fun _ => fg_use (fg_any_col fun _ => fg_use (fg_any_col fun _ => H _)), fun _ => ⟨fun _ => ⟨fun _ => fg_use (fg_any_col fun _ => fg_use (fg_any_col fun _ => H _)), fun _ => fg_use (fg_any_col fun _ => fg_use (fg_any_col fun _ => H _))⟩, fun _ => ⟨fun _ => fg_use (fg_any_col fun _ => fg_use (fg_any_col fun _ => H _)), fun _ => fg_use (fg_any_col fun _ => fg_use (fg_any_col fun _ => H _))⟩⟩⟩
theorem fg_any_lookIn {σ : fg_St} {g : Nat} {a1 a2 : Int32} (hg : g < 10) (H : ∀ x, Q x σ) : fg_Run (d + 2) 5 0 [some (.ref 15), some (.int (nI g)), some (.int a1), some (.int a2)] [] σ Q := by
  refine b_DK_lookIn_0 ⟨fun _ => H _, fun _ => ⟨fun _ => ?_, fun _ => H _⟩⟩
  exact ⟨vp_in_nI hg (by decide), vp_in_nI hg (by decide), vp_in_nI hg (by decide), fg_use (fg_any_pat fun _ => H _)⟩
theorem r_WA_lookOfPiece {σ : fg_St} {p : Nat} (hp : p = 99 ∨ p < 10 ∨ (21 ≤ p ∧ p ≤ 24)) (hl : p < 10 → fg_R σ 35 p = nI (lf p)) (H : Q (nI (if p = 99 then 255 else if p < 20 then lf p else 180 + p)) σ) : fg_Run d 57 0 [some (.ref 33), some (.int (fg_pi p))] [] σ Q := by
  refine b_WA_lookOfPiece_0 ?_
  by_cases h99 : p = 99
  · rw [if_pos h99] at H
    have : fg_pi p = -1 := if_pos h99
    rw [this]
    exact ⟨fun _ => ⟨fun _ => H, fun q => absurd (by decide) q⟩, fun q => absurd (by decide) q⟩
  · have : fg_pi p = nI p := if_neg h99
    rw [if_neg h99] at H
    rw [this]
    refine ⟨fun q => ?_, fun q => ?_⟩
    · have q : p ≤ 20 := (nI_leI (b := 20) (by omega) (by decide)).mp q
      rw [if_pos (by omega)] at H
      refine ⟨fun q => absurd q (nI_pos (by omega)), fun _ => ⟨fun q => absurd q (nI_ge (b := 10) (by omega) (by decide)), fun _ => ⟨vp_in_nI (by omega) (by decide), ?_⟩⟩⟩
      rw [nI_clamp (by omega), hl (by omega)]
      exact H
    · have q : ¬ p ≤ 20 := fun z => q ((nI_leI (b := 20) (by omega) (by decide)).mpr z)
      rw [if_neg (by omega)] at H
      rw [show (200 : Int32) + nI p - 20 = nI (180 + p) by
        rw [show (200 : Int32) = nI 200 from rfl, show (20 : Int32) = nI 20 from rfl, nI_add, pk_sub (by omega)]
        congr 1
        omega]
      exact H
theorem fg_pack {a b : Nat} (ha : a < 2 ^ 24) (hb : b ≤ 255) : (nI a <<< ((8 : Int32) &&& 31)) ||| nI b = nI (a * 256 + b) := by
  rw [pk_shlN (n := a) ((8 : Int32) &&& 31) 8 (by decide) (by omega), fg_or]
  congr 1
  have := Nat.two_pow_add_eq_or_of_lt (i := 8) (b := b) (by omega) a
  rw [show a * 2 ^ 8 = 2 ^ 8 * a by omega, ← this]
/-- the four looks of a signal, packed -/
theorem l_WA_sign1 {σ : fg_St} {S e : Nat} (Sh : h = 3 ∨ h = 9) (hz : fg_Zok z) (he : e < fg_zs z) (hlf : ∀ g, g < fg_zf z → lf g < 200) (hr : ∀ e j, e < fg_zs z → j < 4 → fg_R σ 34 (e * 4 + j) = fg_pi (fg_rx z s e j)) (hl : ∀ g, g < fg_zf z → fg_R σ 35 g = nI (lf g)) (H : fg_Run (d + 1) 56 2 [some (.ref 33), some (.ref h), some (.int (nI S)), some (.int (nI (e + 1))), none, none] [] (fg_sR σ 36 e (nI (fg_sg z s lf e))) Q) : fg_Run (d + 1) 56 30 [some (.ref 33), some (.ref h), some (.int (nI S)), some (.int (nI e)), some (.int 0), some (.int 0)] [] σ Q := by
  have hs := hz.1.2.2.2
  have hf := hz.1.2.2.1
  have hL := fun j => fg_Lx_le hz (s := s) hlf he j
  have hn : ∀ g, ¬ fg_zf z ≤ g → g < fg_zf z := fun g h => by omega
  have step : ∀ (a j : Nat), j < 4 → a < 2 ^ 24 → fg_Run (d + 1) 56 30 [some (.ref 33), some (.ref h), some (.int (nI S)), some (.int (nI e)), some (.int (nI (a * 256 + fg_Lx z s lf e j))), some (.int (nI (j + 1)))] [] σ Q → fg_Run (d + 1) 56 30 [some (.ref 33), some (.ref h), some (.int (nI S)), some (.int (nI e)), some (.int (nI a)), some (.int (nI j))] [] σ Q := by
    intro a j hj ha H
    refine b_WA_sign_30 Sh ⟨fun q => absurd q (nI_ge (b := 4) (by omega) (by decide)), fun _ => ?_⟩
    rw [fg_lit4, nI_clamp (by omega), nI_1, hr e j he hj]
    refine ⟨vp_in_nI (by omega) (by decide), fg_use (r_WA_lookOfPiece (lf := fun g => if g < fg_zf z then lf g else (fg_R σ 35 g).toBitVec.toNat) ?_ (fun hp => ?_) ?_)⟩
    · rcases fg_rx_in hz (s := s) he j with q | q | q
      · exact Or.inl q
      · exact Or.inr (Or.inl (by omega))
      · exact Or.inr (Or.inr q)
    · show fg_R σ 35 (fg_rx z s e j) = nI (if fg_rx z s e j < fg_zf z then lf (fg_rx z s e j) else (fg_R σ 35 (fg_rx z s e j)).toBitVec.toNat)
      split
      · rename_i hq
        exact hl _ hq
      · obtain ⟨n, hn, e⟩ := fg_of32 (fg_R σ 35 (fg_rx z s e j))
        rw [e, pk_tn hn]
    · have : (if fg_rx z s e j = 99 then 255 else if fg_rx z s e j < 20 then (if fg_rx z s e j < fg_zf z then lf (fg_rx z s e j) else (fg_R σ 35 (fg_rx z s e j)).toBitVec.toNat) else 180 + fg_rx z s e j) = fg_Lx z s lf e j := by
        unfold fg_Lx
        rcases fg_rx_in hz (s := s) he j with q | q | q
        · rw [if_pos q, if_pos q]
        · simp [show ¬ fg_rx z s e j = 99 by omega, show fg_rx z s e j < 20 by omega, q]
        · simp [show ¬ fg_rx z s e j = 99 by omega, show ¬ fg_rx z s e j < 20 by omega]
      simp only [this]
      rw [fg_pack ha (hL j)]
      exact H
  have h0 := hL 0
  have h1 := hL 1
  have h2 := hL 2
  have h3 := hL 3
  refine step 0 0 (by omega) (by omega) (step _ 1 (by omega) (by omega) (step _ 2 (by omega) (by omega) (step _ 3 (by omega) (by omega) ?_)))
  refine b_WA_sign_30 Sh ⟨fun _ => ?_, fun q => absurd (nI_le (a := 4) (b := 4) (by decide) (by decide)) q⟩
  rw [nI_clamp (by omega), nI_1]
  refine ⟨vp_in_nI (by omega) (by decide), ?_⟩
  have : (((0 * 256 + fg_Lx z s lf e 0) * 256 + fg_Lx z s lf e 1) * 256 + fg_Lx z s lf e 2) * 256 + fg_Lx z s lf e 3 = fg_sg z s lf e := by
    unfold fg_sg
    omega
  rw [this]
  exact H
theorem l_WA_sign {σ : fg_St} {S : Nat} (Sh : h = 3 ∨ h = 9) (hz : fg_Zok z) (hX : fg_ShX σ h z) (hS : S < 1024) (hlf : ∀ g, g < fg_zf z → lf g < 200) (hr : ∀ e j, e < fg_zs z → j < 4 → fg_R σ 34 (e * 4 + j) = fg_pi (fg_rx z s e j)) (hl : ∀ g, g < fg_zf z → fg_R σ 35 g = nI (lf g)) (H : ∀ u, fg_sm (fun g => g == 36) σ u → (∀ e, e < fg_zs z → fg_R u 36 e = if S.testBit e then nI (fg_sg z s lf e) else fg_R σ 36 e) → Q 0 u) : ∀ m i (τ : fg_St), i + m = fg_zs z → fg_sm (fun g => g == 36) σ τ → (∀ e, e < fg_zs z → fg_R τ 36 e = if e < i ∧ S.testBit e = true then nI (fg_sg z s lf e) else fg_R σ 36 e) → fg_Run (d + 1) 56 2 [some (.ref 33), some (.ref h), some (.int (nI S)), some (.int (nI i)), none, none] [] τ Q := by
  have hs := hz.1.2.2.2
  have sp : (fun g => g == 36) h = false ∧ (fun g => g == 36) (h + 4) = false ∧ (fun g => g == 36) (h + 5) = false := by rcases Sh with rfl | rfl <;> decide
  intro m
  induction m with
  | zero =>
    intro i τ hi hsm hq
    have hi : i = fg_zs z := by omega
    subst hi
    have hX' := hX.sm hsm sp.1 sp.2.1 sp.2.2
    refine b_WA_sign_2 Sh ⟨fun _ => H τ hsm (fun e he => ?_), fun q => absurd ?_ q⟩
    · rw [hq e he]
      by_cases hb : S.testBit e = true
      · rw [if_pos ⟨he, hb⟩, if_pos hb]
      · rw [if_neg (fun q => hb q.2), if_neg hb]
    · rw [hX'.1.2.2.2]
      exact nI_le (Nat.le_refl _) (by omega)
  | succ m ih =>
    intro i τ hi hsm hq
    have hX' := hX.sm hsm sp.1 sp.2.1 sp.2.2
    refine b_WA_sign_2 Sh ⟨fun q => absurd q (by rw [hX'.1.2.2.2]; exact nI_ge (by omega) (by omega)), fun _ => ⟨fun q => absurd q (nI_ge (b := 10) (by omega) (by decide)), fun _ => fg_use (r_FS_has (by omega) (by omega) ?_)⟩⟩
    cases hb : S.testBit i
    · refine ⟨fun _ => ?_, fun q => absurd rfl q⟩
      rw [nI_1]
      refine ih (i + 1) τ (by omega) hsm (fun e he => ?_)
      rw [hq e he]
      by_cases h1 : e < i ∧ S.testBit e = true
      · rw [if_pos h1, if_pos ⟨by omega, h1.2⟩]
      · rw [if_neg h1, if_neg]
        intro q
        by_cases e1 : e = i
        · rw [e1, hb] at q
          cases q.2
        · exact h1 ⟨by omega, q.2⟩
    · refine ⟨fun q => absurd q (by decide), fun _ => ?_⟩
      refine l_WA_sign1 Sh hz (show i < fg_zs z by omega) hlf (fun e j he hj => ((hsm.2 34 (by decide)).2 _).trans (hr e j he hj)) (fun g hg => ((hsm.2 35 (by decide)).2 _).trans (hl g hg)) ?_
      refine ih (i + 1) _ (by omega) (hsm.tr (fg_sm_R (by decide))) (fun e he => ?_)
      rw [fg_R_sR]
      by_cases e1 : e = i
      · rw [if_pos ⟨rfl, e1⟩, e1, if_pos ⟨by omega, hb⟩]
      · rw [if_neg (fun q => e1 q.2), hq e he]
        by_cases h1 : e < i ∧ S.testBit e = true
        · rw [if_pos h1, if_pos ⟨by omega, h1.2⟩]
        · rw [if_neg h1, if_neg (fun q => h1 ⟨by omega, q.2⟩)]
theorem r_WA_sign {σ : fg_St} {S : Nat} (Sh : h = 3 ∨ h = 9) (hz : fg_Zok z) (hX : fg_ShX σ h z) (hS : S < 1024) (hlf : ∀ g, g < fg_zf z → lf g < 200) (hr : ∀ e j, e < fg_zs z → j < 4 → fg_R σ 34 (e * 4 + j) = fg_pi (fg_rx z s e j)) (hl : ∀ g, g < fg_zf z → fg_R σ 35 g = nI (lf g)) (H : ∀ u, fg_sm (fun g => g == 36) σ u → (∀ e, e < fg_zs z → fg_R u 36 e = if S.testBit e then nI (fg_sg z s lf e) else fg_R σ 36 e) → Q 0 u) : fg_Run (d + 1) 56 0 [some (.ref 33), some (.ref h), some (.int (nI S)), none, none, none] [] σ Q :=
  b_WA_sign_0 Sh (l_WA_sign Sh hz hX hS hlf hr hl H (fg_zs z) 0 σ (by omega) fg_sm.rfl' (fun e _ => by rw [if_neg (by omega)]))
end
