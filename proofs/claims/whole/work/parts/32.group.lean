/-! GROUPS THAT FLY: the class's rota, the most together -/
def fg_wi (z : fg_Z) (T S g : Nat) : Bool := (fg_wo g S == 0) && fg_flb z T g
theorem fg_bb (x : Bool) : (fg_b x = 0 ↔ x = false) := by cases x <;> decide
/-- the greatest group of those p holds of, the least number of them -/
def fg_mtg (p : Nat → Bool) : Nat → Nat
  | 0 => 0
  | g + 1 => if p g && decide (fg_cnt (fg_mtg p g) 10 < fg_cnt g 10) then g else fg_mtg p g
theorem fg_mtg_lt (p : Nat → Bool) : ∀ n, fg_mtg p n ≤ n := by
  intro n
  induction n with
  | zero => exact Nat.le_refl _
  | succ n ih =>
    rw [fg_mtg]
    split <;> omega
theorem fg_mtg_ext {p q : Nat → Bool} : ∀ n, (∀ i, i < n → p i = q i) → fg_mtg p n = fg_mtg q n := by
  intro n
  induction n with
  | zero => intro _; rfl
  | succ n ih => intro h; rw [fg_mtg, fg_mtg, ih (fun i hi => h i (by omega)), h n (by omega)]
theorem fg_mtg_off {p : Nat → Bool} {n : Nat} : ∀ m, (∀ i, n ≤ i → i < n + m → p i = false) → fg_mtg p (n + m) = fg_mtg p n := by
  intro m
  induction m with
  | zero => intro _; rfl
  | succ m ih =>
    intro h
    rw [← Nat.add_assoc, fg_mtg, ih (fun i h1 h2 => h i h1 (by omega)), h (n + m) (by omega) (by omega)]
    simp
section
variable {d : Nat} {Q : Int32 → fg_St → Prop} {z : fg_Z} {w : Nat → Int32}
theorem l_FS_groupWithin {σ : fg_St} {S : Nat} (hX : fg_XI σ z w) (hS : S < 1024) (H : ∀ u, fg_sm fg_pX σ u → (∀ g, g < 1024 → fg_R u 38 g = fg_b (fg_wi z (fg_tn z w) S g)) → Q 0 u) : ∀ m i (τ : fg_St), i + m = 1024 → fg_sm fg_pX σ τ → (∀ g, g < i → fg_R τ 38 g = fg_b (fg_wi z (fg_tn z w) S g)) → fg_Run (d + 4) 99 2 [some (.ref 0), some (.int (nI S)), some (.int (nI i))] [] τ Q := by
  intro m
  induction m with
  | zero =>
    intro i τ hi hsm hr
    have hi : i = 1024 := by omega
    subst hi
    exact b_FS_groupWithin_2 ⟨fun _ => H τ hsm hr, fun q => absurd (nI_le (a := 1024) (b := 1024) (by decide) (by decide)) q⟩
  | succ m ih =>
    intro i τ hi hsm hr
    have hX' := hX.sm hsm
    refine b_FS_groupWithin_2 ⟨fun q => absurd q (nI_ge (b := 1024) (by omega) (by decide)), fun _ => ?_⟩
    have hle := fg_wo_le i S
    rw [fg_andn, fg_nI0 (by omega), nI_clamp (by omega), nI_1]
    have go : ∀ (u : fg_St) (x : Int32), fg_sm fg_pX τ u → (∀ g, g < i → fg_R u 38 g = fg_R τ 38 g) → x = fg_b (fg_wi z (fg_tn z w) S i) → vp_in (nI i) 1024 ∧ fg_Run (d + 4) 99 2 [some (.ref 0), some (.int (nI S)), some (.int (nI (i + 1)))] [] (fg_sR u 38 i x) Q := by
      intro u x hsu hu hx
      refine ⟨vp_in_nI (by omega) (by decide), ih (i + 1) _ (by omega) (hsm.tr (hsu.tr (fg_sm_R (by decide)))) (fun g hg => ?_)⟩
      rw [fg_R_sR]
      by_cases e : g = i
      · rw [if_pos ⟨rfl, e⟩, e, hx]
      · rw [if_neg (fun q => e q.2), hu g (by omega), hr g (by omega)]
    refine ⟨fun q => go τ 0 fg_sm.rfl' (fun _ _ => rfl) ?_, fun q => fg_use ?_⟩
    · unfold fg_wi
      rw [show (fg_wo i S == 0) = false by simpa using q]
      rfl
    · have hfl : fg_wi z (fg_tn z w) S i = fg_flb z (fg_tn z w) i := by
        unfold fg_wi
        rw [show (fg_wo i S == 0) = true by simpa using q]
        rfl
      -- flyTogether leaves the row of groups as it is
      refine r_FS_flyTogether hX' (by omega) (fun u hsu => ?_)
      have hu := (hsu.2 38 (by decide)).2
      cases hb : fg_flb z (fg_tn z w) i
      · exact ⟨fun _ => go u 0 (hsu.wk fg_pLX) (fun g _ => hu g) (by rw [hfl, hb]; rfl), fun q => absurd rfl q⟩
      · exact ⟨fun q => absurd q (by decide), fun _ => go u 1 (hsu.wk fg_pLX) (fun g _ => hu g) (by rw [hfl, hb]; rfl)⟩
theorem r_FS_groupWithin {σ : fg_St} {S : Nat} (hX : fg_XI σ z w) (hS : S < 1024) (H : ∀ u, fg_sm fg_pX σ u → (∀ g, g < 1024 → fg_R u 38 g = fg_b (fg_wi z (fg_tn z w) S g)) → Q 0 u) : fg_Run (d + 4) 99 0 [some (.ref 0), some (.int (nI S)), none] [] σ Q :=
  b_FS_groupWithin_0 (l_FS_groupWithin hX hS H 1024 0 σ rfl fg_sm.rfl' (fun g hg => absurd hg (by omega)))
theorem l_RO_largestGroup {σ : fg_St} {p : Nat → Bool} (hp : ∀ g, g < 1024 → fg_R σ 38 g = fg_b (p g)) (H : Q (nI (fg_mtg p 1024)) σ) : ∀ m i, i + m = 1024 → fg_Run (d + 1) 25 4 [some (.ref 37), some (.int (nI (fg_mtg p i))), some (.int (nI i))] [] σ Q := by
  intro m
  induction m with
  | zero =>
    intro i hi
    have hi : i = 1024 := by omega
    subst hi
    exact b_RO_largestGroup_4 ⟨fun _ => H, fun q => absurd (nI_le (a := 1024) (b := 1024) (by decide) (by decide)) q⟩
  | succ m ih =>
    intro i hi
    have ih := ih (i + 1) (by omega)
    have hl := fg_mtg_lt p i
    have c1 := fg_cnt_le i 10
    have c2 := fg_cnt_le (fg_mtg p i) 10
    refine b_RO_largestGroup_4 ⟨fun q => absurd q (nI_ge (b := 1024) (by omega) (by decide)), fun _ => ⟨vp_in_nI (by omega) (by decide), ?_⟩⟩
    rw [nI_clamp (by omega), nI_1, hp i (by omega)]
    rw [fg_mtg] at ih
    cases hb : p i
    · rw [hb] at ih
      exact ⟨fun _ => ih, fun q => absurd rfl q⟩
    · rw [hb, Bool.true_and] at ih
      refine ⟨fun q => absurd q (by decide), fun _ => fg_use (r_JI_bitCount (by omega) (fg_use (r_JI_bitCount (by omega) ?_)))⟩
      rw [nI_leI (by omega) (by omega)]
      refine ⟨fun q => ?_, fun q => ?_⟩
      · rw [if_neg (by rw [decide_eq_true_eq]; omega)] at ih
        exact ih
      · rw [if_pos (by rw [decide_eq_true_eq]; omega)] at ih
        exact ih
theorem fg_mtg_1 (p : Nat → Bool) : fg_mtg p 1 = 0 := by
  rw [fg_mtg]
  split <;> rfl
theorem r_RO_largestGroup {σ : fg_St} {p : Nat → Bool} (hp : ∀ g, g < 1024 → fg_R σ 38 g = fg_b (p g)) (H : Q (nI (fg_mtg p 1024)) σ) : fg_Run (d + 1) 25 0 [some (.ref 37), none, none] [] σ Q := by
  refine b_RO_largestGroup_0 ?_
  have := l_RO_largestGroup (d := d) hp H 1023 1 rfl
  rw [fg_mtg_1] at this
  exact this
theorem fg_wi_all (hz : fg_Zok z) {T : Nat} : fg_mtg (fg_wi z T (2 ^ fg_zs z - 1)) 1024 = fg_mtg (fg_flb z T) (2 ^ fg_zs z) := by
  have hp := fg_p10 hz.1.2.2.2
  have h1 := fg_mtg_off (p := fg_wi z T (2 ^ fg_zs z - 1)) (n := 2 ^ fg_zs z) (1024 - 2 ^ fg_zs z) (fun i a b => by
    unfold fg_wi
    have : ¬ fg_wo i (2 ^ fg_zs z - 1) = 0 := by
      rw [fg_wo_0 (by omega)]
      omega
    rw [show (fg_wo i (2 ^ fg_zs z - 1) == 0) = false by simpa using this]
    rfl)
  rw [show 2 ^ fg_zs z + (1024 - 2 ^ fg_zs z) = 1024 by omega] at h1
  rw [h1]
  refine fg_mtg_ext _ (fun i hi => ?_)
  unfold fg_wi
  have : fg_wo i (2 ^ fg_zs z - 1) = 0 := by
    rw [fg_wo_0 (by omega)]
    exact hi
  rw [this]
  rfl
theorem r_FS_mostTogether {σ : fg_St} (hX : fg_XI σ z w) (H : ∀ u, fg_sm fg_pX σ u → Q (nI (fg_mtg (fg_flb z (fg_tn z w)) (2 ^ fg_zs z))) u) : fg_Run (d + 5) 100 0 [some (.ref 0)] [] σ Q := by
  obtain ⟨h1, h2, h3, h4, h5⟩ := id hX
  have hp := fg_p10 h2.1.2.2.2
  have h1p : 1 ≤ 2 ^ fg_zs z := Nat.one_le_two_pow
  refine b_FS_mostTogether_0 ⟨fg_kd6 h1, fg_use (r_SH_allSignals h1 h2 h3 (fg_use (r_FS_groupWithin hX (by omega) (fun u hsu hu => fg_use (r_RO_largestGroup hu ?_)))))⟩
  rw [fg_wi_all h2]
  exact H u hsu
theorem l_MO_mostTogether {σ : fg_St} (hM : fg_MI σ z) (H : ∀ u, fg_sm fg_pM σ u → Q (nI (fg_mtg (fg_flb z (fg_tn z (fg_R σ 191))) (2 ^ fg_zs z))) u) : ∀ m i (τ : fg_St), i + m = 2 ^ fg_zs z → fg_sm fg_pM σ τ → fg_Run (d + 4) 150 4 [some (.ref 187), some (.int (nI (fg_mtg (fg_flb z (fg_tn z (fg_R σ 191))) i))), some (.int (nI i))] [] τ Q := by
  have hs := hM.1.1.2.2.2
  have hp := fg_p10 hs
  intro m
  induction m with
  | zero =>
    intro i τ hi hsm
    have hi : i = 2 ^ fg_zs z := by omega
    subst hi
    have hM' := hM.sm hsm
    refine b_MO_mostTogether_4 ⟨fun _ => H τ hsm, fun q => absurd ?_ q⟩
    rw [hM'.2.1.1.2.2.2, fg_shl1 (by omega)]
    exact nI_le (Nat.le_refl _) (by omega)
  | succ m ih =>
    intro i τ hi hsm
    have hM' := hM.sm hsm
    have e191 : fg_R τ 191 = fg_R σ 191 := funext (hsm.2 191 (by decide)).2
    have hl := fg_mtg_lt (fg_flb z (fg_tn z (fg_R σ 191))) i
    have c1 := fg_cnt_le i 10
    have c2 := fg_cnt_le (fg_mtg (fg_flb z (fg_tn z (fg_R σ 191))) i) 10
    refine b_MO_mostTogether_4 ⟨fun q => absurd q (by rw [hM'.2.1.1.2.2.2, fg_shl1 (by omega)]; exact nI_ge (by omega) (by omega)), fun _ => fg_use (r_MO_bits (by omega) (fg_use (r_MO_bits (by omega) ?_)))⟩
    rw [nI_leI (by omega) (by omega), nI_1]
    have hst : fg_mtg (fg_flb z (fg_tn z (fg_R σ 191))) (i + 1) = if fg_flb z (fg_tn z (fg_R σ 191)) i && decide (fg_cnt (fg_mtg (fg_flb z (fg_tn z (fg_R σ 191))) i) 10 < fg_cnt i 10) then i else fg_mtg (fg_flb z (fg_tn z (fg_R σ 191))) i := rfl
    refine ⟨fun q => ?_, fun q => fg_use (r_MO_fly hM' (by omega) (fun u hsu => ?_))⟩
    · have ih := ih (i + 1) τ (by omega) hsm
      rw [hst, decide_eq_false (by omega), Bool.and_false, if_neg (by decide)] at ih
      exact ih
    · have ih := ih (i + 1) u (by omega) (hsm.tr (hsu.wk fg_pRM))
      rw [hst, decide_eq_true (by omega), Bool.and_true] at ih
      rw [e191]
      cases hb : fg_flb z (fg_tn z (fg_R σ 191)) i
      · rw [hb] at ih
        exact ⟨fun _ => ih, fun q => absurd rfl q⟩
      · rw [hb] at ih
        exact ⟨fun q => absurd q (by decide), fun _ => ih⟩
theorem r_MO_mostTogether {σ : fg_St} (hM : fg_MI σ z) (H : ∀ u, fg_sm fg_pM σ u → Q (nI (fg_mtg (fg_flb z (fg_tn z (fg_R σ 191))) (2 ^ fg_zs z))) u) : fg_Run (d + 4) 150 0 [some (.ref 187), none, none] [] σ Q :=
  b_MO_mostTogether_0 (l_MO_mostTogether hM H (2 ^ fg_zs z) 0 σ (by omega) fg_sm.rfl')
end
