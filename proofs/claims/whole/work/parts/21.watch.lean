/-! HOW SIGNALS LOOK: the class's watch -/
def fg_upb (z : fg_Z) (s : Nat × Nat) (e : Nat) : Bool := (fg_tk z e s (fg_zl z e)).isSome
/-- what stands at place j if the signal can go up; 99: nothing -/
def fg_rx (z : fg_Z) (s : Nat × Nat) (e j : Nat) : Nat := if fg_upb z s e && decide (j < fg_zl z e) then fg_rw z e s j else 99
def fg_Lx (z : fg_Z) (s : Nat × Nat) (lf : Nat → Nat) (e j : Nat) : Nat := if fg_rx z s e j = 99 then 255 else if fg_rx z s e j < 20 then lf (fg_rx z s e j) else 180 + fg_rx z s e j
def fg_sg (z : fg_Z) (s : Nat × Nat) (lf : Nat → Nat) (e : Nat) : Nat := ((fg_Lx z s lf e 0 * 256 + fg_Lx z s lf e 1) * 256 + fg_Lx z s lf e 2) * 256 + fg_Lx z s lf e 3
theorem fg_rx_in {z : fg_Z} (hz : fg_Zok z) {e : Nat} {s : Nat × Nat} (he : e < fg_zs z) (j : Nat) : fg_rx z s e j = 99 ∨ fg_rx z s e j < fg_zf z ∨ (21 ≤ fg_rx z s e j ∧ fg_rx z s e j ≤ 24) := by
  have hl := hz.2.1 e he
  unfold fg_rx
  split
  · rename_i h
    simp only [Bool.and_eq_true, decide_eq_true_eq] at h
    rcases fg_rw_in hz he (Nat.le_refl _) h.1 h.2 with q | q
    · exact Or.inr (Or.inl q)
    · exact Or.inr (Or.inr (by omega))
  · exact Or.inl rfl
theorem fg_Lx_le {z : fg_Z} (hz : fg_Zok z) {s : Nat × Nat} {lf : Nat → Nat} (hlf : ∀ g, g < fg_zf z → lf g < 200) {e : Nat} (he : e < fg_zs z) (j : Nat) : fg_Lx z s lf e j ≤ 255 := by
  unfold fg_Lx
  have hf := hz.1.2.2.1
  rcases fg_rx_in hz (s := s) he j with h | h | h
  · rw [if_pos h]; omega
  · rw [if_neg (by omega), if_pos (by omega)]
    have := hlf _ h
    omega
  · rw [if_neg (by omega), if_neg (by omega)]; omega
theorem fg_tkp_row {z : fg_Z} (hz : fg_Zok z) {e : Nat} {s : Nat × Nat} (he : e < fg_zs z) {u : fg_St} (h : fg_tkp z e s u) : ∀ q, q < 4 → fg_R u 32 q = fg_pi (fg_rx z s e q) := by
  have hf := hz.1.2.2.1
  intro q hq
  unfold fg_tkp at h
  cases ht : fg_tk z e s (fg_zl z e) with
  | none =>
    rw [ht] at h
    rw [h.2.2 q hq]
    have : fg_rx z s e q = 99 := by
      unfold fg_rx fg_upb
      rw [ht]
      rfl
    rw [this]
    rfl
  | some t =>
    rw [ht] at h
    rw [h.2.2 q hq]
    have hu : (fg_tk z e s (fg_zl z e)).isSome = true := by rw [ht]; rfl
    by_cases hl : q < fg_zl z e
    · have : fg_rx z s e q = fg_rw z e s q := by
        unfold fg_rx fg_upb
        rw [hu]
        simp [hl]
      rw [this, if_pos hl]
      unfold fg_pi
      rw [if_neg]
      rcases fg_rw_in hz he (Nat.le_refl _) hu hl with h | h <;> omega
    · have : fg_rx z s e q = 99 := by
        unfold fg_rx fg_upb
        simp [hl]
      rw [this, if_neg hl]
      rfl
def fg_pW (g : Nat) : Bool := g == 31 || g == 32 || g == 33 || g == 34
theorem fg_pLW : ∀ g, fg_pW g = false → fg_pL g = false := by
  intro g h
  unfold fg_pW at h
  unfold fg_pL
  simp only [Bool.or_eq_false_iff] at h ⊢
  exact ⟨h.1.1.1, h.1.1.2⟩
theorem fg_shpW {h : Nat} (Sh : h = 3 ∨ h = 9) : fg_pW h = false ∧ fg_pW (h + 4) = false ∧ fg_pW (h + 5) = false := by rcases Sh with rfl | rfl <;> decide
section
variable {d : Nat} {Q : Int32 → fg_St → Prop} {h : Nat} {z : fg_Z} {T : Nat}
/-- what is free of what is not torn -/
def fg_s0 (z : fg_Z) (T : Nat) : Nat × Nat := (fg_wo (2 ^ fg_zf z - 1) T, 2 ^ (fg_zN z + 1) - 2)
theorem fg_s0_lt (hz : fg_Zok z) : (fg_s0 z T).1 < 1024 ∧ (fg_s0 z T).2 < 16 := by
  have h1 := fg_p10 hz.1.2.2.1
  have h2 : 2 ^ (fg_zN z + 1) ≤ 2 ^ 4 := Nat.pow_le_pow_right (by decide) (by have := hz.1.2.1; omega)
  have h3 := fg_wo_le (2 ^ fg_zf z - 1) T
  have h4 : 1 ≤ 2 ^ fg_zf z := Nat.one_le_two_pow
  unfold fg_s0
  simp only
  omega
theorem l_WA_raiseAll2 {y3 : Int32} {e : Nat} (Sh : h = 3 ∨ h = 9) (he : e < 10) : ∀ m j (τ : fg_St), j + m = 4 → (∀ u, fg_sm (fun g => g == 34) τ u → (∀ k, fg_R u 34 k = if e * 4 + j ≤ k ∧ k < e * 4 + 4 then fg_R τ 32 (k - e * 4) else fg_R τ 34 k) → fg_Run (d + 1) 54 8 [some (.ref 33), some (.ref h), some (.ref 31), some (.int y3), some (.int (nI (e + 1))), none] [] u Q) → fg_Run (d + 1) 54 66 [some (.ref 33), some (.ref h), some (.ref 31), some (.int y3), some (.int (nI e)), some (.int (nI j))] [] τ Q := by
  intro m
  induction m with
  | zero =>
    intro j τ hj H
    have hj : j = 4 := by omega
    subst hj
    refine b_WA_raiseAll_66 Sh ⟨fun _ => ?_, fun q => absurd (nI_le (a := 4) (b := 4) (by decide) (by decide)) q⟩
    rw [nI_1]
    exact H τ fg_sm.rfl' (fun k => by rw [if_neg (by omega)])
  | succ m ih =>
    intro j τ hj H
    refine b_WA_raiseAll_66 Sh ⟨fun q => absurd q (nI_ge (b := 4) (by omega) (by decide)), fun _ => ⟨vp_in_nI (by omega) (by decide), ?_⟩⟩
    rw [fg_lit4, nI_clamp (by omega), nI_clamp (by omega), nI_1]
    refine ⟨vp_in_nI (by omega) (by decide), ih (j + 1) _ (by omega) (fun u hu hr => H u ((fg_sm_R (by rfl)).tr hu) (fun k => ?_))⟩
    rw [hr k]
    by_cases h1 : e * 4 + (j + 1) ≤ k ∧ k < e * 4 + 4
    · rw [if_pos h1, if_pos (by omega)]
      rfl
    · rw [if_neg h1, fg_R_sR]
      by_cases h2 : k = e * 4 + j
      · rw [if_pos ⟨rfl, h2⟩, if_pos (by omega), h2]
        congr 1
        omega
      · rw [if_neg (fun q => h2 q.2), if_neg (by omega)]
theorem l_WA_raiseAll {σ : fg_St} (Sh : h = 3 ∨ h = 9) (hz : fg_Zok z) (hX : fg_ShX σ h z) (hT : T < 2 ^ 31) (H : ∀ u, fg_sm fg_pW σ u → fg_F u 33 3 = nI (fg_set (fg_upb z (fg_s0 z T)) (fg_zs z)) → (∀ e j, e < fg_zs z → j < 4 → fg_R u 34 (e * 4 + j) = fg_pi (fg_rx z (fg_s0 z T) e j)) → Q 0 u) : ∀ m i (τ : fg_St), i + m = fg_zs z → fg_sm fg_pW σ τ → fg_F τ 33 3 = nI (fg_set (fg_upb z (fg_s0 z T)) i) → (∀ e j, e < i → j < 4 → fg_R τ 34 (e * 4 + j) = fg_pi (fg_rx z (fg_s0 z T) e j)) → fg_Run (d + 3) 54 8 [some (.ref 33), some (.ref h), some (.ref 31), some (.int (nI T)), some (.int (nI i)), none] [] τ Q := by
  have hs := hz.1.2.2.2
  have hf := hz.1.2.2.1
  have sp := fg_shpW Sh
  have hb := fg_s0_lt (T := T) hz
  intro m
  induction m with
  | zero =>
    intro i τ hi hsm hu hr
    have hi : i = fg_zs z := by omega
    subst hi
    have hX' := hX.sm hsm sp.1 sp.2.1 sp.2.2
    refine b_WA_raiseAll_8 Sh ⟨fun _ => H τ hsm hu hr, fun q => absurd ?_ q⟩
    rw [hX'.1.2.2.2]
    exact nI_le (Nat.le_refl _) (by omega)
  | succ m ih =>
    intro i τ hi hsm hu hr
    have hX' := hX.sm hsm sp.1 sp.2.1 sp.2.2
    refine b_WA_raiseAll_8 Sh ⟨fun q => absurd q (by rw [hX'.1.2.2.2]; exact nI_ge (by omega) (by omega)), fun _ => ⟨fun q => absurd q (nI_ge (b := 10) (by omega) (by decide)), fun _ => ?_⟩⟩
    refine fg_use (r_SH_allFlags Sh hz hX' (fg_use (r_SH_allSubstitutes Sh hz hX' (fg_use (b_LK_open_0 ?_)))))
    rw [fg_andn]
    have s1 : fg_sm fg_pW τ (fg_sF (fg_sF τ 31 0 (nI (fg_s0 z T).1)) 31 1 (nI (fg_s0 z T).2)) := (fg_sm_F (by decide)).tr (fg_sm_F (by decide))
    have hX1 := hX'.sm s1 sp.1 sp.2.1 sp.2.2
    refine fg_use (r_LK_take (FF := (fg_s0 z T).1) (FS := (fg_s0 z T).2) Sh hz hX1 (show i < fg_zs z by omega) rfl rfl hb.1 hb.2 (fun u hsu htk => ?_))
    have hrow := fg_tkp_row hz (show i < fg_zs z by omega) htk
    have s2 : fg_sm fg_pW σ u := hsm.tr (s1.tr (hsu.wk fg_pLW))
    have u33 := hsu.2 33 (by decide)
    have u34 := hsu.2 34 (by decide)
    have hset := fg_set_step (p := fg_upb z (fg_s0 z T)) (n := i) (by omega)
    have go : ∀ τ2 : fg_St, fg_sm fg_pW σ τ2 → (∀ k, fg_R τ2 32 k = fg_R u 32 k) → (∀ k, fg_R τ2 34 k = fg_R τ 34 k) → fg_F τ2 33 3 = nI (fg_set (fg_upb z (fg_s0 z T)) (i + 1)) → fg_Run (d + 3) 54 66 [some (.ref 33), some (.ref h), some (.ref 31), some (.int (nI T)), some (.int (nI i)), some (.int (nI 0))] [] τ2 Q := by
      intro τ2 t1 t2 t3 t4
      refine l_WA_raiseAll2 Sh (by omega) 4 0 τ2 rfl (fun v hv hrv => ?_)
      have v33 := hv.2 33 (by decide)
      refine ih (i + 1) v (by omega) (t1.tr (hv.wk (fun g hg => ?_))) ((v33.1 3).trans t4) (fun e j he hj => ?_)
      · unfold fg_pW at hg
        simp only [Bool.or_eq_false_iff] at hg
        exact hg.2
      · rw [hrv]
        by_cases e1 : e = i
        · subst e1
          rw [if_pos (by omega), t2, show e * 4 + j - e * 4 = j by omega, hrow j hj]
        · rw [if_neg (by omega), t3, hr e j (by omega) hj]
    have hup : (fg_tk z i ((fg_s0 z T).1, (fg_s0 z T).2) (fg_zl z i)).isSome = fg_upb z (fg_s0 z T) i := rfl
    rw [hup]
    have f33 : fg_F u 33 3 = nI (fg_set (fg_upb z (fg_s0 z T)) i) := (u33.1 3).trans hu
    cases hq : fg_upb z (fg_s0 z T) i
    · rw [hq, if_neg (by decide)] at hset
      refine ⟨fun _ => go u s2 (fun _ => rfl) (fun k => u34.2 k) ?_, fun q => absurd rfl q⟩
      rw [f33, ← hset]
      exact (fg_or _ 0).symm ▸ (by rw [Nat.or_zero])
    · rw [hq, if_pos rfl] at hset
      refine ⟨fun q => absurd q (by decide), fun _ => go _ (s2.tr (fg_sm_F (by decide))) (fun _ => rfl) (fun k => u34.2 k) ?_⟩
      rw [fg_F_sF, if_pos ⟨rfl, rfl⟩, f33, ← hset]
/-- raiseAll: which signals can go up of what is not torn, and their rows -/
theorem r_WA_raiseAll {σ : fg_St} (Sh : h = 3 ∨ h = 9) (hz : fg_Zok z) (hX : fg_ShX σ h z) (hT : T < 2 ^ 31) (H : ∀ u, fg_sm fg_pW σ u → fg_F u 33 3 = nI (fg_set (fg_upb z (fg_s0 z T)) (fg_zs z)) → (∀ e j, e < fg_zs z → j < 4 → fg_R u 34 (e * 4 + j) = fg_pi (fg_rx z (fg_s0 z T) e j)) → Q 0 u) : fg_Run (d + 3) 54 0 [some (.ref 33), some (.ref h), some (.ref 31), some (.int (nI T)), none, none] [] σ Q :=
  b_WA_raiseAll_0 Sh (l_WA_raiseAll Sh hz hX hT H (fg_zs z) 0 _ (by omega) (fg_sm_F (by decide)) rfl (fun e j he _ => absurd he (by omega)))
end
