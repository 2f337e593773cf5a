/-! A SIGNAL GOES UP: take, and the reference's goesUp -/
theorem fg_tk_none {z : fg_Z} {e : Nat} {s : Nat × Nat} {i : Nat} (h : fg_tk z e s i = none) : ∀ n, i ≤ n → fg_tk z e s n = none := by
  intro n hn
  induction n with
  | zero =>
    have : i = 0 := by omega
    subst this
    exact h
  | succ n ih =>
    by_cases e1 : i = n + 1
    · subst e1; exact h
    · rw [fg_tk, ih (by omega)]
theorem fg_tk_bd {z : fg_Z} {e : Nat} {s : Nat × Nat} : ∀ (i : Nat) (t : Nat × Nat), fg_tk z e s i = some t → t.1 ≤ s.1 ∧ t.2 ≤ s.2 := by
  intro i
  induction i with
  | zero => intro t h; cases h; exact ⟨Nat.le_refl _, Nat.le_refl _⟩
  | succ i ih =>
    intro t h
    rw [fg_tk] at h
    split at h
    · cases h
    · rename_i t0 h0
      have := ih t0 h0
      split at h
      · cases h
      · split at h
        · cases h
          exact ⟨Nat.le_trans (fg_wo_le _ _) this.1, this.2⟩
        · cases h
          exact ⟨this.1, Nat.le_trans (fg_wo_le _ _) this.2⟩
/-- behind take -/
def fg_tkp (z : fg_Z) (e : Nat) (s : Nat × Nat) (u : fg_St) : Prop := match fg_tk z e s (fg_zl z e) with
  | some t => fg_F u 31 0 = nI t.1 ∧ fg_F u 31 1 = nI t.2 ∧ ∀ q, q < 4 → fg_R u 32 q = if q < fg_zl z e then nI (fg_rw z e s q) else -1
  | none => fg_F u 31 0 = nI s.1 ∧ fg_F u 31 1 = nI s.2 ∧ ∀ q, q < 4 → fg_R u 32 q = -1
def fg_pL (g : Nat) : Bool := g == 31 || g == 32
theorem fg_shp {h : Nat} (Sh : h = 3 ∨ h = 9) : fg_pL h = false ∧ fg_pL (h + 4) = false ∧ fg_pL (h + 5) = false := by rcases Sh with rfl | rfl <;> decide
theorem fg_nm1 {p : Nat} (hp : p < 2 ^ 31) : ¬ nI p = -1 := by
  intro e
  have h1 := congrArg Int32.toInt e
  rw [nI_toInt hp] at h1
  have h2 : (-1 : Int32).toInt = -1 := rfl
  omega
section
variable {d : Nat} {Q : Int32 → fg_St → Prop} {h : Nat} {z : fg_Z} {e FF FS : Nat}
theorem l_LK_take {σ : fg_St} (Sh : h = 3 ∨ h = 9) (hz : fg_Zok z) (hX : fg_ShX σ h z) (he : e < fg_zs z) (hFF : FF < 1024) (hFS : FS < 16) (H : ∀ u, fg_sm fg_pL σ u → fg_tkp z e (FF, FS) u → Q (fg_b (fg_tk z e (FF, FS) (fg_zl z e)).isSome) u) : ∀ m i (τ : fg_St) (t : Nat × Nat), i + m = fg_zl z e → fg_tk z e (FF, FS) i = some t → fg_sm fg_pL σ τ → fg_F τ 31 0 = nI t.1 → fg_F τ 31 1 = nI t.2 → (∀ q, q < 4 → fg_R τ 32 q = if q < i then nI (fg_rw z e (FF, FS) q) else -1) → fg_Run (d + 2) 14 28 [some (.ref 31), some (.ref h), some (.int (nI e)), some (.int (nI FF)), some (.int (nI FS)), some (.int (nI i)), none] [] τ Q := by
  have hl := hz.2.1 e he
  have hs := hz.1.2.2.2
  have hf := hz.1.2.2.1
  have sp := fg_shp Sh
  intro m
  induction m with
  | zero =>
    intro i τ t hi ht hsm h0 h1 hr
    have hi : i = fg_zl z e := by omega
    subst hi
    have hX' := hX.sm hsm sp.1 sp.2.1 sp.2.2
    refine b_LK_take_28 Sh ⟨vp_in_nI (by omega) (by decide), ?_⟩
    rw [nI_clamp (by omega), hX'.2.1 e he]
    refine ⟨fun _ => ?_, fun q => absurd (nI_le (Nat.le_refl _) (by omega)) q⟩
    have := H τ hsm (by unfold fg_tkp; rw [ht]; exact ⟨h0, h1, hr⟩)
    rw [ht] at this
    exact this
  | succ m ih =>
    intro i τ t hi ht hsm h0 h1 hr
    have hX' := hX.sm hsm sp.1 sp.2.1 sp.2.2
    have hb := fg_tk_bd i t ht
    refine b_LK_take_28 Sh ⟨vp_in_nI (by omega) (by decide), ?_⟩
    rw [nI_clamp (by omega), hX'.2.1 e he]
    refine ⟨fun q => absurd q (nI_ge (by omega) (by omega)), fun _ => ⟨fun q => absurd q (nI_ge (b := 4) (by omega) (by decide)), fun _ => ?_⟩⟩
    refine fg_use (r_LK_pieceFor Sh hz hX' he (by omega) h0 h1 (by omega) (by omega) ?_)
    have hrw : fg_rw z e (FF, FS) i = fg_pce z e t.1 t.2 i := by unfold fg_rw; rw [ht]
    have hin := fg_pce_in hz (FF := t.1) (FS := t.2) he (show i < fg_zl z e by omega)
    generalize hp : fg_pce z e t.1 t.2 i = p at hin hrw
    by_cases h99 : p = 99
    · subst h99
      have hnone : fg_tk z e (FF, FS) (fg_zl z e) = none := by
        refine fg_tk_none (i := i + 1) ?_ _ (by omega)
        rw [fg_tk, ht]
        simp [hp]
      refine ⟨fun q => absurd (by rfl) q, fun _ => fg_use (b_LK_open_0 (fg_use (r_LK_emptyRow (fun u hu hru => ?_))))⟩
      have hu2 := hu.2 31 (by decide)
      have hsm2 : fg_sm fg_pL σ u := hsm.tr (((fg_sm_F (by decide)).tr (fg_sm_F (by decide))).tr (hu.wk (fun g hg => by
        unfold fg_pL at hg
        simp only [Bool.or_eq_false_iff] at hg
        exact hg.2)))
      have := H u hsm2 (by
        unfold fg_tkp
        rw [hnone]
        exact ⟨(hu2.1 0).trans rfl, (hu2.1 1).trans rfl, hru⟩)
      rw [hnone] at this
      exact this
    · have hpi : fg_pi p = nI p := if_neg h99
      rw [hpi]
      have hpb : p ≤ 24 := by omega
      refine ⟨fun _ => ⟨vp_in_nI (by omega) (by decide), fun q => ?_, fun q => ?_⟩, fun q => absurd q (fg_nm1 (by omega))⟩
      · have q : p ≤ 20 := (nI_leI (b := 20) (by omega) (by decide)).mp q
        rw [nI_clamp (by omega), nI_1]
        refine ih (i + 1) _ (fg_wo t.1 (2 ^ p), t.2) (by omega) ?_ (hsm.tr ((fg_sm_R (by decide)).tr (fg_sm_F (by decide)))) ?_ ?_ ?_
        · rw [fg_tk, ht]
          simp only [hp]
          rw [if_neg h99, if_pos (by omega)]
        · rw [fg_F_sF, if_pos ⟨rfl, rfl⟩]
          show fg_F τ 31 0 &&& _ = _
          rw [h0, fg_shl1 (by omega), fg_andn]
        · rw [fg_F_sF, if_neg (by omega)]
          exact h1
        · intro c hc
          show fg_R (fg_sR τ 32 i (nI p)) 32 c = _
          rw [fg_R_sR]
          by_cases h1 : c = i
          · rw [if_pos ⟨rfl, h1⟩, if_pos (by omega), h1, hrw]
          · rw [if_neg (fun z => h1 z.2), hr c hc]
            by_cases h2 : c < i
            · rw [if_pos h2, if_pos (by omega)]
            · rw [if_neg h2, if_neg (by omega)]
      · have q : ¬ p ≤ 20 := fun z => q ((nI_leI (b := 20) (by omega) (by decide)).mpr z)
        rw [nI_clamp (by omega), nI_1]
        refine ih (i + 1) _ (t.1, fg_wo t.2 (2 ^ (p - 20))) (by omega) ?_ (hsm.tr ((fg_sm_R (by decide)).tr (fg_sm_F (by decide)))) ?_ ?_ ?_
        · rw [fg_tk, ht]
          simp only [hp]
          rw [if_neg h99, if_neg (by omega)]
        · rw [fg_F_sF, if_neg (by omega)]
          exact h0
        · rw [fg_F_sF, if_pos ⟨rfl, rfl⟩]
          show fg_F τ 31 1 &&& _ = _
          rw [h1, show nI p - 20 = nI (p - 20) from pk_sub (b := 20) (by omega), fg_shl1 (by omega), fg_andn]
        · intro c hc
          show fg_R (fg_sR τ 32 i (nI p)) 32 c = _
          rw [fg_R_sR]
          by_cases h1 : c = i
          · rw [if_pos ⟨rfl, h1⟩, if_pos (by omega), h1, hrw]
          · rw [if_neg (fun z => h1 z.2), hr c hc]
            by_cases h2 : c < i
            · rw [if_pos h2, if_pos (by omega)]
            · rw [if_neg h2, if_neg (by omega)]
/-- take: whether the signal can go up of the flags FF and the substitutes FS; behind it fg_tkp -/
theorem r_LK_take {σ : fg_St} (Sh : h = 3 ∨ h = 9) (hz : fg_Zok z) (hX : fg_ShX σ h z) (he : e < fg_zs z) (hF : fg_F σ 31 0 = nI FF) (hS : fg_F σ 31 1 = nI FS) (hFF : FF < 1024) (hFS : FS < 16) (H : ∀ u, fg_sm fg_pL σ u → fg_tkp z e (FF, FS) u → Q (fg_b (fg_tk z e (FF, FS) (fg_zl z e)).isSome) u) : fg_Run (d + 2) 14 0 [some (.ref 31), some (.ref h), some (.int (nI e)), none, none, none, none] [] σ Q := by
  have sp := fg_shp Sh
  have hs := hz.1.2.2.2
  refine b_LK_take_0 Sh (fg_use (r_LK_emptyRow (fun u hu hr => ?_)))
  have hsm : fg_sm fg_pL σ u := hu.wk (fun g hg => by
    unfold fg_pL at hg
    simp only [Bool.or_eq_false_iff] at hg
    exact hg.2)
  have hX' := hX.sm hsm sp.1 sp.2.1 sp.2.2
  refine fg_use (r_SH_hasSignal Sh hz hX' ?_)
  rw [fg_isn_nI he (by omega)]
  refine ⟨fun _ => ?_, fun q => absurd q (by decide)⟩
  have hu2 := hu.2 31 (by decide)
  rw [(hu2.1 0).trans hF, (hu2.1 1).trans hS]
  exact l_LK_take Sh hz hX he hFF hFS H (fg_zl z e) 0 u (FF, FS) (by omega) rfl hsm ((hu2.1 0).trans hF) ((hu2.1 1).trans hS) (fun q hq => by rw [hr q hq, if_neg (by omega)])
end
