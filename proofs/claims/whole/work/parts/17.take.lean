/-! A SIGNAL GOES UP: the class's take, what it takes -/
/-- two states alike but at the handles of P -/
def fg_sm (P : Nat → Bool) (σ u : fg_St) : Prop := (u.1 = σ.1 ∧ u.2.1 = σ.2.1) ∧ ∀ h, P h = false → (∀ k, fg_F u h k = fg_F σ h k) ∧ ∀ k, fg_R u h k = fg_R σ h k
theorem fg_sm.rfl' {P : Nat → Bool} {σ : fg_St} : fg_sm P σ σ := ⟨⟨rfl, rfl⟩, fun _ _ => ⟨fun _ => rfl, fun _ => rfl⟩⟩
theorem fg_sm.tr {P : Nat → Bool} {σ u v : fg_St} (a : fg_sm P σ u) (b : fg_sm P u v) : fg_sm P σ v := ⟨⟨b.1.1.trans a.1.1, b.1.2.trans a.1.2⟩, fun h hp => ⟨fun k => ((b.2 h hp).1 k).trans ((a.2 h hp).1 k), fun k => ((b.2 h hp).2 k).trans ((a.2 h hp).2 k)⟩⟩
theorem fg_sm.wk {P P' : Nat → Bool} {σ u : fg_St} (a : fg_sm P σ u) (h : ∀ h, P' h = false → P h = false) : fg_sm P' σ u := ⟨a.1, fun g hg => a.2 g (h g hg)⟩
theorem fg_sm_F {P : Nat → Bool} {σ : fg_St} {h k : Nat} {x : Int32} (hp : P h = true) : fg_sm P σ (fg_sF σ h k x) := ⟨⟨rfl, rfl⟩, fun g hg => ⟨fun j => by
  have : g ≠ h := fun e => by rw [e, hp] at hg; cases hg
  show fg_uf _ _ _ _ g j = _
  simp [fg_uf, this], fun _ => rfl⟩⟩
theorem fg_sm_R {P : Nat → Bool} {σ : fg_St} {h k : Nat} {x : Int32} (hp : P h = true) : fg_sm P σ (fg_sR σ h k x) := ⟨⟨rfl, rfl⟩, fun g hg => ⟨fun _ => rfl, fun j => by
  have : g ≠ h := fun e => by rw [e, hp] at hg; cases hg
  show fg_up _ _ _ _ g j = _
  simp [fg_up, this]⟩⟩
theorem fg_F_sF (σ : fg_St) (h k : Nat) (x : Int32) (a b : Nat) : fg_F (fg_sF σ h k x) a b = if b = k ∧ a = h then x else fg_F σ a b := rfl
theorem fg_R_sR (σ : fg_St) (h k : Nat) (x : Int32) (a b : Nat) : fg_R (fg_sR σ h k x) a b = if a = h ∧ b = k then x else fg_R σ a b := rfl
theorem fg_ShX.sm {P : Nat → Bool} {σ u : fg_St} {h : Nat} {z : fg_Z} (hX : fg_ShX σ h z) (s : fg_sm P σ u) (h0 : P h = false) (h4 : P (h + 4) = false) (h5 : P (h + 5) = false) : fg_ShX u h z := by
  have f := (s.2 h h0).1
  exact ⟨⟨(f 0).trans hX.1.1, (f 1).trans hX.1.2.1, (f 2).trans hX.1.2.2.1, (f 3).trans hX.1.2.2.2⟩, fun e he => ((s.2 _ h4).2 e).trans (hX.2.1 e he), fun e he j hj => ((s.2 _ h5).2 _).trans (hX.2.2 e he j hj)⟩
theorem fg_ShM.sm {P : Nat → Bool} {σ u : fg_St} {z : fg_Z} (hM : fg_ShM σ z) (s : fg_sm P σ u) (h0 : P 187 = false) (h4 : P 189 = false) (h5 : P 190 = false) : fg_ShM u z := by
  have f := (s.2 187 h0).1
  exact ⟨⟨(f 0).trans hM.1.1, (f 1).trans hM.1.2.1, (f 2).trans hM.1.2.2.1, (f 4).trans hM.1.2.2.2⟩, fun e he => ((s.2 _ h4).2 e).trans (hM.2.1 e he), fun e he j hj => ((s.2 _ h5).2 _).trans (hM.2.2 e he j hj)⟩
/-- the least substitute from k on that stands for place j's flag (0: none), m to look at -/
def fg_alf (z : fg_Z) (e FS j : Nat) : Nat → Nat → Nat
  | 0, _ => 0
  | m + 1, k => if (FS.testBit k && fg_zr z e (k - 1) == fg_zr z e j) then k else fg_alf z e FS j m (k + 1)
/-- what comes to place j: a flag, 20 and a substitute, 99 nothing -/
def fg_pce (z : fg_Z) (e FF FS j : Nat) : Nat := if FF.testBit (fg_zr z e j) then fg_zr z e j else if fg_alf z e FS j j 1 = 0 then 99 else 20 + fg_alf z e FS j j 1
def fg_pi (p : Nat) : Int32 := if p = 99 then -1 else nI p
/-- what is free behind the first j places -/
def fg_tk (z : fg_Z) (e : Nat) (s : Nat × Nat) : Nat → Option (Nat × Nat)
  | 0 => some s
  | j + 1 => match fg_tk z e s j with
    | none => none
    | some t => if fg_pce z e t.1 t.2 j = 99 then none else if fg_pce z e t.1 t.2 j < 20 then some (fg_wo t.1 (2 ^ fg_pce z e t.1 t.2 j), t.2) else some (t.1, fg_wo t.2 (2 ^ (fg_pce z e t.1 t.2 j - 20)))
def fg_rw (z : fg_Z) (e : Nat) (s : Nat × Nat) (j : Nat) : Nat := match fg_tk z e s j with
  | none => 99
  | some t => fg_pce z e t.1 t.2 j
theorem fg_alf_lt (z : fg_Z) (e FS j : Nat) : ∀ m k, fg_alf z e FS j m k < k + m ∨ fg_alf z e FS j m k = 0 := by
  intro m
  induction m with
  | zero => intro k; exact Or.inr rfl
  | succ m ih =>
    intro k
    unfold fg_alf
    split
    · left; omega
    · rcases ih (k + 1) with h | h
      · left; omega
      · right; exact h
theorem fg_alf_ge (z : fg_Z) (e FS j : Nat) : ∀ m k, fg_alf z e FS j m k = 0 ∨ k ≤ fg_alf z e FS j m k := by
  intro m
  induction m with
  | zero => intro k; exact Or.inl rfl
  | succ m ih =>
    intro k
    unfold fg_alf
    split
    · right; omega
    · rcases ih (k + 1) with h | h
      · left; exact h
      · right; omega
theorem fg_pce_in {z : fg_Z} (hz : fg_Zok z) {e FF FS j : Nat} (he : e < fg_zs z) (hj : j < fg_zl z e) : fg_pce z e FF FS j = 99 ∨ (fg_pce z e FF FS j < fg_zf z ∧ FF.testBit (fg_pce z e FF FS j) = true) ∨ (21 ≤ fg_pce z e FF FS j ∧ fg_pce z e FF FS j ≤ 20 + j) := by
  unfold fg_pce
  have hr := hz.2.2.1 e he j hj
  split
  · rename_i h
    right; left
    exact ⟨hr, h⟩
  · split
    · left; rfl
    · rename_i h0
      right; right
      rcases fg_alf_lt z e FS j j 1 with h | h
      · rcases fg_alf_ge z e FS j j 1 with h2 | h2
        · exact absurd h2 h0
        · omega
      · exact absurd h h0
section
variable {d : Nat} {σ : fg_St} {Q : Int32 → fg_St → Prop} {h : Nat} {z : fg_Z} {e FF FS j : Nat}
theorem l_LK_pieceFor (Sh : h = 3 ∨ h = 9) (hz : fg_Zok z) (hX : fg_ShX σ h z) (he : e < fg_zs z) (hj : j < fg_zl z e) (hS : fg_F σ 31 1 = nI FS) (hFS : FS < 16) : ∀ m k, 1 ≤ k → k + m = j + 1 → Q (if fg_alf z e FS j m k = 0 then -1 else nI (20 + fg_alf z e FS j m k)) σ → fg_Run (d + 1) 15 26 [some (.ref 31), some (.ref h), some (.int (nI e)), some (.int (nI j)), some (.int (nI (fg_zr z e j))), some (.int (nI k))] [] σ Q := by
  have hl := hz.2.1 e he
  have hr := hz.2.2.1 e he
  have hf := hz.1.2.2.1
  intro m
  induction m with
  | zero =>
    intro k h1 hk H
    refine b_LK_pieceFor_26 Sh ⟨fun _ => H, fun q => absurd (nI_lt (by omega) (by omega)) q⟩
  | succ m ih =>
    intro k h1 hk H
    have e1 : nI k - 1 = nI (k - 1) := pk_sub (b := 1) h1
    refine b_LK_pieceFor_26 Sh ⟨fun q => absurd q (nI_nlt (by omega) (by omega)), fun _ => ⟨fun q => absurd q (nI_nlt (b := 3) (a := 3) (by omega) (by decide) |> fun _ => fun q => by have := (nI_ltI (a := 3) (b := k) (by decide) (by omega)).mp q; omega), fun _ => ?_⟩⟩
    rw [hS]
    refine fg_use (r_FS_has (by omega) (by omega) ?_)
    unfold fg_alf at H
    cases hb : FS.testBit k
    · rw [hb] at H
      refine ⟨fun _ => ?_, fun q => absurd rfl q⟩
      rw [nI_1]
      exact ih (k + 1) (by omega) (by omega) H
    · rw [hb] at H
      refine ⟨fun q => absurd q (by decide), fun _ => ?_⟩
      rw [e1]
      refine fg_use (r_SH_flagAt Sh hz hX he (by omega) ?_)
      rw [if_pos (by omega), nI_eq (by have := hr (k - 1) (by omega); omega) (by have := hr j hj; omega)]
      refine ⟨fun q => ?_, fun q => ?_⟩
      · rw [nI_1]
        have hq : (fg_zr z e (k - 1) == fg_zr z e j) = false := by simpa using q
        rw [hq] at H
        exact ih (k + 1) (by omega) (by omega) H
      · have hq : (fg_zr z e (k - 1) == fg_zr z e j) = true := by simpa using q
        rw [hq] at H
        rw [show (20 : Int32) = nI 20 from rfl, nI_add]
        have : ¬ k = 0 := by omega
        simpa [this] using H
theorem r_LK_pieceFor (Sh : h = 3 ∨ h = 9) (hz : fg_Zok z) (hX : fg_ShX σ h z) (he : e < fg_zs z) (hj : j < fg_zl z e) (hF : fg_F σ 31 0 = nI FF) (hS : fg_F σ 31 1 = nI FS) (hFF : FF < 1024) (hFS : FS < 16) (H : Q (fg_pi (fg_pce z e FF FS j)) σ) : fg_Run (d + 1) 15 0 [some (.ref 31), some (.ref h), some (.int (nI e)), some (.int (nI j)), none, none] [] σ Q := by
  have hl := hz.2.1 e he
  have hr := hz.2.2.1 e he j hj
  have hf := hz.1.2.2.1
  refine b_LK_pieceFor_0 Sh (fg_use (r_SH_flagAt Sh hz hX he (by omega) ?_))
  rw [if_pos hj, hF]
  refine fg_use (r_FS_has (by omega) (by omega) ?_)
  unfold fg_pce at H
  cases hb : FF.testBit (fg_zr z e j)
  · rw [hb] at H
    refine ⟨fun _ => ?_, fun q => absurd rfl q⟩
    refine l_LK_pieceFor Sh hz hX he hj hS hFS j 1 (by omega) (by omega) ?_
    rw [if_neg (by decide)] at H
    by_cases h0 : fg_alf z e FS j j 1 = 0
    · rw [if_pos h0] at H ⊢
      exact H
    · rw [if_neg h0] at H ⊢
      unfold fg_pi at H
      rw [if_neg (by rcases fg_alf_lt z e FS j j 1 with h | h <;> omega)] at H
      exact H
  · rw [hb] at H
    refine ⟨fun q => absurd q (by decide), fun _ => ?_⟩
    rw [if_pos rfl] at H
    unfold fg_pi at H
    rw [if_neg (by omega)] at H
    exact H
theorem l_LK_emptyRow : ∀ m i (σ : fg_St), i + m = 4 → (∀ u, fg_sm (fun g => g == 32) σ u → (∀ t, t < 4 → fg_R u 32 t = if t < i then fg_R σ 32 t else -1) → Q 0 u) → fg_Run d 16 2 [some (.ref 31), some (.int (nI i))] [] σ Q := by
  intro m
  induction m with
  | zero =>
    intro i σ hi H
    have hi : i = 4 := by omega
    subst hi
    exact b_LK_emptyRow_2 ⟨fun _ => H σ fg_sm.rfl' (fun t ht => by rw [if_pos ht]), fun q => absurd (nI_le (a := 4) (b := 4) (by decide) (by decide)) q⟩
  | succ m ih =>
    intro i σ hi H
    refine b_LK_emptyRow_2 ⟨fun q => absurd q (nI_ge (b := 4) (by omega) (by decide)), fun _ => ⟨vp_in_nI (by omega) (by decide), ?_⟩⟩
    rw [nI_clamp (by omega), nI_1]
    refine ih (i + 1) _ (by omega) (fun u hu hr => H u ((fg_sm_R (by rfl)).tr hu) (fun t ht => ?_))
    rw [hr t ht, fg_R_sR]
    by_cases h1 : t < i
    · rw [if_pos (by omega), if_pos h1, if_neg (by omega)]
    · by_cases h2 : t = i
      · rw [if_pos (by omega), if_neg h1, if_pos ⟨rfl, h2⟩]
      · rw [if_neg (by omega), if_neg h1]
theorem r_LK_emptyRow (H : ∀ u, fg_sm (fun g => g == 32) σ u → (∀ t, t < 4 → fg_R u 32 t = -1) → Q 0 u) : fg_Run d 16 0 [some (.ref 31), none] [] σ Q :=
  b_LK_emptyRow_0 (l_LK_emptyRow 4 0 σ rfl (fun u hu hr => H u hu (fun t ht => by rw [hr t ht, if_neg (by omega)])))
end
