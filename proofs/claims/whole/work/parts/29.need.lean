/-! THE FLAG THAT MOST SIGNALS NEED -/
def fg_t4 (z : fg_Z) (e f : Nat) : Nat → Bool
  | 0 => false
  | j + 1 => fg_t4 z e f j || (decide (j < fg_zl z e) && fg_zr z e j == f)
theorem fg_t4_end {z : fg_Z} {e f : Nat} : ∀ m, fg_t4 z e f (fg_zl z e + m) = fg_t4 z e f (fg_zl z e) := by
  intro m
  induction m with
  | zero => rfl
  | succ m ih =>
    rw [← Nat.add_assoc, fg_t4, ih, decide_eq_false (by omega)]
    simp
def fg_num (p : Nat → Bool) : Nat → Nat
  | 0 => 0
  | n + 1 => fg_num p n + (if p n then 1 else 0)
theorem fg_num_le (p : Nat → Bool) : ∀ n, fg_num p n ≤ n := by
  intro n
  induction n with
  | zero => exact Nat.le_refl _
  | succ n ih =>
    rw [fg_num]
    split <;> omega
theorem fg_cnt_set (p : Nat → Bool) (n : Nat) : ∀ m, fg_cnt (fg_set p n) m = fg_num (fun i => decide (i < n) && p i) m := by
  intro m
  induction m with
  | zero => rfl
  | succ m ih => rw [fg_cnt, fg_num, ih, fg_set_bit]
theorem fg_num_ext {p q : Nat → Bool} : ∀ n, (∀ i, i < n → p i = q i) → fg_num p n = fg_num q n := by
  intro n
  induction n with
  | zero => intro _; rfl
  | succ n ih => intro h; rw [fg_num, fg_num, ih (fun i hi => h i (by omega)), h n (by omega)]
theorem fg_num_off {p : Nat → Bool} {n : Nat} : ∀ m, fg_num (fun i => decide (i < n) && p i) (n + m) = fg_num p n := by
  intro m
  induction m with
  | zero => exact fg_num_ext n (fun i hi => by rw [decide_eq_true hi]; rfl)
  | succ m ih =>
    rw [← Nat.add_assoc, fg_num, ih, decide_eq_false (by omega)]
    simp
theorem fg_cnt10 {p : Nat → Bool} {n : Nat} (h : n ≤ 10) : fg_cnt (fg_set p n) 10 = fg_num p n := by
  rw [fg_cnt_set]
  have := fg_num_off (p := p) (n := n) (10 - n)
  rw [show n + (10 - n) = 10 by omega] at this
  exact this
section
variable {d : Nat} {Q : Int32 → fg_St → Prop} {z : fg_Z} {w : Nat → Int32} {f : Nat} {h : Nat}
/-- a signal's places looked through; S: what was found ahead -/
theorem l_SH_signalsWith2 {σ : fg_St} {e S : Nat} (Sh : h = 3 ∨ h = 9) (hz : fg_Zok z) (hX : fg_ShX σ h z) (he : e < fg_zs z) (hf : f < fg_zf z) (H : fg_Run (d + 1) 43 4 [some (.ref h), some (.int (nI f)), some (.int (nI (S ||| if fg_t4 z e f 4 then 2 ^ e else 0))), some (.int (nI (e + 1))), none] [] σ Q) : ∀ m j, j + m = 4 → fg_Run (d + 1) 43 15 [some (.ref h), some (.int (nI f)), some (.int (nI (S ||| if fg_t4 z e f j then 2 ^ e else 0))), some (.int (nI e)), some (.int (nI j))] [] σ Q := by
  have hs := hz.1.2.2.2
  have hf10 := hz.1.2.2.1
  intro m
  induction m with
  | zero =>
    intro j hj
    have hj : j = 4 := by omega
    subst hj
    refine b_SH_signalsWith_15 Sh ⟨fun _ => ?_, fun q => absurd (nI_le (a := 4) (b := 4) (by decide) (by decide)) q⟩
    rw [nI_1]
    exact H
  | succ m ih =>
    intro j hj
    have ih := ih (j + 1) (by omega)
    refine b_SH_signalsWith_15 Sh ⟨fun q => absurd q (nI_ge (b := 4) (by omega) (by decide)), fun _ => fg_use (r_SH_flagAt Sh hz hX he (by omega) ?_)⟩
    rw [nI_1]
    rw [fg_t4] at ih
    have key : ((if j < fg_zl z e then nI (fg_zr z e j) else -1) = nI f) ↔ (decide (j < fg_zl z e) && fg_zr z e j == f) = true := by
      by_cases hj2 : j < fg_zl z e
      · rw [if_pos hj2, decide_eq_true hj2, nI_eq (by have := hz.2.2.1 e he j hj2; omega) (by omega)]
        simp
      · rw [if_neg hj2, decide_eq_false hj2]
        exact ⟨fun q => absurd q.symm (fg_nm1 (by omega)), fun q => by simp at q⟩
    refine ⟨fun q => ?_, fun q => ?_⟩
    · have q2 : (decide (j < fg_zl z e) && fg_zr z e j == f) = false := by
        rw [← Bool.not_eq_true]
        exact fun x => q (key.mpr x)
      rw [q2, Bool.or_false] at ih
      exact ih
    · rw [key.mp q, Bool.or_true, if_pos rfl] at ih
      rw [fg_shl1 (by omega), fg_or]
      have : ((S ||| if fg_t4 z e f j then 2 ^ e else 0) ||| 2 ^ e) = S ||| 2 ^ e := by
        split
        · rw [Nat.or_assoc, Nat.or_self]
        · rw [Nat.or_zero]
      rw [this]
      exact ih
theorem l_SH_signalsWith {σ : fg_St} (Sh : h = 3 ∨ h = 9) (hz : fg_Zok z) (hX : fg_ShX σ h z) (hf : f < fg_zf z) (H : Q (nI (fg_set (fun e => fg_t4 z e f 4) (fg_zs z))) σ) : ∀ m i, i + m = fg_zs z → fg_Run (d + 1) 43 4 [some (.ref h), some (.int (nI f)), some (.int (nI (fg_set (fun e => fg_t4 z e f 4) i))), some (.int (nI i)), none] [] σ Q := by
  have hs := hz.1.2.2.2
  intro m
  induction m with
  | zero =>
    intro i hi
    have hi : i = fg_zs z := by omega
    subst hi
    refine b_SH_signalsWith_4 Sh ⟨fun _ => H, fun q => absurd ?_ q⟩
    rw [hX.1.2.2.2]
    exact nI_le (Nat.le_refl _) (by omega)
  | succ m ih =>
    intro i hi
    have ih := ih (i + 1) (by omega)
    refine b_SH_signalsWith_4 Sh ⟨fun q => absurd q (by rw [hX.1.2.2.2]; exact nI_ge (by omega) (by omega)), fun _ => ?_⟩
    have := l_SH_signalsWith2 (d := d) (Q := Q) (e := i) (S := fg_set (fun e => fg_t4 z e f 4) i) Sh hz hX (by omega) hf ih 4 0 rfl
    rw [fg_t4, if_neg (by decide), Nat.or_zero] at this
    exact this
theorem r_SH_signalsWith {σ : fg_St} (Sh : h = 3 ∨ h = 9) (hz : fg_Zok z) (hX : fg_ShX σ h z) (hf : f < fg_zf z) (H : Q (nI (fg_set (fun e => fg_t4 z e f 4) (fg_zs z))) σ) : fg_Run (d + 1) 43 0 [some (.ref h), some (.int (nI f)), none, none, none] [] σ Q :=
  b_SH_signalsWith_0 Sh (l_SH_signalsWith Sh hz hX hf H (fg_zs z) 0 (by omega))
/-- in how many signals a flag is told -/
def fg_nd (z : fg_Z) (f : Nat) : Int32 := nI (fg_num (fun e => fg_t4 z e f 4) (fg_zs z))
theorem l_FS_neededFlag {σ : fg_St} (hX : fg_XI σ z w) (H : Q (fg_bf (-1, -1) (fg_nd z) (fg_zf z)).1 σ) : ∀ m i, i + m = fg_zf z → fg_Run (d + 2) 101 6 [some (.ref 0), some (.int (fg_bf (-1, -1) (fg_nd z) i).1), some (.int (fg_bf (-1, -1) (fg_nd z) i).2), some (.int (nI i)), none] [] σ Q := by
  obtain ⟨h1, h2, h3, h4, h5⟩ := id hX
  have hs := h2.1.2.2.2
  have hf := h2.1.2.2.1
  intro m
  induction m with
  | zero =>
    intro i hi
    have hi : i = fg_zf z := by omega
    subst hi
    refine b_FS_neededFlag_6 ⟨fg_kd6 h1, fun _ => H, fun q => absurd ?_ q⟩
    rw [h3.1.2.2.1]
    exact nI_le (Nat.le_refl _) (by omega)
  | succ m ih =>
    intro i hi
    have ih := ih (i + 1) (by omega)
    refine b_FS_neededFlag_6 ⟨fg_kd6 h1, fun q => absurd q (by rw [h3.1.2.2.1]; exact nI_ge (by omega) (by omega)), fun _ => ⟨fg_kd6 h1, fg_use (r_SH_signalsWith h1 h2 h3 (by omega) ?_)⟩⟩
    have hb : fg_set (fun e => fg_t4 z e i 4) (fg_zs z) < 1024 := Nat.lt_of_lt_of_le (fg_set_lt _ _) (fg_p10 hs)
    refine fg_use (r_JI_bitCount hb ?_)
    rw [fg_cnt10 hs, nI_1]
    rw [fg_bf_s] at ih
    refine ⟨fun q => ?_, fun q => ?_⟩
    · rw [if_pos (show fg_nd z i ≤ _ from q)] at ih
      exact ih
    · rw [if_neg (show ¬ fg_nd z i ≤ _ from q)] at ih
      exact ih
theorem r_FS_neededFlag {σ : fg_St} (hX : fg_XI σ z w) (H : Q (fg_bf (-1, -1) (fg_nd z) (fg_zf z)).1 σ) : fg_Run (d + 2) 101 0 [some (.ref 0), none, none, none, none] [] σ Q :=
  b_FS_neededFlag_0 (l_FS_neededFlag hX H (fg_zf z) 0 (by omega))
theorem l_MO_isToldIn {σ : fg_St} {e : Nat} (hz : fg_Zok z) (hM : fg_ShM σ z) (he : e < fg_zs z) (hf : f < fg_zf z) (H : Q (fg_b (fg_t4 z e f 4)) σ) : ∀ m i, i + m = fg_zl z e → fg_Run d 144 5 [some (.ref 187), some (.int (nI f)), some (.int (nI e)), some (.int (fg_b (fg_t4 z e f i))), some (.int (nI i))] [] σ Q := by
  have hs := hz.1.2.2.2
  have hf10 := hz.1.2.2.1
  have hl := hz.2.1 e he
  intro m
  induction m with
  | zero =>
    intro i hi
    have hi : i = fg_zl z e := by omega
    subst hi
    refine b_MO_isToldIn_5 ⟨vp_in_nI (by omega) (by decide), ?_⟩
    rw [nI_clamp (by omega), hM.2.1 e he]
    have e4 := fg_t4_end (z := z) (e := e) (f := f) (4 - fg_zl z e)
    rw [show fg_zl z e + (4 - fg_zl z e) = 4 by omega] at e4
    rw [← e4]
    exact ⟨fun _ => ⟨by unfold fg_b; split <;> simp, H⟩, fun q => absurd (nI_le (Nat.le_refl _) (by omega)) q⟩
  | succ m ih =>
    intro i hi
    have ih := ih (i + 1) (by omega)
    refine b_MO_isToldIn_5 ⟨vp_in_nI (by omega) (by decide), ?_⟩
    rw [nI_clamp (by omega), hM.2.1 e he]
    refine ⟨fun q => absurd q (nI_ge (by omega) (by omega)), fun _ => ?_⟩
    rw [fg_4e, nI_clamp (by omega), nI_1, hM.2.2 e he i (by omega), nI_eq (by have := hz.2.2.1 e he i (by omega); omega) (by omega)]
    rw [fg_t4, decide_eq_true (show i < fg_zl z e by omega), Bool.true_and] at ih
    cases hq : fg_t4 z e f i
    · rw [hq] at ih
      refine ⟨fun q => absurd rfl q, fun _ => ⟨vp_in_nI (by omega) (by decide), fun q => ?_, fun q => ?_⟩⟩
      · rw [show (fg_zr z e i == f) = false by simpa using q] at ih
        exact ih
      · rw [show (fg_zr z e i == f) = true by simpa using q] at ih
        exact ih
    · rw [hq] at ih
      exact ⟨fun _ => ih, fun q => absurd q (by decide)⟩
theorem r_MO_isToldIn {σ : fg_St} {e : Nat} (hz : fg_Zok z) (hM : fg_ShM σ z) (he : e < fg_zs z) (hf : f < fg_zf z) (H : Q (fg_b (fg_t4 z e f 4)) σ) : fg_Run d 144 0 [some (.ref 187), some (.int (nI f)), some (.int (nI e)), none, none] [] σ Q :=
  b_MO_isToldIn_0 (l_MO_isToldIn hz hM he hf H (fg_zl z e) 0 (by omega))
theorem l_MO_needed2 {σ : fg_St} {y1 y2 : Int32} (hz : fg_Zok z) (hM : fg_ShM σ z) (hf : f < fg_zf z) (H : fg_Run (d + 1) 145 6 [some (.ref 187), some (.int (if fg_nd z f ≤ y2 then y1 else nI f)), some (.int (if fg_nd z f ≤ y2 then y2 else fg_nd z f)), some (.int (nI (f + 1))), none, none] [] σ Q) : ∀ m i, i + m = fg_zs z → fg_Run (d + 1) 145 20 [some (.ref 187), some (.int y1), some (.int y2), some (.int (nI f)), some (.int (nI (fg_num (fun e => fg_t4 z e f 4) i))), some (.int (nI i))] [] σ Q := by
  have hs := hz.1.2.2.2
  intro m
  induction m with
  | zero =>
    intro i hi
    have hi : i = fg_zs z := by omega
    subst hi
    refine b_MO_needed_20 ⟨fun _ => ?_, fun q => absurd ?_ q⟩
    · rw [nI_1]
      refine ⟨fun q => ⟨fun _ => ?_, fun q2 => absurd q q2⟩, fun q => ⟨fun q2 => absurd q2 q, fun _ => ?_⟩⟩
      · rw [if_pos (show fg_nd z f ≤ y2 from q), if_pos (show fg_nd z f ≤ y2 from q)] at H
        exact H
      · rw [if_neg (show ¬ fg_nd z f ≤ y2 from q), if_neg (show ¬ fg_nd z f ≤ y2 from q)] at H
        exact H
    · rw [hM.1.2.2.2]
      exact nI_le (Nat.le_refl _) (by omega)
  | succ m ih =>
    intro i hi
    have ih := ih (i + 1) (by omega)
    refine b_MO_needed_20 ⟨fun q => absurd q (by rw [hM.1.2.2.2]; exact nI_ge (by omega) (by omega)), fun _ => fg_use (r_MO_isToldIn hz hM (by omega) hf ?_)⟩
    rw [nI_1]
    rw [fg_num] at ih
    cases hq : fg_t4 z i f 4
    · rw [hq, if_neg (by decide)] at ih
      refine ⟨fun _ => ?_, fun q => absurd rfl q⟩
      rw [← nI_add _ 0] at ih
      exact ih
    · rw [hq, if_pos rfl, ← nI_1] at ih
      exact ⟨fun q => absurd q (by decide), fun _ => ih⟩
theorem l_MO_needed {σ : fg_St} (hz : fg_Zok z) (hM : fg_ShM σ z) (H : Q (fg_bf (-1, -1) (fg_nd z) (fg_zf z)).1 σ) : ∀ m i, i + m = fg_zf z → fg_Run (d + 1) 145 6 [some (.ref 187), some (.int (fg_bf (-1, -1) (fg_nd z) i).1), some (.int (fg_bf (-1, -1) (fg_nd z) i).2), some (.int (nI i)), none, none] [] σ Q := by
  have hf := hz.1.2.2.1
  intro m
  induction m with
  | zero =>
    intro i hi
    have hi : i = fg_zf z := by omega
    subst hi
    refine b_MO_needed_6 ⟨fun _ => H, fun q => absurd ?_ q⟩
    rw [hM.1.2.2.1]
    exact nI_le (Nat.le_refl _) (by omega)
  | succ m ih =>
    intro i hi
    have ih := ih (i + 1) (by omega)
    refine b_MO_needed_6 ⟨fun q => absurd q (by rw [hM.1.2.2.1]; exact nI_ge (by omega) (by omega)), fun _ => ?_⟩
    refine l_MO_needed2 hz hM (show i < fg_zf z by omega) ?_ (fg_zs z) 0 (by omega)
    rw [fg_bf_s] at ih
    split at ih
    · rename_i q
      rw [if_pos q, if_pos q]
      exact ih
    · rename_i q
      rw [if_neg q, if_neg q]
      exact ih
theorem r_MO_needed {σ : fg_St} (hz : fg_Zok z) (hM : fg_ShM σ z) (H : Q (fg_bf (-1, -1) (fg_nd z) (fg_zf z)).1 σ) : fg_Run (d + 1) 145 0 [some (.ref 187), none, none, none, none, none] [] σ Q :=
  b_MO_needed_0 (l_MO_needed hz hM H (fg_zf z) 0 (by omega))
end
