/-! WHAT CAN FLY TOGETHER -/
theorem fg_wo_wo {a b c : Nat} (ha : a < 2 ^ 32) : fg_wo (fg_wo a b) c = fg_wo a (b ||| c) := by
  apply Nat.eq_of_testBit_eq
  intro i
  have h2 : fg_wo a b < 2 ^ 32 := Nat.lt_of_le_of_lt (fg_wo_le _ _) ha
  rw [fg_wo_bit h2, fg_wo_bit ha, fg_wo_bit ha, Nat.testBit_or]
  cases a.testBit i <;> cases b.testBit i <;> cases c.testBit i <;> rfl
theorem fg_wo_z {a : Nat} (ha : a < 2 ^ 32) : fg_wo a 0 = a := by
  apply Nat.eq_of_testBit_eq
  intro i
  rw [fg_wo_bit ha, Nat.zero_testBit]
  simp
def fg_rfI (r : Nat → Int32) : Nat → Int32
  | 0 => 0
  | i + 1 => fg_rfI r i ||| (if r i = -1 then (0 : Int32) else if 20 ≤ r i then (0 : Int32) else (1 : Int32) <<< (r i &&& 31))
def fg_rsI (r : Nat → Int32) : Nat → Int32
  | 0 => 0
  | i + 1 => fg_rsI r i ||| (if r i ≤ 20 then (0 : Int32) else (1 : Int32) <<< ((r i - 20) &&& 31))
def fg_rfN (z : fg_Z) (e : Nat) (s : Nat × Nat) : Nat → Nat
  | 0 => 0
  | i + 1 => fg_rfN z e s i ||| (if i < fg_zl z e ∧ fg_rw z e s i < 20 then 2 ^ fg_rw z e s i else 0)
def fg_rsN (z : fg_Z) (e : Nat) (s : Nat × Nat) : Nat → Nat
  | 0 => 0
  | i + 1 => fg_rsN z e s i ||| (if i < fg_zl z e ∧ ¬ fg_rw z e s i < 20 then 2 ^ (fg_rw z e s i - 20) else 0)
theorem fg_rfI_N {z : fg_Z} (hz : fg_Zok z) {e : Nat} {s : Nat × Nat} (he : e < fg_zs z) (hu : fg_upb z s e = true) {r : Nat → Int32} (hr : ∀ q, q < 4 → r q = if q < fg_zl z e then nI (fg_rw z e s q) else -1) : ∀ i, i ≤ 4 → fg_rfI r i = nI (fg_rfN z e s i) ∧ fg_rsI r i = nI (fg_rsN z e s i) := by
  have hf := hz.1.2.2.1
  have hl := hz.2.1 e he
  intro i
  induction i with
  | zero => intro _; exact ⟨rfl, rfl⟩
  | succ i ih =>
    intro hi
    have ih := ih (by omega)
    rw [fg_rfI, fg_rsI, fg_rfN, fg_rsN, ih.1, ih.2, hr i (by omega)]
    by_cases hq : i < fg_zl z e
    · rw [if_pos hq]
      have hin := fg_rw_in hz he (Nat.le_refl _) hu hq
      generalize fg_rw z e s i = p at hin
      have h20 : (20 : Int32) ≤ nI p ↔ 20 ≤ p := nI_leI (a := 20) (by decide) (by omega)
      have h20' : nI p ≤ (20 : Int32) ↔ p ≤ 20 := nI_leI (b := 20) (by omega) (by decide)
      rw [if_neg (fg_nm1 (by omega))]
      by_cases hp : p < 20
      · rw [if_neg (fun q => by have := h20.mp q; omega), if_pos (h20'.mpr (by omega)), if_pos ⟨hq, hp⟩, if_neg (fun q => q.2 hp), fg_or0, Nat.or_zero, fg_shl1 (by omega), fg_or]
        exact ⟨rfl, rfl⟩
      · rw [if_pos (h20.mpr (by omega)), if_neg (show ¬ nI p ≤ 20 from fun q => by have := h20'.mp q; omega), if_neg (show ¬ (i < fg_zl z e ∧ p < 20) from fun q => hp q.2), if_pos (show i < fg_zl z e ∧ ¬ p < 20 from ⟨hq, hp⟩), fg_or0, Nat.or_zero, show nI p - 20 = nI (p - 20) from pk_sub (b := 20) (by omega), fg_shl1 (by omega), fg_or]
        exact ⟨rfl, rfl⟩
    · rw [if_neg hq, if_pos rfl, if_pos (show (-1 : Int32) ≤ 20 by decide), if_neg (show ¬ (i < fg_zl z e ∧ fg_rw z e s i < 20) from fun q => hq q.1), if_neg (show ¬ (i < fg_zl z e ∧ ¬ fg_rw z e s i < 20) from fun q => hq q.1), fg_or0, fg_or0, Nat.or_zero, Nat.or_zero]
      exact ⟨rfl, rfl⟩
theorem fg_rN_end {z : fg_Z} {e : Nat} {s : Nat × Nat} : ∀ m, fg_rfN z e s (fg_zl z e + m) = fg_rfN z e s (fg_zl z e) ∧ fg_rsN z e s (fg_zl z e + m) = fg_rsN z e s (fg_zl z e) := by
  intro m
  induction m with
  | zero => exact ⟨rfl, rfl⟩
  | succ m ih =>
    rw [← Nat.add_assoc, fg_rfN, fg_rsN, ih.1, ih.2, if_neg (by omega), if_neg (by omega), Nat.or_zero, Nat.or_zero]
    exact ⟨rfl, rfl⟩
theorem fg_tk_wo {z : fg_Z} {e : Nat} {s : Nat × Nat} (h1 : s.1 < 2 ^ 32) (h2 : s.2 < 2 ^ 32) : ∀ i t, i ≤ fg_zl z e → fg_tk z e s i = some t → t.1 = fg_wo s.1 (fg_rfN z e s i) ∧ t.2 = fg_wo s.2 (fg_rsN z e s i) := by
  intro i
  induction i with
  | zero =>
    intro t _ h
    cases h
    rw [fg_rfN, fg_rsN, fg_wo_z h1, fg_wo_z h2]
    exact ⟨rfl, rfl⟩
  | succ i ih =>
    intro t hi h
    cases h0 : fg_tk z e s i with
    | none => rw [fg_tk, h0] at h; cases h
    | some t0 =>
      have ih := ih t0 (by omega) h0
      have hrw : fg_rw z e s i = fg_pce z e t0.1 t0.2 i := by unfold fg_rw; rw [h0]
      rw [fg_tk, h0] at h
      simp only [← hrw] at h
      rw [fg_rfN, fg_rsN]
      split at h
      · cases h
      · split at h
        · rename_i hp
          cases h
          rw [if_pos ⟨by omega, hp⟩, if_neg (fun q => q.2 hp), Nat.or_zero, ← fg_wo_wo h1, ← ih.1, ← ih.2]
          exact ⟨rfl, rfl⟩
        · rename_i hp
          cases h
          rw [if_neg (fun q => hp q.2), if_pos ⟨by omega, hp⟩, Nat.or_zero, ← fg_wo_wo h2, ← ih.1, ← ih.2]
          exact ⟨rfl, rfl⟩
/-- signals of S up one behind the other -/
def fg_fly (z : fg_Z) (S : Nat) (s : Nat × Nat) : Nat → Option (Nat × Nat)
  | 0 => some s
  | i + 1 => match fg_fly z S s i with
    | none => none
    | some t => if S.testBit i then fg_tk z i t (fg_zl z i) else some t
def fg_flb (z : fg_Z) (T S : Nat) : Bool := decide (fg_cnt S 10 ≤ fg_zH z) && (fg_fly z S (fg_s0 z T) (fg_zs z)).isSome
theorem fg_fly_none {z : fg_Z} {S : Nat} {s : Nat × Nat} {i : Nat} (h : fg_fly z S s i = none) : ∀ m, fg_fly z S s (i + m) = none := by
  intro m
  induction m with
  | zero => exact h
  | succ m ih => rw [← Nat.add_assoc, fg_fly, ih]
theorem fg_cnt_le : ∀ S n, fg_cnt S n ≤ n := by
  intro S n
  induction n with
  | zero => exact Nat.le_refl _
  | succ n ih =>
    rw [fg_cnt]
    split <;> omega
section
variable {d : Nat} {Q : Int32 → fg_St → Prop} {z : fg_Z} {w : Nat → Int32}
theorem l_FS_flyTogether {σ : fg_St} {S : Nat} {s : Nat × Nat} (hX : fg_XI σ z w) (hS : S < 1024) (h1 : s.1 < 1024) (h2 : s.2 < 16) (H : ∀ u, fg_sm fg_pL σ u → Q (fg_b (fg_fly z S s (fg_zs z)).isSome) u) : ∀ m i (τ : fg_St) (t : Nat × Nat), i + m = fg_zs z → fg_fly z S s i = some t → t.1 ≤ s.1 → t.2 ≤ s.2 → fg_sm fg_pL σ τ → fg_F τ 31 0 = nI t.1 → fg_F τ 31 1 = nI t.2 → fg_Run (d + 3) 98 49 [some (.ref 0), some (.int (nI S)), some (.int (nI i))] [] τ Q := by
  have hs := hX.2.1.1.2.2.2
  intro m
  induction m with
  | zero =>
    intro i τ t hi ht _ _ hsm _ _
    have hi : i = fg_zs z := by omega
    subst hi
    have hX' := hX.sm (hsm.wk fg_pLX)
    refine b_FS_flyTogether_49 ⟨fg_kd6 hX'.1, fun _ => ?_, fun q => absurd ?_ q⟩
    · have := H τ hsm
      rw [ht] at this
      exact this
    · rw [hX'.2.2.1.1.2.2.2]
      exact nI_le (Nat.le_refl _) (by omega)
  | succ m ih =>
    intro i τ t hi ht hl1 hl2 hsm hf0 hf1
    have hX' := hX.sm (hsm.wk fg_pLX)
    refine b_FS_flyTogether_49 ⟨fg_kd6 hX'.1, fun q => absurd q (by rw [hX'.2.2.1.1.2.2.2]; exact nI_ge (by omega) (by omega)), fun _ => fg_use (r_FS_has (by omega) (by omega) ?_)⟩
    rw [nI_1]
    cases hb : S.testBit i
    · refine ⟨fun _ => ih (i + 1) τ t (by omega) ?_ hl1 hl2 hsm hf0 hf1, fun q => absurd rfl q⟩
      rw [fg_fly, ht]
      simp [hb]
    · refine ⟨fun q => absurd q (by decide), fun _ => ?_⟩
      refine fg_use (r_LK_take (FF := t.1) (FS := t.2) hX'.1 hX'.2.1 hX'.2.2.1 (show i < fg_zs z by omega) hf0 hf1 (by omega) (by omega) (fun u hsu htk => ?_))
      have hn : fg_fly z S s (i + 1) = fg_tk z i t (fg_zl z i) := by
        rw [fg_fly, ht]
        simp [hb]
      unfold fg_tkp at htk
      cases hk : fg_tk z i (t.1, t.2) (fg_zl z i) with
      | none =>
        refine ⟨fun q => absurd rfl q, fun _ => ?_⟩
        have := H u (hsm.tr hsu)
        have h0 := fg_fly_none (hn.trans hk) m
        rw [show i + 1 + m = fg_zs z by omega] at h0
        rw [h0] at this
        exact this
      | some t2 =>
        rw [hk] at htk
        have hbd := fg_tk_bd _ _ hk
        refine ⟨fun _ => ih (i + 1) u t2 (by omega) (hn.trans hk) (Nat.le_trans hbd.1 hl1) (Nat.le_trans hbd.2 hl2) (hsm.tr hsu) htk.1 htk.2.1, fun q => absurd q (by show ¬ fg_b true = 0; decide)⟩
/-- flyTogether -/
theorem r_FS_flyTogether {σ : fg_St} {S : Nat} (hX : fg_XI σ z w) (hS : S < 1024) (H : ∀ u, fg_sm fg_pL σ u → Q (fg_b (fg_flb z (fg_tn z w) S)) u) : fg_Run (d + 3) 98 0 [some (.ref 0), some (.int (nI S)), none] [] σ Q := by
  obtain ⟨h1, h2, h3, h4, h5⟩ := id hX
  have hb := fg_s0_lt (T := fg_tn z w) h2
  have hc := fg_cnt_le S 10
  have hH := h2.1.1
  refine b_FS_flyTogether_0 (fg_use (r_JI_bitCount hS ⟨fg_kd6 h1, ?_⟩))
  rw [h3.1.1, nI_leI (by omega) (by omega)]
  refine ⟨fun q => ⟨fg_kd6 h1, fg_use (r_SH_allFlags h1 h2 h3 ⟨fg_kd6 h1, fg_use (r_SH_allSubstitutes h1 h2 h3 (fg_use (b_LK_open_0 ?_)))⟩)⟩, fun q => ?_⟩
  · have h7 : fg_F σ 15 7 = nI (fg_tn z w) := h4.2.2.1
    rw [h7, fg_andn]
    have s1 : fg_sm fg_pL σ (fg_sF (fg_sF σ 31 0 (nI (fg_s0 z (fg_tn z w)).1)) 31 1 (nI (fg_s0 z (fg_tn z w)).2)) := (fg_sm_F (by decide)).tr (fg_sm_F (by decide))
    refine l_FS_flyTogether (s := fg_s0 z (fg_tn z w)) hX hS hb.1 hb.2 (fun u hu => ?_) (fg_zs z) 0 _ (fg_s0 z (fg_tn z w)) (by omega) rfl (Nat.le_refl _) (Nat.le_refl _) s1 rfl rfl
    have := H u hu
    unfold fg_flb at this
    rw [decide_eq_true q, Bool.true_and] at this
    exact this
  · have := H σ fg_sm.rfl'
    unfold fg_flb at this
    rw [decide_eq_false q, Bool.false_and] at this
    exact this
theorem l_MO_rowFlags {σ : fg_St} (H : Q (fg_rfI (fg_R σ 196) 4) σ) : ∀ m i, i + m = 4 → fg_Run d 147 4 [some (.ref 187), some (.int (fg_rfI (fg_R σ 196) i)), some (.int (nI i))] [] σ Q := by
  intro m
  induction m with
  | zero =>
    intro i hi
    have hi : i = 4 := by omega
    subst hi
    exact b_MO_rowFlags_4 ⟨fun _ => H, fun q => absurd (nI_le (a := 4) (b := 4) (by decide) (by decide)) q⟩
  | succ m ih =>
    intro i hi
    have ih := ih (i + 1) (by omega)
    rw [fg_rfI] at ih
    refine b_MO_rowFlags_4 ⟨fun q => absurd q (nI_ge (b := 4) (by omega) (by decide)), fun _ => ⟨vp_in_nI (by omega) (by decide), ?_⟩⟩
    rw [nI_clamp (by omega), nI_1]
    refine ⟨fun q => ?_, fun q => ⟨vp_in_nI (by omega) (by decide), fun q2 => ?_, fun q2 => ⟨vp_in_nI (by omega) (by decide), ?_⟩⟩⟩
    · rw [if_pos q] at ih; exact ih
    · rw [if_neg q, if_pos q2] at ih; exact ih
    · rw [if_neg q, if_neg q2] at ih; exact ih
theorem l_MO_rowSubs {σ : fg_St} (H : Q (fg_rsI (fg_R σ 196) 4) σ) : ∀ m i, i + m = 4 → fg_Run d 148 4 [some (.ref 187), some (.int (fg_rsI (fg_R σ 196) i)), some (.int (nI i))] [] σ Q := by
  intro m
  induction m with
  | zero =>
    intro i hi
    have hi : i = 4 := by omega
    subst hi
    exact b_MO_rowSubs_4 ⟨fun _ => H, fun q => absurd (nI_le (a := 4) (b := 4) (by decide) (by decide)) q⟩
  | succ m ih =>
    intro i hi
    have ih := ih (i + 1) (by omega)
    rw [fg_rsI] at ih
    refine b_MO_rowSubs_4 ⟨fun q => absurd q (nI_ge (b := 4) (by omega) (by decide)), fun _ => ⟨vp_in_nI (by omega) (by decide), ?_⟩⟩
    rw [nI_clamp (by omega), nI_1]
    refine ⟨fun q => ?_, fun q => ⟨vp_in_nI (by omega) (by decide), ?_⟩⟩
    · rw [if_pos q] at ih; exact ih
    · rw [if_neg q] at ih; exact ih
theorem l_MO_fly {σ : fg_St} {S : Nat} {s : Nat × Nat} (hM : fg_MI σ z) (hS : S < 1024) (h1 : s.1 < 1024) (h2 : s.2 < 16) (H : ∀ u, fg_sm fg_pR σ u → Q (fg_b (fg_fly z S s (fg_zs z)).isSome) u) : ∀ m i (τ : fg_St) (t : Nat × Nat), i + m = fg_zs z → fg_fly z S s i = some t → t.1 ≤ s.1 → t.2 ≤ s.2 → fg_sm fg_pR σ τ → fg_Run (d + 3) 149 42 [some (.ref 187), some (.int (nI S)), some (.int (nI t.1)), some (.int (nI t.2)), some (.int 1), some (.int (nI i))] [] τ Q := by
  have hs := hM.1.1.2.2.2
  intro m
  induction m with
  | zero =>
    intro i τ t hi ht _ _ hsm
    have hi : i = fg_zs z := by omega
    subst hi
    have hM' := hM.sm (hsm.wk fg_pRM)
    refine b_MO_fly_42 ⟨fun _ => ⟨Or.inr rfl, ?_⟩, fun q => absurd ?_ q⟩
    · have := H τ hsm
      rw [ht] at this
      exact this
    · rw [hM'.2.1.1.2.2.2]
      exact nI_le (Nat.le_refl _) (by omega)
  | succ m ih =>
    intro i τ t hi ht hl1 hl2 hsm
    have hM' := hM.sm (hsm.wk fg_pRM)
    refine b_MO_fly_42 ⟨fun q => absurd q (by rw [hM'.2.1.1.2.2.2]; exact nI_ge (by omega) (by omega)), fun _ => ⟨fun q => absurd q (by decide), fun _ => fg_use (r_MO_has (by omega) (by omega) ?_)⟩⟩
    rw [nI_1]
    cases hb : S.testBit i
    · refine ⟨fun _ => ih (i + 1) τ t (by omega) ?_ hl1 hl2 hsm, fun q => absurd rfl q⟩
      rw [fg_fly, ht]
      simp [hb]
    · refine ⟨fun q => absurd q (by decide), fun _ => ?_⟩
      have hn : fg_fly z S s (i + 1) = fg_tk z i t (fg_zl z i) := by
        rw [fg_fly, ht]
        simp [hb]
      refine fg_use (r_MO_goesUp (FF := t.1) (FS := t.2) hM'.1 hM'.2.1 (show i < fg_zs z by omega) (by omega) (by omega) (fun u hsu hrow hok => ?_))
      refine fg_use (b_MO_rowFlags_0 (l_MO_rowFlags ?_ 4 0 rfl))
      refine fg_use (b_MO_rowSubs_0 (l_MO_rowSubs ?_ 4 0 rfl))
      cases hk : fg_tk z i (t.1, t.2) (fg_zl z i) with
      | none =>
        have h0 := fg_fly_none (hn.trans hk) m
        rw [show i + 1 + m = fg_zs z by omega] at h0
        have := H u (hsm.tr hsu)
        rw [h0] at this
        exact b_MO_fly_42 ⟨fun _ => ⟨Or.inl rfl, this⟩, fun _ => ⟨fun _ => ⟨Or.inl rfl, this⟩, fun q => absurd rfl q⟩⟩
      | some t2 =>
        have hbd := fg_tk_bd _ _ hk
        have hup : fg_upb z (t.1, t.2) i = true := by unfold fg_upb; rw [hk]; rfl
        rw [hk] at hrow
        have hI := fg_rfI_N hM.1 (show i < fg_zs z by omega) hup (hrow rfl) 4 (Nat.le_refl _)
        have hE := fg_rN_end (z := z) (e := i) (s := (t.1, t.2)) (4 - fg_zl z i)
        have hl := hM.1.2.1 i (by omega)
        rw [show fg_zl z i + (4 - fg_zl z i) = 4 by omega] at hE
        have hw := fg_tk_wo (z := z) (e := i) (s := (t.1, t.2)) (by simp only; omega) (by simp only; omega) _ t2 (Nat.le_refl _) hk
        rw [hI.1, hI.2, hE.1, hE.2, fg_andn, fg_andn]
        simp only at hw
        rw [← hw.1, ← hw.2]
        exact ih (i + 1) u t2 (by omega) (hn.trans hk) (Nat.le_trans hbd.1 hl1) (Nat.le_trans hbd.2 hl2) (hsm.tr hsu)
/-- fly -/
theorem r_MO_fly {σ : fg_St} {S : Nat} (hM : fg_MI σ z) (hS : S < 1024) (H : ∀ u, fg_sm fg_pR σ u → Q (fg_b (fg_flb z (fg_tn z (fg_R σ 191)) S)) u) : fg_Run (d + 3) 149 0 [some (.ref 187), some (.int (nI S)), none, none, none, none] [] σ Q := by
  obtain ⟨h1, h2, h3, h4⟩ := id hM
  have hb := fg_s0_lt (T := fg_tn z (fg_R σ 191)) h1
  have hc := fg_cnt_le S 10
  have hH := h1.1.1
  refine b_MO_fly_0 (fg_use (r_MO_tornFlags h1.1.2.2.1 h2.1.2.2.1 (fg_use (r_MO_allSubs h1 h2 (fg_use (r_MO_bits (by omega) ?_))))))
  rw [h2.1.2.2.1, fg_all1 (by have := h1.1.2.2.1; omega), fg_andn, h2.1.1, nI_ltI (by omega) (by omega), fg_als_all _ (by have := h1.1.2.1; omega)]
  refine ⟨fun q => ?_, fun q => ?_⟩
  · have := H σ fg_sm.rfl'
    unfold fg_flb at this
    rw [decide_eq_false (by omega), Bool.false_and] at this
    exact b_MO_fly_42 ⟨fun _ => ⟨Or.inl rfl, this⟩, fun _ => ⟨fun _ => ⟨Or.inl rfl, this⟩, fun q => absurd rfl q⟩⟩
  · refine l_MO_fly (s := fg_s0 z (fg_tn z (fg_R σ 191))) hM hS hb.1 hb.2 (fun u hu => ?_) (fg_zs z) 0 _ (fg_s0 z (fg_tn z (fg_R σ 191))) (by omega) rfl (Nat.le_refl _) (Nat.le_refl _) fg_sm.rfl'
    have := H u hu
    unfold fg_flb at this
    rw [decide_eq_true (by omega), Bool.true_and] at this
    exact this
end
