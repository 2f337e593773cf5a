/-! THE REFERENCE READS THE TEXT -/
def fg_MS (σ : fg_St) (T : fg_GT) (p : Nat) : Prop := fg_TxM σ T ∧ (p ≤ T.1 ∧ fg_F σ 187 12 = nI p) ∧ fg_F σ 187 11 = -1
def fg_ME (σ : fg_St) (T : fg_GT) (e : Nat × Nat) : Prop := (1 ≤ e.1 ∧ e.1 ≤ 3) ∧ fg_F σ 187 11 = nI e.2 ∧ fg_TxM σ T
def fg_pt3 (k : Nat) : Bool := k == 11 || k == 12 || k == 13
def fg_s3 (σ u : fg_St) : Prop := fg_sm fg_pN σ u ∧ fg_sn fg_pt3 fg_no σ u
section
variable {d : Nat} {σ u τ : fg_St} {Q : Int32 → fg_St → Prop} {T : fg_GT} {p n : Nat}
theorem fg_s3.rf : fg_s3 σ σ := ⟨fg_sm.rfl', fg_sn.rf⟩
theorem fg_s3.tr (a : fg_s3 σ τ) (b : fg_s3 τ u) : fg_s3 σ u := ⟨a.1.tr b.1, a.2.tr b.2⟩
theorem fg_s3_F {k : Nat} {x : Int32} (h : fg_pt3 k = true) : fg_s3 σ (fg_sF σ 187 k x) := ⟨fg_sm_F (by decide), fg_sn_F h⟩
theorem fg_MS.mv (h : fg_MS σ T p) {p' : Nat} (hp : p' ≤ T.1) : fg_MS (fg_sF σ 187 12 (nI p')) T p' := ⟨h.1, ⟨hp, rfl⟩, h.2.2⟩
theorem fg_ME.mv {e : Nat × Nat} (h : fg_ME σ T e) {x : Int32} : fg_ME (fg_sF σ 187 12 x) T e := ⟨h.1, h.2.1, h.2.2⟩
theorem l_MO_here : ∀ m p (σ : fg_St), T.1 - p = m → fg_MS σ T p → (∀ u, fg_s3 σ u → fg_MS u T (fg_skp T p) → Q (fg_let T (fg_skp T p)) u) → fg_Run d 117 0 [some (.ref 187)] [] σ Q := by
  intro m
  induction m with
  | zero =>
    intro p σ hm h H
    obtain ⟨⟨t1, t2, t3⟩, ⟨hp, e2⟩, e3⟩ := id h
    rw [fg_skp_ge (by omega)] at H
    have H := H σ fg_s3.rf h
    rw [fg_let, if_neg (by omega)] at H
    refine b_MO_here_0 ?_
    rw [t2, e2]
    have c : nI T.1 ≤ nI p := nI_le (by omega) (by omega)
    exact ⟨fun _ => ⟨fun _ => H, fun q => absurd c q⟩, fun q => absurd c q⟩
  | succ m ih =>
    intro p σ hm h H
    obtain ⟨⟨t1, t2, t3⟩, ⟨hp, e2⟩, e3⟩ := id h
    have hl : p < T.1 := by omega
    have c : ¬ nI T.1 ≤ nI p := nI_ge (by omega) (by omega)
    have vi : vp_in (nI p) 240 := vp_in_nI (by omega) (by decide)
    have c32 : nI (T.2 p) = 32 ↔ T.2 p = 32 := nI_eq (b := 32) (by have := (t3 p hl).2; omega) (by decide)
    refine b_MO_here_0 ?_
    rw [t2, e2, nI_clamp (by omega), (t3 p hl).1, nI_1, c32]
    refine ⟨fun q => absurd q c, fun _ => ⟨vi, fun q => ⟨fun q => absurd q c, fun _ => ⟨vi, ?_⟩⟩, fun q => ih (p + 1) _ (by omega) (h.mv (by omega)) (fun u mu hu => ?_)⟩⟩
    · rw [fg_skp_n hl q] at H
      have H := H σ fg_s3.rf h
      rw [fg_let, if_pos hl] at H
      exact H
    · rw [fg_skp_b hl q] at H
      exact H u ((fg_s3_F (by decide)).tr mu) hu
theorem r_MO_here (h : fg_MS σ T p) (H : ∀ u, fg_s3 σ u → fg_MS u T (fg_skp T p) → Q (fg_let T (fg_skp T p)) u) : fg_Run d 117 0 [some (.ref 187)] [] σ Q := l_MO_here _ p σ rfl h H
theorem r_MO_fails {k q : Nat} (t : fg_TxM σ T) (hk : 1 ≤ k ∧ k ≤ 3) (H : ∀ u, fg_s3 σ u → fg_ME u T (k, q) → Q (nI k) u) : fg_Run d 118 0 [some (.ref 187), some (.int (nI k)), some (.int (nI q))] [] σ Q :=
  b_MO_fails_0 (H _ (fg_s3_F (by decide)) ⟨hk, rfl, t⟩)
theorem l_MO_number {lo hi f : Nat} {y2 : Int32} (hf : f ≤ T.1) (hlo : lo < 256) (hhi : ∀ v : Nat, v ≤ 999 → ((v : Int) ≤ y2.toInt ↔ v < hi)) (H : ∀ u x, fg_s3 σ u → (if 3 < fg_dgp T f - f then (x = nI 2 ∧ fg_ME u T (2, f)) else if lo ≤ fg_val T f (fg_dgp T f - f) ∧ fg_val T f (fg_dgp T f - f) < hi then ((x = 0 ∧ fg_MS u T (fg_dgp T f)) ∧ fg_F u 187 13 = nI (fg_val T f (fg_dgp T f - f))) else (x = nI 2 ∧ fg_ME u T (2, f))) → Q x u) : ∀ m a c (τ : fg_St), T.1 - a = m → fg_s3 σ τ → fg_MS τ T a → f ≤ a → fg_dgp T a = fg_dgp T f → (∀ i, f ≤ i → i < a → T.2 i ≤ 57) → (fg_F τ 187 13 = nI c ∧ c ≤ 100009 ∧ (a - f ≤ 3 → c = fg_val T f (a - f))) → fg_Run (d + 1) 119 40 [some (.ref 187), some (.int (nI lo)), some (.int y2), none, some (.int (nI f))] [] τ Q := by
  have fin : ∀ a c (τ : fg_St), fg_s3 σ τ → fg_MS τ T a → f ≤ a → fg_dgp T f = a → (∀ i, f ≤ i → i < a → T.2 i ≤ 57) → (fg_F τ 187 13 = nI c ∧ c ≤ 100009 ∧ (a - f ≤ 3 → c = fg_val T f (a - f))) → ((3 < (nI a - nI f) → (∃ P, fg_Run d 118 0 [some (.ref 187), some (.int 2), some (.int (nI f))] [] τ P ∧ ∀ x1 u2, P x1 u2 → Q x1 u2)) ∧ (¬ (3 < (nI a - nI f)) → (∃ P, fg_Run d 110 0 [some (.long ((fg_F τ 187 13).toInt64)), none, some (.long (nI lo).toInt64), none, some (.long y2.toInt64), none] [] τ P ∧ ∀ x3 u4, P x3 u4 → ((¬ x3 = 0 → Q 0 u4) ∧ (x3 = 0 → (∃ P, fg_Run d 118 0 [some (.ref 187), some (.int 2), some (.int (nI f))] [] u4 P ∧ ∀ x5 u6, P x5 u6 → Q x5 u6)))))) := by
    intro a c τ m1 hS hfa ed dig hc
    obtain ⟨⟨t1, t2, t3⟩, ⟨hp, e2⟩, e3⟩ := id hS
    have es : nI a - nI f = nI (a - f) := pk_sub hfa
    have c3 : 3 < nI (a - f) ↔ 3 < a - f := nI_ltI (a := 3) (by decide) (by omega)
    rw [es, c3]
    rw [ed] at H
    refine ⟨fun q => fg_use (r_MO_fails (k := 2) hS.1 (by decide) (fun u m2 h2 => H u _ (m1.tr m2) ?_)), fun q => ?_⟩
    · rw [if_pos q]
      exact ⟨rfl, h2⟩
    · have ec := hc.2.2 (by omega)
      have vb := fg_val_b (T := T) (p := f) (a - f) (fun i hi => dig (f + i) (by omega) (by omega))
      have v1 : fg_val T f (a - f) ≤ 999 := by
        have : 10 ^ (a - f) ≤ 10 ^ 3 := Nat.pow_le_pow_right (by decide) (by omega)
        omega
      rw [hc.1, ec]
      refine fg_use (r_MO_in ?_)
      have dd : decide ((nI lo).toInt64.toInt ≤ (nI (fg_val T f (a - f))).toInt64.toInt ∧ (nI (fg_val T f (a - f))).toInt64.toInt ≤ y2.toInt64.toInt) = decide (lo ≤ fg_val T f (a - f) ∧ fg_val T f (a - f) < hi) := by
        rw [fg_i64, fg_i64, fg_i64, nI_toInt (by omega), nI_toInt (by omega)]
        congr 1
        apply propext
        rw [hhi _ v1]
        omega
      rw [dd]
      refine fg_bt (fun q2 => ?_) (fun q2 => fg_use (r_MO_fails (k := 2) hS.1 (by decide) (fun u m2 h2 => H u _ (m1.tr m2) ?_)))
      · have q2 := of_decide_eq_true q2
        refine H τ 0 m1 ?_
        rw [if_neg q, if_pos q2]
        exact ⟨⟨rfl, hS⟩, by rw [hc.1, ec]⟩
      · have q2 := of_decide_eq_false q2
        rw [if_neg q, if_neg q2]
        exact ⟨rfl, h2⟩
  intro m
  induction m with
  | zero =>
    intro a c τ hm m1 hS hfa ed dig hc
    obtain ⟨⟨t1, t2, t3⟩, ⟨hp, e2⟩, e3⟩ := id hS
    have cc : nI T.1 ≤ nI a := nI_le (by omega) (by omega)
    refine b_MO_takeNumber_40 ?_
    rw [t2, e2]
    refine ⟨fun _ => fin a c τ m1 hS hfa ?_ dig hc, fun q => absurd cc q⟩
    rw [← ed]
    exact fg_dgp_ge (by omega)
  | succ m ih =>
    intro a c τ hm m1 hS hfa ed dig hc
    obtain ⟨⟨t1, t2, t3⟩, ⟨hp, e2⟩, e3⟩ := id hS
    have hl : a < T.1 := by omega
    have cc : ¬ nI T.1 ≤ nI a := nI_ge (by omega) (by omega)
    have vi : vp_in (nI a) 240 := vp_in_nI (by omega) (by decide)
    have tb := (t3 a hl).2
    refine b_MO_takeNumber_40 ?_
    rw [t2, e2, nI_clamp (by omega), (t3 a hl).1]
    refine ⟨fun q => absurd q cc, fun _ => ⟨vi, fg_use (r_MO_inr (lo := 48) (hi := 57) rfl rfl (fg_bt' (fun q => ?_) (fun q => ?_)))⟩⟩
    · obtain ⟨j, j1, j2, ej⟩ := fg_isr_t q (by decide)
      have ej : T.2 a = j := (nI_eq (by omega) (by omega)).mp ej
      have sa : fg_F τ 187 12 = nI a := e2
      have step : ∀ c', (c' ≤ 100009 ∧ (a + 1 - f ≤ 3 → c' = fg_val T f (a + 1 - f))) → fg_Run (d + 1) 119 40 [some (.ref 187), some (.int (nI lo)), some (.int y2), none, some (.int (nI f))] [] (fg_sF (fg_sF τ 187 13 (nI c')) 187 12 (nI (a + 1))) Q := fun c' hc' => ih (a + 1) c' _ (by omega) (m1.tr ((fg_s3_F (by decide)).tr (fg_s3_F (by decide)))) ⟨hS.1, ⟨by omega, rfl⟩, hS.2.2⟩ (by omega) (by rw [← ed]; exact (fg_dgp_b hl (by omega)).symm) (fun i h1 h2 => by
        by_cases e : i = a
        · rw [e]; omega
        · exact dig i h1 (by omega)) ⟨rfl, hc'⟩
      have cl : nI c ≤ 10000 ↔ c ≤ 10000 := nI_leI (b := 10000) (by omega) (by decide)
      rw [sa, nI_clamp (by omega), (t3 a hl).1, hc.1, cl, nI_1]
      refine ⟨fun q2 => ⟨vi, ?_⟩, fun q2 => step c ⟨by omega, fun q3 => ?_⟩⟩
      · have ev : 10 * nI c + nI (T.2 a) - 48 = nI (10 * c + (T.2 a - 48)) := by
          rw [show (10 : Int32) = nI 10 from rfl, show (48 : Int32) = nI 48 from rfl, pk_mul, nI_add, pk_sub (by omega)]
          congr 1
          omega
        rw [ev]
        refine step _ ⟨by omega, fun q3 => ?_⟩
        have := hc.2.2 (by omega)
        rw [show a + 1 - f = (a - f) + 1 by omega, fg_val, show f + (a - f) = a by omega, ← this]
        omega
      · have e1 := hc.2.2 (by omega)
        have vb := fg_val_b (T := T) (p := f) (a - f) (fun i hi => dig (f + i) (by omega) (by omega))
        have : 10 ^ (a - f) ≤ 10 ^ 3 := Nat.pow_le_pow_right (by decide) (by omega)
        omega
    · have q' : ¬ (48 ≤ T.2 a ∧ T.2 a ≤ 57) := fun x => by
        rw [fg_isr_nI x.1 x.2 (by decide)] at q
        cases q
      rw [e2]
      refine fin a c τ m1 hS hfa ?_ dig hc
      rw [← ed]
      exact fg_dgp_n hl q'
/-- what a number's end says -/
def fg_NR (u : fg_St) (T : fg_GT) (x : Int32) : fg_Ex (Nat × Nat) → Prop
  | .ok a => (x = 0 ∧ fg_MS u T a.2) ∧ fg_F u 187 13 = nI a.1
  | .error e => x = nI e.1 ∧ fg_ME u T e
theorem r_MO_number {lo hi : Nat} {y2 : Int32} (hlo : lo < 256) (hhi : ∀ v : Nat, v ≤ 999 → ((v : Int) ≤ y2.toInt ↔ v < hi)) (h : fg_MS σ T p) (H : ∀ u x, fg_s3 σ u → fg_NR u T x (fg_nmb T lo hi p) → Q x u) : fg_Run (d + 1) 119 0 [some (.ref 187), some (.int (nI lo)), some (.int y2), none, none] [] σ Q := by
  have hb := fg_skp_le _ p rfl h.2.1.1
  refine b_MO_takeNumber_0 (fg_use (r_MO_here h (fun u m hu => fg_use (r_MO_inr (lo := 48) (hi := 57) rfl rfl (fg_bt (fun q => ?_) (fun q => ?_))))))
  · obtain ⟨j, j1, j2, ej⟩ := fg_isr_t q (by decide)
    obtain ⟨hl, e2⟩ := fg_let_lt (by omega) ej
    have tb := (hu.1.2.2 (fg_skp T p) hl).2
    have ej : T.2 (fg_skp T p) = j := (nI_eq (by omega) (by omega)).mp e2
    have d1 := fg_dgp_b (T := T) hl (by omega)
    have d2 := fg_dgp_le (T := T) _ (fg_skp T p + 1) rfl (by omega)
    rw [hu.2.1.2]
    refine l_MO_number (σ := u) (lo := lo) (hi := hi) hb.2 hlo hhi (fun u2 x m2 h2 => H u2 x (m.tr m2) ?_) _ (fg_skp T p) 0 _ rfl (fg_s3_F (by decide)) ⟨hu.1, hu.2.1, hu.2.2⟩ (Nat.le_refl _) rfl (fun i h1 h2 => absurd h1 (by omega)) ⟨rfl, by omega, fun _ => by rw [show fg_skp T p - fg_skp T p = 0 by omega]; rfl⟩
    unfold fg_nmb
    rw [if_neg (by omega)]
    split at h2
    · rename_i q2
      rw [if_pos q2]
      exact h2
    · rename_i q2
      rw [if_neg q2]
      split at h2
      · rename_i q3
        rw [if_pos q3]
        exact h2
      · rename_i q3
        rw [if_neg q3]
        exact h2
  · rw [hu.2.1.2]
    refine fg_use (r_MO_fails (k := 1) hu.1 (by decide) (fun u2 m2 h2 => H u2 _ (m.tr m2) ?_))
    have e0 : fg_dgp T (fg_skp T p) = fg_skp T p := by
      by_cases hl : fg_skp T p < T.1
      · refine fg_dgp_n hl (fun x => ?_)
        unfold fg_let at q
        rw [if_pos hl, fg_isr_nI x.1 x.2 (by decide)] at q
        cases q
      · exact fg_dgp_ge (by omega)
    unfold fg_nmb
    rw [if_pos e0]
    exact ⟨rfl, h2⟩
end
