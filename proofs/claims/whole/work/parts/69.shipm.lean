/-! SHIP: the reference -/
section
variable {T : fg_GT} {S : fg_PS}
theorem fg_nmb_pos {lo hi p : Nat} {a : Nat × Nat} (hp : p ≤ T.1) (h : fg_nmb T lo hi p = .ok a) : p < a.2 ∧ a.2 ≤ T.1 := by
  have h1 := fg_skp_le _ p rfl hp
  have h2 := fg_dgp_le _ (fg_skp T p) rfl h1.2
  unfold fg_nmb at h
  split at h
  · cases h
  · split at h
    · cases h
    · split at h
      · cases h
        show p < fg_dgp T (fg_skp T p) ∧ fg_dgp T (fg_skp T p) ≤ T.1
        omega
      · cases h
theorem fg_psc_pos {c p q : Nat} (hc : c < 256) (hp : p ≤ T.1) (h : fg_psc T c p = .ok q) : p < q ∧ q ≤ T.1 := by
  have h1 := fg_skp_le _ p rfl hp
  unfold fg_psc at h
  split at h
  · rename_i e
    have := (fg_let_lt (by omega) e).1
    cases h
    omega
  · cases h
theorem fg_sgl_pos {f : Nat} : ∀ m n r p b, p ≤ T.1 → fg_sgl T f m n r p = .ok b → p ≤ b.2.2 ∧ b.2.2 ≤ T.1 := by
  intro m
  induction m with
  | zero =>
    intro n r p b hp h
    rw [fg_sgl] at h
    cases h
    exact ⟨Nat.le_refl _, hp⟩
  | succ m ih =>
    intro n r p b hp h
    have h1 := fg_skp_le _ p rfl hp
    rw [fg_sgl] at h
    split at h
    · rename_i e
      have hl := (fg_let_lt (c := 44) (by decide) e).1
      split at h
      · cases h
      · rename_i a ha
        have h2 := fg_nmb_pos (by omega) ha
        have h3 := ih _ _ _ _ h2.2 h
        omega
    · cases h
      exact h1
theorem fg_cla_pos {p : Nat} {a : fg_PS × Nat} (hp : p ≤ T.1) (h : fg_cla T S p = .ok a) : p < a.2 ∧ a.2 ≤ T.1 := by
  unfold fg_cla at h
  split at h
  · rename_i e
    have hl := (fg_let_lt (c := 102) (by decide) e).1
    split at h
    · cases h
    · split at h
      · cases h
      · rename_i k hk
        cases h
        unfold fg_flg at hk
        split at hk
        · cases hk
        · rename_i a1 e1
          split at hk
          · cases hk
          · rename_i a2 e2
            split at hk
            · cases hk
            · rename_i a3 e3
              split at hk
              · cases hk
              · rename_i q e4
                cases hk
                have b1 := fg_nmb_pos (by omega) e1
                have b2 := fg_nmb_pos (by omega) e2
                have b3 := fg_nmb_pos (by omega) e3
                have b4 := fg_psc_pos (by decide) b3.2 e4
                show p < q ∧ q ≤ T.1
                omega
  · split at h
    · rename_i e
      have hl := (fg_let_lt (c := 101) (by decide) e).1
      split at h
      · cases h
      · split at h
        · cases h
        · rename_i k hk
          cases h
          unfold fg_sig at hk
          split at hk
          · cases hk
          · rename_i a1 e1
            unfold fg_sge at hk
            split at hk
            · cases hk
            · rename_i b e2
              split at hk
              · cases hk
              · rename_i q e4
                cases hk
                have b1 := fg_nmb_pos (by omega) e1
                have b2 := fg_sgl_pos _ _ _ _ _ b1.2 e2
                have b4 := fg_psc_pos (by decide) b2.2 e4
                show p < q ∧ q ≤ T.1
                omega
    · split at h
      · cases h
      · cases h
end
section
variable {d : Nat} {σ u τ : fg_St} {Q : Int32 → fg_St → Prop} {T : fg_GT} {p n : Nat} {S : fg_PS}
theorem r_MO_clause1 (t : fg_MS σ T p) (hp : fg_skp T p = p) (f14 : fg_F σ 187 14 = 0) (H : ∀ u x, fg_s8 σ u → (match fg_lnE T p with
    | .ok a => (x = 0 ∧ fg_MS u T a.2.2) ∧ (fg_F u 187 14 = nI a.1 ∧ fg_F u 187 15 = nI a.2.1 ∧ fg_F u 187 16 = fg_F σ 187 16 ∧ fg_F u 187 18 = fg_F σ 187 18)
    | .error e => x = nI e.1 ∧ fg_ME u T e) → Q x u) : fg_Run (d + 3) 123 0 [some (.ref 187), none, none, none, none] [] σ Q := by
  refine b_MO_takeClause_0 (fg_use (r_MO_here t (fun u2 m2 h2 => ?_)))
  rw [hp] at h2 ⊢
  have g14 : fg_F u2 187 14 = 0 := (m2.2.1 14 rfl).trans f14
  have bad : ¬ fg_let T p = 108 → (∃ P, fg_Run (d + 2) 118 0 [some (.ref 187), some (.int 1), some (.int (nI p))] [] u2 P ∧ ∀ x3 u4, P x3 u4 → Q x3 u4) := fun q => fg_use (r_MO_fails (k := 1) h2.1 (by decide) (fun u3 m3 h3 => H u3 _ (m2.tr m3).to8 (by
    rw [fg_lnE, if_neg q]
    exact ⟨rfl, h3⟩)))
  rw [g14, h2.2.1.2]
  refine ⟨fun q8 => ⟨fun q2 => ⟨fun q1 => bad q8, fun q1 => ⟨fun q0 => absurd rfl q0, fun _ => bad q8⟩⟩, fun q2 => ⟨fun q0 => absurd rfl q0, fun _ => bad q8⟩⟩, fun q8 => ⟨fun _ => ?_, fun q0 => absurd (by decide) q0⟩⟩
  have hl := (fg_let_lt (c := 108) (by decide) q8).1
  rw [nI_1]
  have m3 : fg_s3 u2 (fg_sF u2 187 12 (nI (p + 1))) := fg_s3_F (by decide)
  refine fg_use (r_MO_takeLines (h2.mv (p' := p + 1) (by omega)) (fun u4 x m4 h4 => ?_))
  refine l_MO_tail (G := fun u a => fg_GL u (fg_F (fg_sF u2 187 12 (nI (p + 1))) 187 16) (fg_F (fg_sF u2 187 12 (nI (p + 1))) 187 18) a) (fun v v' a mv hv => ⟨(mv.2.1 14 rfl).trans hv.1, (mv.2.1 15 rfl).trans hv.2.1, (mv.2.1 16 rfl).trans hv.2.2.1, (mv.2.1 18 rfl).trans hv.2.2.2⟩) h4 (fun u5 y m5 h5 => H u5 y (((m2.tr m3).to8.tr m4).tr m5.to8) ?_)
  rw [fg_lnE, if_pos q8]
  unfold fg_li2 at h5
  cases hL : fg_lin T (p + 1) with
  | error e =>
    rw [hL] at h5
    exact h5
  | ok a =>
    rw [hL] at h5
    exact ⟨h5.1, h5.2.1, h5.2.2.1, h5.2.2.2.1.trans ((m3.2.1 16 rfl).trans (m2.2.1 16 rfl)), h5.2.2.2.2.trans ((m3.2.1 18 rfl).trans (m2.2.1 18 rfl))⟩
theorem r_MO_clause (t : fg_MS σ T p) (hp : fg_skp T p = p) (r : fg_RS σ S) (ok : fg_Sok S) (hH : 1 ≤ fg_zH S.1) (H : ∀ u x, fg_s8 σ u → (match fg_cla T S p with
    | .ok a => (x = 0 ∧ fg_MS u T a.2) ∧ fg_RS u a.1
    | .error e => x = nI e.1 ∧ fg_ME u T e) → Q x u) : fg_Run (d + 3) 123 0 [some (.ref 187), none, none, none, none] [] σ Q := by
  have z1 := ok.1.1.1
  have z3 := ok.1.1.2.2.1
  have z4 := ok.1.1.2.2.2
  refine b_MO_takeClause_0 (fg_use (r_MO_here t (fun u2 m2 h2 => ?_)))
  rw [hp] at h2 ⊢
  have r2 := r.s3 m2
  have h0 : ¬ nI (fg_zH S.1) = 0 := nI_ne0 (by omega) (by omega)
  have c16 : nI (fg_zf S.1) = 10 ↔ fg_zf S.1 = 10 := nI_eq (b := 10) (by omega) (by decide)
  have c18 : nI (fg_zs S.1) = 10 ↔ fg_zs S.1 = 10 := nI_eq (b := 10) (by omega) (by decide)
  rw [r2.1.1, r2.1.2.2.1, r2.1.2.2.2, h2.2.1.2, c16, c18]
  have m3 : fg_s3 u2 (fg_sF u2 187 12 (nI (p + 1))) := fg_s3_F (by decide)
  have r3 := r2.s3 m3
  refine ⟨fun q8 => ⟨fun q2 => ⟨fun q1 => ?_, fun q1 => ⟨fun _ => ⟨fun q10 => ?_, fun q10 => ?_⟩, fun x => absurd x h0⟩⟩, fun q2 => ⟨fun _ => ⟨fun q10 => ?_, fun q10 => ?_⟩, fun x => absurd x h0⟩⟩, fun q8 => ⟨fun x => absurd x (nI_nle (by omega) (by omega)), fun _ => ?_⟩⟩
  · refine fg_use (r_MO_fails (k := 1) h2.1 (by decide) (fun u3 m3 h3 => H u3 _ (m2.tr m3).to8 ?_))
    rw [fg_cla, if_neg q2, if_neg q1, if_neg q8]
    exact ⟨rfl, h3⟩
  · have hl := (fg_let_lt (c := 101) (by decide) q1).1
    rw [nI_1]
    refine fg_use (r_MO_takeSignal ok (by omega) (h2.mv (p' := p + 1) (by omega)) r3 (fun u4 x m4 h4 => ?_))
    refine l_MO_tail (G := fun u (k : Nat × (Nat → Nat)) => fg_RS u (fg_adS S k.1 k.2)) (fun v v' a mv hv => hv.s3 mv) h4 (fun u5 y m5 h5 => H u5 y (((m2.tr m3).to8.tr m4).tr m5.to8) ?_)
    rw [fg_cla, if_neg q2, if_pos q1, if_neg q10]
    cases hL : fg_sig T (fg_zf S.1) (p + 1) with
    | error e =>
      rw [hL] at h5
      exact h5
    | ok a =>
      rw [hL] at h5
      exact h5
  · refine fg_use (r_MO_fails (k := 3) h2.1 (by decide) (fun u3 m3 h3 => H u3 _ (m2.tr m3).to8 ?_))
    rw [fg_cla, if_neg q2, if_pos q1, if_pos q10]
    exact ⟨rfl, h3⟩
  · have hl := (fg_let_lt (c := 102) (by decide) q2).1
    rw [nI_1]
    refine fg_use (r_MO_takeFlag (h2.mv (p' := p + 1) (by omega)) r3 (by omega) (fun u4 x m4 h4 => ?_))
    refine l_MO_tail (G := fun u (k : Nat × Nat × Nat) => fg_RS u (fg_adF S k)) (fun v v' a mv hv => hv.s3 mv) h4 (fun u5 y m5 h5 => H u5 y (((m2.tr m3).to8.tr m4).tr m5.to8) ?_)
    rw [fg_cla, if_pos q2, if_neg q10]
    cases hL : fg_flg T (p + 1) with
    | error e =>
      rw [hL] at h5
      exact h5
    | ok a =>
      rw [hL] at h5
      exact h5
  · refine fg_use (r_MO_fails (k := 3) h2.1 (by decide) (fun u3 m3 h3 => H u3 _ (m2.tr m3).to8 ?_))
    rw [fg_cla, if_pos q2, if_pos q10]
    exact ⟨rfl, h3⟩
  · refine fg_use (r_MO_fails (k := 3) h2.1 (by decide) (fun u3 m3 h3 => H u3 _ (m2.tr m3).to8 ?_))
    rw [fg_cla, if_neg (by rw [q8]; decide), if_neg (by rw [q8]; decide), if_pos q8]
    exact ⟨rfl, h3⟩
theorem l_MO_copy {h1 h2 n : Nat} (k1 : fg_kd h1 = 11) (k2 : fg_kd h2 = 11) (n1 : n ≤ fg_ln h1) (n2 : n ≤ fg_ln h2) (l1 : fg_ln h1 < 2 ^ 31) (l2 : fg_ln h2 < 2 ^ 31) (ne : h1 ≠ h2) (H : ∀ u, fg_sm (fun g => g == h2) σ u → (∀ k, fg_R u h2 k = if k < n then fg_R σ h1 k else fg_R σ h2 k) → Q 0 u) : ∀ m i (τ : fg_St), i + m = n → fg_sm (fun g => g == h2) σ τ → (∀ k, fg_R τ h2 k = if k < i then fg_R σ h1 k else fg_R σ h2 k) → fg_Run d 124 2 [some (.ref h1), some (.ref h2), some (.int (nI n)), some (.int (nI i))] [] τ Q := by
  intro m
  induction m with
  | zero =>
    intro i τ hi m1 hr
    have hi : i = n := by omega
    subst hi
    exact b_MO_copyRow_2 ⟨fun _ => H τ m1 hr, fun q => absurd (nI_le (Nat.le_refl _) (by omega)) q⟩
  | succ m ih =>
    intro i τ hi m1 hr
    refine b_MO_copyRow_2 ⟨fun q => absurd q (nI_ge (by omega) (by omega)), fun _ => ⟨k1, vp_in_nI (by omega) l1, k2, vp_in_nI (by omega) l2, ?_⟩⟩
    rw [nI_clamp (by omega), nI_1]
    refine ih (i + 1) _ (by omega) (m1.tr (fg_sm_R (by simp))) (fun k => ?_)
    rw [fg_R_eq]
    have e1 : fg_R τ h1 i = fg_R σ h1 i := (m1.2 h1 (by simpa using ne)).2 i
    by_cases e : k = i
    · rw [e, fg_ut_s, if_pos (by omega), e1]
    · rw [fg_ut_n e, hr k]
      by_cases e2 : k < i
      · rw [if_pos e2, if_pos (by omega)]
      · rw [if_neg e2, if_neg (by omega)]
theorem r_MO_copy {h1 h2 n : Nat} (k1 : fg_kd h1 = 11) (k2 : fg_kd h2 = 11) (n1 : n ≤ fg_ln h1) (n2 : n ≤ fg_ln h2) (l1 : fg_ln h1 < 2 ^ 31) (l2 : fg_ln h2 < 2 ^ 31) (ne : h1 ≠ h2) (H : ∀ u, fg_sm (fun g => g == h2) σ u → (∀ k, fg_R u h2 k = if k < n then fg_R σ h1 k else fg_R σ h2 k) → Q 0 u) : fg_Run d 124 0 [some (.ref h1), some (.ref h2), some (.int (nI n)), none] [] σ Q :=
  b_MO_copyRow_0 (l_MO_copy k1 k2 n1 n2 l1 l2 ne H n 0 σ (by omega) fg_sm.rfl' (fun k => by rw [if_neg (by omega)]))
def fg_b0 (k : Nat) : Int32 := if (20 ≤ k ∧ k < 30) ∨ (40 ≤ k ∧ k < 58) then -1 else 0
theorem l_MO_begin (H : ∀ u, fg_sm fg_p191 σ u → (∀ k, fg_R u 191 k = if k < 61 then fg_b0 k else fg_R σ 191 k) → (∃ P, fg_Run d 124 0 [some (.ref 188), some (.ref 191), some (.int (fg_F u 187 2)), none] [] u P ∧ ∀ x1 u2, P x1 u2 → (((fg_F u2 187 0) ≤ 0 → Q 0 (fg_sR u2 191 59 0)) ∧ (¬ ((fg_F u2 187 0) ≤ 0) → Q 0 (fg_sR u2 191 59 1))))) : ∀ m i (τ : fg_St), i + m = 61 → fg_sm fg_p191 σ τ → (∀ k, fg_R τ 191 k = if k < i then fg_b0 k else fg_R σ 191 k) → fg_Run (d + 1) 125 2 [some (.ref 187), some (.int (nI i))] [] τ Q := by
  intro m
  induction m with
  | zero =>
    intro i τ hi m1 hr
    have hi : i = 61 := by omega
    subst hi
    exact b_MO_beginAll_2 ⟨fun _ => H τ m1 hr, fun q => absurd (nI_le (a := 61) (by omega) (by omega)) q⟩
  | succ m ih =>
    intro i τ hi m1 hr
    have vi : vp_in (nI i) 61 := vp_in_nI (by omega) (by decide)
    have step : ∀ x, x = fg_b0 i → fg_Run (d + 1) 125 2 [some (.ref 187), some (.int (nI (i + 1)))] [] (fg_sR τ 191 i x) Q := fun x hx => ih (i + 1) _ (by omega) (m1.tr (fg_sm_R (by decide))) (fun k => by
      rw [fg_R_eq]
      by_cases e : k = i
      · rw [e, fg_ut_s, if_pos (by omega), hx]
      · rw [fg_ut_n e, hr k]
        by_cases e2 : k < i
        · rw [if_pos e2, if_pos (by omega)]
        · rw [if_neg e2, if_neg (by omega)])
    refine b_MO_beginAll_2 ⟨fun q => absurd q (nI_ge (b := 61) (by omega) (by decide)), fun _ => ?_⟩
    rw [nI_clamp (by omega), nI_1]
    have ir : ∀ lo hi, lo < 2 ^ 31 → hi < 2 ^ 31 → (fg_isr (nI i) lo hi = true ↔ lo ≤ i ∧ i ≤ hi) := fun lo hi h1 h2 => by
      unfold fg_isr
      rw [nI_toInt (by omega), decide_eq_true_eq]
      omega
    refine fg_use (r_MO_inr (lo := 20) (hi := 29) rfl rfl (fg_bt (fun q => ⟨vi, step _ ?_⟩) (fun q => fg_use (r_MO_inr (lo := 40) (hi := 57) rfl rfl (fg_bt' (fun q2 => ⟨vi, step _ ?_⟩) (fun q2 => ⟨vi, step _ ?_⟩))))))
    · have := (ir 20 29 (by decide) (by decide)).mp q
      unfold fg_b0
      rw [if_pos (by omega)]
    · have := (ir 40 57 (by decide) (by decide)).mp q2
      unfold fg_b0
      rw [if_pos (by omega)]
    · have a1 : ¬ (20 ≤ i ∧ i ≤ 29) := fun x => by
        rw [(ir 20 29 (by decide) (by decide)).mpr x] at q
        cases q
      have a2 : ¬ (40 ≤ i ∧ i ≤ 57) := fun x => by
        rw [(ir 40 57 (by decide) (by decide)).mpr x] at q2
        cases q2
      unfold fg_b0
      rw [if_neg (by omega)]
theorem r_MO_begin (ok : fg_Sok S) (f0 : fg_F σ 187 0 = nI (fg_zH S.1)) (f2 : fg_F σ 187 2 = nI (fg_zf S.1)) (hr : ∀ g, g < fg_zf S.1 → fg_R σ 188 g = nI (100 * (S.2 g).1 + 10 * (S.2 g).2.1 + (S.2 g).2.2)) (H : ∀ u, fg_sm fg_p191 σ u → fg_R u 191 = fg_w61 (fg_w0 S) (fg_R σ 191) → Q 0 u) : fg_Run (d + 1) 125 0 [some (.ref 187), none] [] σ Q := by
  have z1 := ok.1.1.1
  have z3 := ok.1.1.2.2.1
  refine b_MO_beginAll_0 (l_MO_begin (fun u m hu => ?_) 61 0 σ rfl fg_sm.rfl' (fun k => by rw [if_neg (by omega)]))
  rw [(m.2 187 (by decide)).1 2, f2]
  refine fg_use (r_MO_copy (h1 := 188) (h2 := 191) (by decide) (by decide) (show _ ≤ 10 from z3) (show _ ≤ 61 by omega) (by decide) (by decide) (by decide) (fun u2 m2 h2 => ?_))
  have m2' : fg_sm fg_p191 u u2 := m2
  have e0 : fg_F u2 187 0 = nI (fg_zH S.1) := ((m2.2 187 (by decide)).1 0).trans (((m.2 187 (by decide)).1 0).trans f0)
  have c0 : nI (fg_zH S.1) ≤ 0 ↔ fg_zH S.1 ≤ 0 := nI_leI (b := 0) (by omega) (by decide)
  have fin : ∀ x : Int32, x = fg_w0 S 59 → Q 0 (fg_sR u2 191 59 x) := fun x hx => by
    refine H _ ((m.tr m2').tr (fg_sm_R (by decide))) ?_
    funext k
    rw [fg_R_eq]
    unfold fg_w61
    by_cases e : k = 59
    · rw [e, fg_ut_s, if_pos (by omega), hx]
    · rw [fg_ut_n e, h2 k]
      by_cases e2 : k < fg_zf S.1
      · rw [if_pos e2, if_pos (by omega), (m.2 188 (by decide)).2 k, hr k e2]
        unfold fg_w0
        rw [if_pos e2]
      · rw [if_neg e2, hu k]
        by_cases e3 : k < 61
        · rw [if_pos e3, if_pos e3]
          unfold fg_w0 fg_b0
          rw [if_neg e2, if_neg e]
        · rw [if_neg e3, if_neg e3]
  rw [e0, c0]
  refine ⟨fun q => fin 0 ?_, fun q => fin 1 ?_⟩
  · rw [fg_w0_59 ok, if_pos (by omega)]
  · rw [fg_w0_59 ok, if_neg (by omega)]
end
