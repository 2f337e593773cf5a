/-! THE CLASS READS THE WHOLE TEXT -/
section
variable {T : fg_GT} {S : fg_PS}
theorem fg_sgl_ok {f : Nat} : ∀ m n r p b, (∀ j, j < n → r j < f) → 1 ≤ n → n + m ≤ 4 → fg_sgl T f m n r p = .ok b → (1 ≤ b.1 ∧ b.1 ≤ 4) ∧ ∀ j, j < b.1 → b.2.1 j < f := by
  intro m
  induction m with
  | zero =>
    intro n r p b hr h1 h4 h
    rw [fg_sgl] at h
    cases h
    exact ⟨⟨h1, by omega⟩, hr⟩
  | succ m ih =>
    intro n r p b hr h1 h4 h
    rw [fg_sgl] at h
    split at h
    · split at h
      · cases h
      · rename_i a ha
        have hb := fg_nmb_in ha
        refine ih (n + 1) _ a.2 b (fun j hj => ?_) (by omega) (by omega) h
        show (if j = n then a.1 else r j) < f
        by_cases e : j = n
        · rw [if_pos e]
          exact hb.2
        · rw [if_neg e]
          exact hr j (by omega)
    · cases h
      exact ⟨⟨h1, by omega⟩, hr⟩
theorem fg_cla_ok {p : Nat} {a : fg_PS × Nat} (ok : fg_Sok S) (hH : 1 ≤ fg_zH S.1) (h : fg_cla T S p = .ok a) : fg_Sok a.1 ∧ 1 ≤ fg_zH a.1.1 := by
  unfold fg_cla at h
  have z3 := ok.1.1.2.2.1
  have z4 := ok.1.1.2.2.2
  split at h
  · split at h
    · cases h
    · rename_i h10
      split at h
      · cases h
      · rename_i k hk
        cases h
        refine ⟨?_, hH⟩
        unfold fg_flg at hk
        split at hk
        · cases hk
        · rename_i a1 e1
          split at hk
          · cases hk
          · rename_i a2 e2
            split at hk
            · cases hk
            · rename_i a3 e3
              split at hk
              · cases hk
              · cases hk
                have b1 := fg_nmb_in e1
                have b2 := fg_nmb_in e2
                have b3 := fg_nmb_in e3
                exact fg_adF_ok ok hH (by omega) (by show a1.1 ≤ 3; omega) (by show a2.1 ≤ 4; omega) (by show a3.1 ≤ 4; omega)
  · split at h
    · split at h
      · cases h
      · rename_i h10
        split at h
        · cases h
        · rename_i k hk
          cases h
          refine ⟨?_, hH⟩
          unfold fg_sig at hk
          split at hk
          · cases hk
          · rename_i a1 e1
            unfold fg_sge at hk
            split at hk
            · cases hk
            · rename_i b e2
              split at hk
              · cases hk
              · cases hk
                have b1 := fg_nmb_in e1
                obtain ⟨c1, c2⟩ := fg_sgl_ok 3 1 _ a1.2 b (fun j hj => b1.2) (by omega) (by omega) e2
                exact fg_adS_ok ok hH (by omega) c1.1 c1.2 c2
    · split at h
      · cases h
      · cases h
end
section
variable {d : Nat} {σ u : fg_St} {Q : Int32 → fg_St → Prop} {T : fg_GT} {p n k h : Nat} {wa : Int32} {S : fg_PS} {r : Nat → Nat}
theorem r_TX_parseClause (Sh : h = 3 ∨ h = 9) (D : fg_DS σ h S) (ok : fg_Sok S) (t : fg_TS σ T p 0 (-1)) (hp : fg_skp T p = p) (H : ∀ u, fg_sm (fg_pD h) σ u → (match fg_cla T S p with
    | .error x => fg_TE u T (.error x)
    | .ok a => fg_TS u T a.2 0 (-1) ∧ fg_DS u h a.1) → Q 0 u) : fg_Run (d + 3) 49 0 [some (.ref 1), some (.ref h), none] [] σ Q := by
  have p5 := fg_pT5 Sh
  refine b_TX_parseClause_0 Sh (fg_use (r_TX_next t (fun u1 m1 t1 => ?_)))
  rw [hp] at t1 ⊢
  have D1 := D.sm m1 p5
  have m1D := m1.wk (fg_pTD (h := h))
  rw [t1.2.1.2]
  refine ⟨fun n2 => ⟨fun n1 => ⟨fun n8 => ?_, fun e8 => ?_⟩, fun e1 => fg_use (r_TX_parseSignal Sh D1 ok t1 hp e1 (fun u m hu => H u (m1D.tr m) hu))⟩, fun e2 => fg_use (r_TX_parseFlag Sh D1 ok t1 hp e2 (fun u m hu => H u (m1D.tr m) hu))⟩
  · refine fg_use (r_TX_blame0 t1 (k := 1) (fun u m hu => H u (m1D.tr (m.wk fg_pTD)) ?_))
    rw [fg_cla, if_neg n2, if_neg n1, if_neg n8]
    exact ⟨by simp, p, hu⟩
  · refine fg_use (r_TX_blame0 t1 (k := 3) (fun u m hu => H u (m1D.tr (m.wk fg_pTD)) ?_))
    rw [fg_cla, if_neg n2, if_neg n1, if_pos e8]
    exact ⟨by simp, p, hu⟩
theorem l_TX_into (Sh : h = 3 ∨ h = 9) : ∀ m c S p (τ : fg_St), c + m = 240 → fg_sm (fg_pD h) σ τ → fg_DS τ h S → fg_Sok S → 1 ≤ fg_zH S.1 → fg_TS τ T p 0 (-1) → (∀ u x, fg_sm (fg_pD h) σ u → (match fg_all T m S p with
    | .ok S' => (x = 0 ∧ ∃ q, fg_TS u T q 0 (-1)) ∧ fg_DS u h S' ∧ fg_Sok S'
    | .error e => x = nI e.1 ∧ fg_TE u T (.error e)) → Q x u) → fg_Run (d + 4) 45 36 [some (.ref 1), some (.ref h), some (.int (nI c))] [] τ Q := by
  have p5 := fg_pT5 Sh
  intro m
  induction m with
  | zero =>
    intro c S p τ hc m1 D ok hH t H
    have hc : c = 240 := by omega
    subst hc
    refine b_TX_parseInto_36 Sh ⟨fun _ => ?_, fun q => absurd (nI_le (a := 240) (by omega) (by omega)) q⟩
    rw [t.2.2.1]
    exact H τ _ m1 ⟨⟨rfl, p, t⟩, D, ok⟩
  | succ m ih =>
    intro c S p τ hc m1 D ok hH t H
    refine b_TX_parseInto_36 Sh ⟨fun q => absurd q (nI_ge (b := 240) (by omega) (by decide)), fun _ => ⟨fun q => absurd t.2.2.1 q, fun _ => fg_use (r_TX_next t (fun u2 m2 t2 => ⟨fun q => ?_, fun q => ?_⟩))⟩⟩
    · have m2D := m1.tr (m2.wk (fg_pTD (h := h)))
      refine fg_use (r_TX_parseClause Sh (D.sm m2 p5) ok t2 (fg_skp_i _ p rfl) (fun u3 m3 h3 => ?_))
      rw [nI_1]
      cases hC : fg_cla T S (fg_skp T p) with
      | error e =>
        rw [hC] at h3
        have te : fg_TE u3 T (.error e) := h3
        have fin : Q (fg_F u3 1 3) u3 := by
          obtain ⟨hn, q3, t3⟩ := id te
          rw [t3.2.2.1]
          refine H u3 _ (m2D.tr m3) ?_
          rw [fg_all, if_neg q, hC]
          exact ⟨rfl, te⟩
        exact b_TX_parseInto_36 Sh ⟨fun _ => fin, fun _ => ⟨fun _ => fin, fun x => absurd x te.ne⟩⟩
      | ok a =>
        rw [hC] at h3
        obtain ⟨k1, k2⟩ := fg_cla_ok ok hH hC
        refine ih (c + 1) a.1 a.2 u3 (by omega) (m2D.tr m3) h3.2 k1 k2 h3.1 (fun u x mu hu => H u x mu ?_)
        rw [fg_all, if_neg q, hC]
        exact hu
    · rw [t2.2.2.1]
      refine H u2 _ (m1.tr (m2.wk fg_pTD)) ?_
      rw [fg_all, if_pos q]
      exact ⟨⟨rfl, _, t2⟩, D.sm m2 p5, ok⟩
theorem r_TX_parseInto (Sh : h = 3 ∨ h = 9) (t : fg_TxX σ T) (H : ∀ u x, fg_sm (fg_pD h) σ u → (match fg_prs T with
    | .ok S' => (x = 0 ∧ ∃ q, fg_TS u T q 0 (-1)) ∧ fg_DS u h S' ∧ fg_Sok S'
    | .error e => x = nI e.1 ∧ fg_TE u T (.error e)) → Q x u) : fg_Run (d + 4) 45 0 [some (.ref 1), some (.ref h), none] [] σ Q := by
  have p5 := fg_pT5 Sh
  have ph : ∀ k, fg_sm (fg_pD h) k k := fun k => fg_sm.rfl'
  refine b_TX_parseInto_0 Sh (fg_use (b_SH_strike_0 Sh ?_))
  have hh : fg_pD h h = true := fg_pD_h (by omega) (by omega)
  have M : fg_sm (fg_pD h) σ (fg_sF (fg_sF (fg_sF (fg_sF (fg_sF (fg_sF (fg_sF σ h 0 0) h 1 0) h 2 0) h 3 0) 1 2 0) 1 3 0) 1 4 (-1)) := ((((((fg_sm_F hh).tr (fg_sm_F hh)).tr (fg_sm_F hh)).tr (fg_sm_F hh)).tr (fg_sm_F fg_pD_1)).tr (fg_sm_F fg_pD_1)).tr (fg_sm_F fg_pD_1)
  have F0 : ∀ k, k < 4 → fg_F (fg_sF (fg_sF (fg_sF (fg_sF (fg_sF (fg_sF (fg_sF σ h 0 0) h 1 0) h 2 0) h 3 0) 1 2 0) 1 3 0) 1 4 (-1)) h k = 0 := fun k hk => by
    have hn : ¬ h = 1 := by omega
    simp only [fg_F_sF, hn, and_false, if_false]
    have : k = 0 ∨ k = 1 ∨ k = 2 ∨ k = 3 := by omega
    rcases this with rfl | rfl | rfl | rfl <;> simp
  have F1 : fg_TS (fg_sF (fg_sF (fg_sF (fg_sF (fg_sF (fg_sF (fg_sF σ h 0 0) h 1 0) h 2 0) h 3 0) 1 2 0) 1 3 0) 1 4 (-1)) T 0 0 (-1) := by
    refine ⟨⟨t.1, ?_, fun i hi => t.2.2 i hi⟩, ⟨by omega, rfl⟩, rfl, rfl⟩
    have hn : ¬ 1 = h := by omega
    simp only [fg_F_sF, hn, and_false, if_false]
    simp
    exact t.2.1
  generalize fg_sF (fg_sF (fg_sF (fg_sF (fg_sF (fg_sF (fg_sF σ h 0 0) h 1 0) h 2 0) h 3 0) 1 2 0) 1 3 0) 1 4 (-1) = τ at M F0 F1 ⊢
  have D0 : ∀ u, fg_F u h 2 = 0 → fg_F u h 3 = 0 → ∀ a b, fg_F u h 0 = nI a → fg_F u h 1 = nI b → fg_DS u h (fg_S1 a b) := fun u f2 f3 a b f0 f1 => ⟨⟨⟨f0, f1, f2, f3⟩, fun e he => absurd he (Nat.not_lt_zero _), fun e he => absurd he (Nat.not_lt_zero _)⟩, fun g hg => absurd hg (Nat.not_lt_zero _)⟩
  refine fg_use (r_TX_next F1 (fun u2 m2 t2 => ⟨fun q => ?_, fun q => ?_⟩))
  · have m2D := M.tr (m2.wk (fg_pTD (h := h)))
    have f2 := (m2.2 h (p5 h (by omega) (by omega))).1
    refine fg_use (r_TX_parseLines Sh t2 (fg_skp_i _ 0 rfl) (fun u3 m3 h3 => ?_))
    cases hC : fg_lnE T (fg_skp T 0) with
    | error e =>
      rw [hC] at h3
      have te : fg_TE u3 T (.error e) := h3
      have fin : Q (fg_F u3 1 3) u3 := by
        obtain ⟨hn, q3, t3⟩ := id te
        rw [t3.2.2.1]
        refine H u3 _ (m2D.tr m3) ?_
        rw [fg_prs, if_neg q, hC]
        exact ⟨rfl, te⟩
      exact b_TX_parseInto_36 Sh ⟨fun _ => fin, fun _ => ⟨fun _ => fin, fun x => absurd x te.ne⟩⟩
    | ok a =>
      rw [hC] at h3
      obtain ⟨t3, g0, g1, g2, g3⟩ := h3
      have hb : (1 ≤ a.1 ∧ a.1 ≤ 3) ∧ a.2.1 ≤ 3 := by
        unfold fg_lnE at hC
        split at hC
        · unfold fg_lin at hC
          split at hC
          · cases hC
          · rename_i a1 e1
            split at hC
            · cases hC
            · rename_i a2 e2
              split at hC
              · cases hC
              · cases hC
                have b1 := fg_nmb_in e1
                have b2 := fg_nmb_in e2
                exact ⟨⟨b1.1, by show a1.1 ≤ 3; omega⟩, by show a2.1 ≤ 3; omega⟩
        · cases hC
      have g2 : fg_F u3 h 2 = 0 := g2.trans ((f2 2).trans (F0 2 (by omega)))
      have g3 : fg_F u3 h 3 = 0 := g3.trans ((f2 3).trans (F0 3 (by omega)))
      refine l_TX_into Sh 240 0 (fg_S1 a.1 a.2.1) a.2.2 u3 (by omega) (m2D.tr m3) (D0 u3 g2 g3 a.1 a.2.1 g0 g1) (fg_S1_ok hb.1.1 hb.1.2 hb.2) hb.1.1 t3 (fun u x mu hu => H u x mu ?_)
      rw [fg_prs, if_neg q, hC]
      exact hu
  · have f2 := (m2.2 h (p5 h (by omega) (by omega))).1
    refine H u2 0 (M.tr (m2.wk fg_pTD)) ?_
    rw [fg_prs, if_pos q]
    exact ⟨⟨rfl, _, t2⟩, D0 u2 ((f2 2).trans (F0 2 (by omega))) ((f2 3).trans (F0 3 (by omega))) 0 0 ((f2 0).trans (F0 0 (by omega))) ((f2 1).trans (F0 1 (by omega))), fg_S1_ok0⟩
end
