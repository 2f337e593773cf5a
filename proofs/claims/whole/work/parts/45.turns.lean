/-! TURNS -/
noncomputable def fg_fsX (F : Nat → Bool) (S : Nat) : Int32 := @Classical.epsilon Int32 ⟨0⟩ (fun x => fg_fst (fg_fgp F S) S x)
theorem fg_fsX_eq {F : Nat → Bool} {S : Nat} {x : Int32} (h : fg_fst (fg_fgp F S) S x) : fg_fsX F S = x := fg_fst_uniq (Classical.epsilon_spec_aux ⟨0⟩ _ ⟨x, h⟩) h
noncomputable def fg_trA (z : fg_Z) (w : Nat → Int32) (a b : Int32) : Int32 := if fg_isn a (2 ^ fg_zs z) = true then (if fg_isr b 0 1 = true then (if fg_fr (fg_flb z (fg_tn z w)) a.toNatClampNeg < 1000000 then (if b = 0 then nI (fg_fr (fg_flb z (fg_tn z w)) a.toNatClampNeg) else fg_fsX (fg_flb z (fg_tn z w)) a.toNatClampNeg) else -1) else -1000000002) else -1000000001
section
variable {d : Nat} {σ : fg_St} {Q : Int32 → fg_St → Prop} {z : fg_Z} {w : Nat → Int32} {P : fg_GP} {I : fg_GI} {T : fg_GT} {v : Int32} {s : Nat} {R : fg_GR} {B : fg_GB} {S : Nat}
/-- the reference looks for the first turn from the greatest part down -/
theorem l_MO_turnsB {F : Nat → Bool} {τ : fg_St} (hS : S < 1024) (hS0 : S ≠ 0) (hfr : fg_fr F S < 1000000) (h200 : ∀ P, fg_sub P S → fg_R τ 200 P = nI (fg_fr F P)) (h199 : ∀ P, fg_sub P S → 1 ≤ P → fg_R τ 199 P = fg_b (F P)) (H : ∀ x, fg_fst (fg_fgp F S) S x → Q x τ) : ∀ C x, fg_sub C S → ((x = -1 ∧ ∀ G, C < G → G ≤ S → ¬ fg_fgp F S G) ∨ ∃ G, x = nI G ∧ C < G ∧ G ≤ S ∧ fg_fgp F S G ∧ ∀ G', C < G' → G' < G → ¬ fg_fgp F S G') → fg_Run (d + 1) 154 71 [some (.ref 187), some (.int (nI S)), none, some (.int x), some (.int (nI C))] [] τ Q := by
  have k4 : 1 ≤ fg_fr F S := by
    rcases Nat.eq_zero_or_pos (fg_fr F S) with q | q
    · by_cases h : ∃ n, fg_fw F S n
      · obtain ⟨n, hn⟩ := h
        rw [fg_fr_eq hn] at q
        rw [q] at hn
        exact absurd hn.1 hS0
      · rw [fg_fr_no h] at hfr
        omega
    · exact q
  intro C
  induction C using Nat.strongRecOn with
  | ind C ih =>
    intro x hC hx
    have hCl := fg_sub_le hC
    by_cases h0 : C = 0
    · subst h0
      refine b_MO_turns_71 ⟨fun _ => H x ?_, fun q => absurd (nI_le (a := 0) (b := 0) (by decide) (by decide)) q⟩
      rcases hx with ⟨a1, a2⟩ | ⟨G, a1, a2, a3, a4, a5⟩
      · exact Or.inl ⟨a1, fun G g1 g2 => a2 G (by omega) g2⟩
      · exact Or.inr ⟨G, a1, by omega, a3, a4, fun G' g1 g2 => a5 G' (by omega) g2⟩
    · have hand : (C - 1) &&& S ≤ C - 1 := Nat.and_le_left
      have hnx : ∀ G, (C - 1) &&& S < G → G < C → ¬ fg_fgp F S G := by
        intro G g1 g2 g3
        have := fg_nxt C S G hC g3.1 g2
        omega
      have no : ¬ fg_fgp F S C → fg_Run (d + 1) 154 71 [some (.ref 187), some (.int (nI S)), none, some (.int x), some (.int ((nI C - 1) &&& nI S))] [] τ Q := by
        intro q
        rw [show nI C - 1 = nI (C - 1) from pk_sub (b := 1) (by omega), fg_and]
        refine ih _ (by omega) x (fg_and_sub _ _) ?_
        have step : ∀ G, (C - 1) &&& S < G → G ≤ C → ¬ fg_fgp F S G := by
          intro G g1 g2
          by_cases e : G = C
          · rw [e]; exact q
          · exact hnx G g1 (by omega)
        rcases hx with ⟨a1, a2⟩ | ⟨G, a1, a2, a3, a4, a5⟩
        · refine Or.inl ⟨a1, fun G g1 g2 => ?_⟩
          rcases Nat.lt_or_ge C G with q | q
          · exact a2 G q g2
          · exact step G g1 q
        · refine Or.inr ⟨G, a1, by omega, a3, a4, fun G' g1 g2 => ?_⟩
          rcases Nat.lt_or_ge C G' with q | q
          · exact a5 G' q g2
          · exact step G' g1 q
      refine b_MO_turns_71 ⟨fun q => absurd q (nI_nle (by omega) (by omega)), fun _ => ⟨vp_in_nI (by omega) (by decide), ?_⟩⟩
      have hwl := fg_wo_le S C
      rw [fg_andn, nI_clamp (by omega), nI_clamp (by omega), nI_clamp (by omega), h199 C hC (by omega), fg_bb, h200 _ (fg_wo_sub (by omega)), h200 S (fun _ q => q)]
      have b1 : fg_fr F (fg_wo S C) < 2 ^ 31 := by
        rcases fg_fr_le (F := F) (P := fg_wo S C) (by omega) with q | q <;> omega
      rw [fg_succ_eq b1 (by omega) k4]
      refine ⟨fun q => no (fun k => ?_), fun q => ⟨vp_in_nI (by omega) (by decide), vp_in_nI (by omega) (by decide), fun q2 => no (fun k => q2 k.2.2), fun q2 => ?_⟩⟩
      · rw [k.2.1] at q
        cases q
      · have q : F C = true := by simpa using q
        rw [show nI C - 1 = nI (C - 1) from pk_sub (b := 1) (by omega), fg_and]
        exact ih _ (by omega) (nI C) (fg_and_sub _ _) (Or.inr ⟨C, rfl, by omega, hCl, ⟨hC, q, q2⟩, hnx⟩)
theorem c_MO_turns {a b : Int32} (h : fg_RI σ z w P I T v s R B) (H : ∀ u, fg_sm fg_pN σ u → fg_RI u z w P I T v s R B → Q (fg_trA z w a b) u) : fg_Run (d + 5) 154 0 [some (.ref 187), some (.int a), some (.int b), none, none] [] σ Q := by
  have hx : ∀ u, fg_sm fg_pM σ u → Q (fg_trA z w a b) u := fun u m => H u (m.wk fg_pMN) (h.m m)
  have H := hx σ fg_sm.rfl'
  obtain ⟨h1, ⟨M, W⟩, -⟩ := h
  have hf := fg_p10 M.1.1.2.2.2
  refine b_MO_turns_0 (fg_use (r_MO_areSignals M.1 M.2.1 (fg_bt (fun e => fg_use (r_MO_inr (lo := 0) (hi := 1) rfl rfl (fg_bt (fun o => ?_) (fun o => ?_)))) (fun e => ?_))))
  · obtain ⟨g, hg, rfl⟩ := fg_isn_t e (by omega)
    refine fg_use (r_MO_findTurns M rfl (by omega) (fun u m r1 r2 => ?_))
    have Hu := hx u (m.wk fg_p2M)
    rw [fg_trA, if_pos e, if_pos o, nI_clamp (by omega)] at Hu
    rw [h1] at r1 r2
    have hF := fg_fr_le (F := fg_flb z (fg_tn z w)) (P := g) (by omega)
    have ml : 1000000 ≤ nI (fg_fr (fg_flb z (fg_tn z w)) g) ↔ 1000000 ≤ fg_fr (fg_flb z (fg_tn z w)) g := nI_leI (a := 1000000) (by decide) (by omega)
    have mt : nI (fg_fr (fg_flb z (fg_tn z w)) g) < 1000000 ↔ fg_fr (fg_flb z (fg_tn z w)) g < 1000000 := nI_ltI (b := 1000000) (by omega) (by decide)
    rw [nI_clamp (by omega), r1 g (fun _ q => q), ml, mt]
    have vi : vp_in (nI g) 1024 := vp_in_nI (by omega) (by decide)
    have no : 1000000 ≤ fg_fr (fg_flb z (fg_tn z w)) g → Q (-1) u := fun q => by rw [if_neg (by omega)] at Hu; exact Hu
    refine ⟨fun q => ⟨vi, fun q2 => no q2, fun q2 => ⟨vi, ?_⟩⟩, fun q => ⟨vi, fun q2 => ?_, fun q2 => ⟨vi, fun q3 => no q3, fun q3 => absurd q3 (by omega)⟩⟩⟩
    · rw [if_pos (by omega), if_pos q] at Hu
      exact Hu
    · rw [if_pos (by omega), if_neg q] at Hu
      by_cases h0 : g = 0
      · subst h0
        refine b_MO_turns_71 ⟨fun _ => ?_, fun q => absurd (nI_le (a := 0) (b := 0) (by decide) (by decide)) q⟩
        rw [fg_fsX_eq (x := -1) (Or.inl ⟨rfl, fun G a b => by omega⟩)] at Hu
        exact Hu
      · refine l_MO_turnsB (by omega) h0 q2 r1 r2 (fun x hx => ?_) g (-1) (fun _ q => q) (Or.inl ⟨rfl, fun G a b => by omega⟩)
        rw [fg_fsX_eq hx] at Hu
        exact Hu
  · rw [fg_trA, if_pos e, if_neg (by rw [o]; decide)] at H
    exact H
  · rw [fg_trA, if_neg (by rw [e]; decide)] at H
    exact H
theorem fg_pXg (p : Nat → Bool) (hp : ∀ g, p g = true → g = 39) : ∀ g, fg_pX g = false → p g = false := by
  intro g h
  cases e : p g
  · rfl
  · have := hp g e
    subst this
    cases h
theorem c_FS_turns {a b : Int32} (h : fg_CI σ z w P I T v s R B) (H : ∀ u, fg_sm fg_pC σ u → fg_CI u z w P I T v s R B → Q (fg_trA z w a b) u) : fg_Run (d + 5) 78 0 [some (.ref 0), some (.int a), some (.int b)] [] σ Q := by
  have hx : ∀ u, fg_sm fg_pX σ u → Q (fg_trA z w a b) u := fun u m => H u (m.wk fg_pXC) (h.x m)
  have H := hx σ fg_sm.rfl'
  have X := h.2.1
  have D := X.2.2.2.1
  have ht := fg_tn_lt (w := w) X.2.1
  have hf := fg_p10 X.2.1.1.2.2.2
  refine b_FS_turns_0 ⟨fg_kd6 X.1, fg_use (r_SH_hasAll X.1 X.2.1 X.2.2.1 (fg_bt (fun e => ?_) (fun e => ?_)))⟩
  · obtain ⟨g, hg, rfl⟩ := fg_isn_t e (by omega)
    have out : fg_isr b 0 1 = false → Q (-1000000002) σ := fun q => by rw [fg_trA, if_pos e, if_neg (by rw [q]; decide)] at H; exact H
    refine ⟨fun q => out (fg_isr_lo (lo := 0) (by decide) q), fun q => ⟨fun q2 => ?_, fun q2 => out (fg_isr_hi (hi := 1) (by decide) q2)⟩⟩
    have o := fg_isr_ok (lo := 0) (hi := 1) (by decide) (by decide) q q2
    have g0 : nI g = 0 ↔ g = 0 := nI_eq (b := 0) (by omega) (by decide)
    have hx : ∀ u, fg_sm fg_pX σ u → Q (if fg_fr (fg_flb z (fg_tn z w)) g < 1000000 then (if b = 0 then nI (fg_fr (fg_flb z (fg_tn z w)) g) else fg_fsX (fg_flb z (fg_tn z w)) g) else -1) u := by
      intro u m
      have := hx u m
      rw [fg_trA, if_pos e, if_pos o, nI_clamp (by omega)] at this
      exact this
    have H := hx σ fg_sm.rfl'
    rw [g0]
    refine ⟨fun n0 => ?_, fun n0 => ?_⟩
    · rw [D.f7]
      refine fg_use (r_WA_raiseAll X.1 X.2.1 X.2.2.1 (by omega) (fun u m hu _ => ?_))
      have mX := m.wk fg_pWX
      rw [hu, fg_andn]
      have hwl := fg_wo_le g (fg_set (fg_upb z (fg_s0 z (fg_tn z w))) (fg_zs z))
      have w0 : nI (fg_wo g (fg_set (fg_upb z (fg_s0 z (fg_tn z w))) (fg_zs z))) = 0 ↔ fg_wo g (fg_set (fg_upb z (fg_s0 z (fg_tn z w))) (fg_zs z)) = 0 := nI_eq (b := 0) (by omega) (by decide)
      rw [w0, fg_sub_wo (by omega)]
      have bitlt : ∀ i, g.testBit i = true → i < fg_zs z := by
        intro i hi
        rcases Nat.lt_or_ge i (fg_zs z) with q | q
        · exact q
        · rw [Nat.testBit_lt_two_pow (Nat.lt_of_lt_of_le hg (Nat.pow_le_pow_right (by decide) q))] at hi
          cases hi
      refine ⟨fun hs => ?_, fun hs => ?_⟩
      · have hone : ∀ i, g.testBit i = true → fg_flb z (fg_tn z w) (2 ^ i) = true := by
          intro i hi
          have := hs i hi
          rw [fg_set_bit, Bool.and_eq_true] at this
          exact fg_flb_one X.2.1 (bitlt i hi) this.2
        refine fg_use (r_FS_groupWithin (X.sm mX) (by omega) (fun u2 m2 h38 => ?_))
        refine fg_use (r_RO_plan (by omega) hone h38 (fun u3 m3 h39 => ?_))
        have m3X := m3.wk (fg_pXg _ (fun g q => by simpa using q))
        have Hu := hx u3 ((mX.tr m2).tr m3X)
        obtain ⟨k1, k2⟩ := h39 g (fun _ q => q)
        have k3 := fg_fw_le (by omega) k2
        rw [if_pos (by omega)] at Hu
        refine ⟨fun b0 => ?_, fun b0 => ⟨vp_in_nI (by omega) (by decide), ?_⟩⟩
        · rw [if_neg b0] at Hu
          have h38' : ∀ x, x < 1024 → fg_R u3 38 x = fg_b (fg_wi z (fg_tn z w) g x) := fun x hx => ((m3.2 38 (by decide)).2 x).trans (h38 x hx)
          refine fg_use (r_RO_firstGroup (by omega) n0 h38' h39 (fun x hx => ?_))
          rw [fg_fsX_eq hx] at Hu
          exact Hu
        · rw [if_pos b0] at Hu
          rw [nI_clamp (by omega), k1]
          exact Hu
      · have Hu := hx u mX
        rw [if_neg] at Hu
        · exact Hu
        · intro hlt
          apply hs
          intro i hi
          by_cases hq : ∃ n, fg_fw (fg_flb z (fg_tn z w)) g n
          · obtain ⟨n, hn⟩ := hq
            obtain ⟨G, _, G2, G3⟩ := fg_pt2_mem (by omega) hi hn.1
            rw [fg_set_bit]
            simp only [bitlt i hi, decide_true, Bool.true_and]
            exact fg_flb_up X.2.1 G2 (bitlt i hi) G3
          · rw [fg_fr_no hq] at hlt
            omega
    · subst n0
      rw [fg_fr_eq fg_fw_0, if_pos (by decide)] at H
      refine ⟨fun b0 => ?_, fun b0 => ?_⟩
      · rw [if_neg b0, fg_fsX_eq (x := -1) (Or.inl ⟨rfl, fun G a b => by omega⟩)] at H
        exact H
      · rw [if_pos b0] at H
        exact H
  · rw [fg_trA, if_neg (by rw [e]; decide)] at H
    exact H
end
