/-! IN HOW FEW TURNS: the class's plan -/
noncomputable def fg_fr (F : Nat → Bool) (P : Nat) : Nat := @dite Nat (∃ n, fg_fw F P n) (Classical.propDecidable _) (fun h => Classical.choose h) (fun _ => 1000000)
theorem fg_fr_eq {F : Nat → Bool} {P n : Nat} (h : fg_fw F P n) : fg_fr F P = n := by
  have hx : ∃ n, fg_fw F P n := ⟨n, h⟩
  unfold fg_fr
  rw [dif_pos hx]
  exact fg_fw_uniq (Classical.choose_spec hx) h
theorem fg_fr_no {F : Nat → Bool} {P : Nat} (h : ¬ ∃ n, fg_fw F P n) : fg_fr F P = 1000000 := by
  unfold fg_fr
  rw [dif_neg h]
theorem fg_fw_ex {F : Nat → Bool} {P : Nat} : ∀ n, fg_pt2 F n P → ∃ m, m ≤ n ∧ fg_fw F P m := by
  intro n
  induction n using Nat.strongRecOn with
  | ind n ih =>
    intro h
    by_cases hq : ∃ m, m < n ∧ fg_pt2 F m P
    · obtain ⟨m, h1, h2⟩ := hq
      obtain ⟨k, h3, h4⟩ := ih m h1 h2
      exact ⟨k, by omega, h4⟩
    · refine ⟨n, Nat.le_refl _, h, fun m hm => ?_⟩
      rcases Nat.lt_or_ge m n with q | q
      · exact absurd ⟨m, q, hm⟩ hq
      · exact q
theorem fg_fw_0 {F : Nat → Bool} : fg_fw F 0 0 := ⟨rfl, fun _ _ => by omega⟩
theorem fg_fw_le {F : Nat → Bool} {P n : Nat} (hP : P < 2 ^ 32) (h : fg_fw F P n) : n ≤ P := fg_pt2_le n P hP h.1
theorem fg_low : ∀ P, P < 1024 → P ≠ 0 → ∃ e, e < 10 ∧ nI P &&& (-(nI P)) = nI (2 ^ e) ∧ P.testBit e = true := by decide +kernel
theorem fg_bit_sub {e P : Nat} (h : P.testBit e = true) : fg_sub (2 ^ e) P := by
  intro i hi
  rw [Nat.testBit_two_pow, decide_eq_true_eq] at hi
  rw [← hi]
  exact h
theorem fg_or_sub {a b c : Nat} (h1 : fg_sub a c) (h2 : fg_sub b c) : fg_sub (a ||| b) c := by
  intro i hi
  rw [Nat.testBit_or, Bool.or_eq_true] at hi
  rcases hi with q | q
  · exact h1 i q
  · exact h2 i q
theorem fg_wi_sub {z : fg_Z} {T S g : Nat} (hg : g < 2 ^ 32) : fg_wi z T S g = true ↔ fg_sub g S ∧ fg_flb z T g = true := by
  unfold fg_wi
  rw [Bool.and_eq_true, beq_iff_eq, fg_sub_wo hg]
/-- the first of the groups that p holds of -/
def fg_fst (p : Nat → Prop) (S : Nat) (x : Int32) : Prop := (x = -1 ∧ ∀ G, 1 ≤ G → G ≤ S → ¬ p G) ∨ ∃ G, x = nI G ∧ 1 ≤ G ∧ G ≤ S ∧ p G ∧ ∀ G', 1 ≤ G' → G' < G → ¬ p G'
theorem fg_fst_uniq {p : Nat → Prop} {S : Nat} {x y : Int32} (h1 : fg_fst p S x) (h2 : fg_fst p S y) : x = y := by
  rcases h1 with ⟨a1, a2⟩ | ⟨G, a1, a2, a3, a4, a5⟩ <;> rcases h2 with ⟨b1, b2⟩ | ⟨G', b1, b2, b3, b4, b5⟩
  · rw [a1, b1]
  · exact absurd b4 (a2 G' b2 b3)
  · exact absurd a4 (b2 G a2 a3)
  · rcases Nat.lt_trichotomy G G' with q | q | q
    · exact absurd a4 (b5 G a2 q)
    · rw [a1, b1, q]
    · exact absurd b4 (a5 G' b2 q)
def fg_fgp (F : Nat → Bool) (S G : Nat) : Prop := fg_sub G S ∧ F G = true ∧ fg_fr F (fg_wo S G) + 1 = fg_fr F S
section
variable {d : Nat} {Q : Int32 → fg_St → Prop} {z : fg_Z} {T S : Nat}
theorem l_RO_fewestOf {σ : fg_St} {P e : Nat} (hS : S < 1024) (hPS : fg_sub P S) (he : P.testBit e = true) (h38 : ∀ g, g < 1024 → fg_R σ 38 g = fg_b (fg_wi z T S g)) (h39 : ∀ P', P' < P → fg_sub P' S → fg_R σ 39 P' = nI (fg_fr (fg_flb z T) P') ∧ fg_fw (fg_flb z T) P' (fg_fr (fg_flb z T) P')) (H : ∀ n, fg_fw (fg_flb z T) P n → Q (nI n) σ) : ∀ C v, fg_sub C (fg_wo P (2 ^ e)) → fg_pt2 (fg_flb z T) v P → v ≤ 1024 → v ≤ fg_fr (fg_flb z T) (fg_wo P (2 ^ e)) + 1 → (∀ M, fg_sub M (fg_wo P (2 ^ e)) → C < M → fg_flb z T (2 ^ e ||| M) = true → v ≤ fg_fr (fg_flb z T) (fg_wo (fg_wo P (2 ^ e)) M) + 1) → fg_Run (d + 1) 27 24 [some (.ref 37), none, some (.int (nI (2 ^ e))), some (.int (nI (fg_wo P (2 ^ e)))), some (.int (nI v)), some (.int (nI C))] [] σ Q := by
  have hP : P ≤ S := fg_sub_le hPS
  have hle := fg_wo_le P (2 ^ e)
  have hes : fg_sub (2 ^ e) P := fg_bit_sub he
  have hel := fg_sub_le hes
  have hne : (2 : Nat) ^ e ≠ 0 := by have := Nat.one_le_two_pow (n := e); omega
  have hlt := fg_wo_lt (P := P) (by omega) hne hes
  have hRS : fg_sub (fg_wo P (2 ^ e)) S := (fg_wo_sub (by omega)).tr hPS
  intro C
  induction C using Nat.strongRecOn with
  | ind C ih =>
    intro v hC hpt hv ha hb
    have hCl := fg_sub_le hC
    by_cases h0 : C = 0
    · subst h0
      refine b_RO_fewestOf_24 ⟨fun _ => H v ⟨hpt, fun m hm => ?_⟩, fun q => absurd (nI_le (a := 0) (b := 0) (by decide) (by decide)) q⟩
      obtain ⟨G, m', k0, k1, k2, k3, k4⟩ := fg_exch m P (by omega) he hm
      have hGl := fg_sub_le k2
      have hGe : 2 ^ e ||| fg_wo G (2 ^ e) = G := by
        apply Nat.eq_of_testBit_eq
        intro i
        rw [Nat.testBit_or, fg_wo_bit (by omega), Nat.testBit_two_pow]
        by_cases q : e = i
        · subst q; rw [k1]; simp
        · rw [decide_eq_false q]; simp
      have hMs : fg_sub (fg_wo G (2 ^ e)) (fg_wo P (2 ^ e)) := by
        intro i hi
        rw [fg_wo_bit (by omega), Bool.and_eq_true] at hi
        rw [fg_wo_bit (by omega), k2 i hi.1, hi.2]
        rfl
      have hw : fg_wo (fg_wo P (2 ^ e)) (fg_wo G (2 ^ e)) = fg_wo P G := by rw [fg_wo_wo (by omega), hGe]
      obtain ⟨n, n1, n2⟩ := fg_fw_ex m' k4
      have hfr := fg_fr_eq n2
      by_cases hM0 : fg_wo G (2 ^ e) = 0
      · rw [hM0, fg_wo_z (by omega)] at hw
        rw [hw, hfr] at ha
        omega
      · have := hb (fg_wo G (2 ^ e)) hMs (by omega) (by rw [hGe]; exact k3)
        rw [hw, hfr] at this
        omega
    · have hor : (2 ^ e ||| C) < 1024 := Nat.or_lt_two_pow (n := 10) (show 2 ^ e < 2 ^ 10 by omega) (show C < 2 ^ 10 by omega)
      have hsub : fg_sub (2 ^ e ||| C) P := fg_or_sub hes (hC.tr (fg_wo_sub (by omega)))
      have hand : (C - 1) &&& fg_wo P (2 ^ e) ≤ C - 1 := Nat.and_le_left
      have hnx : ∀ M, fg_sub M (fg_wo P (2 ^ e)) → (C - 1) &&& fg_wo P (2 ^ e) < M → C < M ∨ M = C := by
        intro M hM hlt2
        rcases Nat.lt_trichotomy C M with q | q | q
        · exact Or.inl q
        · exact Or.inr q.symm
        · have := fg_nxt C _ M hC hM q
          omega
      have hwi : fg_wi z T S (2 ^ e ||| C) = fg_flb z T (2 ^ e ||| C) := by
        unfold fg_wi
        rw [(fg_sub_wo (by omega)).mpr (hsub.tr hPS)]
        rfl
      refine b_RO_fewestOf_24 ⟨fun q => absurd q (nI_ge (a := 0) (b := C) (by omega) (by omega)), fun _ => ?_⟩
      rw [fg_or, show nI C - 1 = nI (C - 1) from pk_sub (b := 1) (by omega), fg_and, fg_andn, nI_clamp (by omega), h38 _ hor, hwi, fg_bb]
      refine ⟨vp_in_nI (by omega) (by decide), fun q => ?_, fun q => ?_⟩
      · refine ih _ (by omega) v (fg_and_sub _ _) hpt hv ha (fun M h1 h2 h3 => ?_)
        rcases hnx M h1 h2 with q2 | q2
        · exact hb M h1 q2 h3
        · rw [q2, q] at h3
          cases h3
      · have q : fg_flb z T (2 ^ e ||| C) = true := by simpa using q
        have hwl : fg_wo (fg_wo P (2 ^ e)) C ≤ fg_wo P (2 ^ e) := fg_wo_le _ _
        obtain ⟨g1, g2⟩ := h39 (fg_wo (fg_wo P (2 ^ e)) C) (by omega) ((fg_wo_sub (by omega)).tr hRS)
        have g3 := fg_fw_le (by omega) g2
        rw [nI_clamp (by omega), g1, nI_1]
        refine ⟨vp_in_nI (by omega) (by decide), ?_⟩
        have hpt2 : fg_pt2 (fg_flb z T) (fg_fr (fg_flb z T) (fg_wo (fg_wo P (2 ^ e)) C) + 1) P := by
          refine ⟨2 ^ e ||| C, fun z0 => ?_, hsub, q, ?_⟩
          · have h7 := Nat.left_le_or (n := 2 ^ e) (m := C)
            rw [z0] at h7
            exact hne (Nat.le_zero.mp h7)
          · rw [← fg_wo_wo (by omega)]
            exact g2.1
        by_cases hlt3 : nI (fg_fr (fg_flb z T) (fg_wo (fg_wo P (2 ^ e)) C) + 1) < nI v
        · rw [if_pos hlt3]
          rw [nI_ltI (by omega) (by omega)] at hlt3
          refine ih _ (by omega) _ (fg_and_sub _ _) hpt2 (by omega) (by omega) (fun M h1 h2 h3 => ?_)
          rcases hnx M h1 h2 with q2 | q2
          · have := hb M h1 q2 h3
            omega
          · rw [q2]
            omega
        · rw [if_neg hlt3]
          rw [nI_ltI (by omega) (by omega)] at hlt3
          refine ih _ (by omega) v (fg_and_sub _ _) hpt hv ha (fun M h1 h2 h3 => ?_)
          rcases hnx M h1 h2 with q2 | q2
          · exact hb M h1 q2 h3
          · rw [q2]
            omega
theorem r_RO_fewestOf {σ : fg_St} {P : Nat} (hS : S < 1024) (hPS : fg_sub P S) (hP0 : P ≠ 0) (hone : ∀ e, S.testBit e = true → fg_flb z T (2 ^ e) = true) (h38 : ∀ g, g < 1024 → fg_R σ 38 g = fg_b (fg_wi z T S g)) (h39 : ∀ P', P' < P → fg_sub P' S → fg_R σ 39 P' = nI (fg_fr (fg_flb z T) P') ∧ fg_fw (fg_flb z T) P' (fg_fr (fg_flb z T) P')) (H : ∀ n, fg_fw (fg_flb z T) P n → Q (nI n) σ) : fg_Run (d + 1) 27 0 [some (.ref 37), some (.int (nI P)), none, none, none, none] [] σ Q := by
  have hP : P ≤ S := fg_sub_le hPS
  obtain ⟨e, e1, e2, e3⟩ := fg_low P (by omega) hP0
  have hes : fg_sub (2 ^ e) P := fg_bit_sub e3
  have hel := fg_sub_le hes
  have hne : (2 : Nat) ^ e ≠ 0 := by have := Nat.one_le_two_pow (n := e); omega
  have hlt := fg_wo_lt (P := P) (by omega) hne hes
  have hRS : fg_sub (fg_wo P (2 ^ e)) S := (fg_wo_sub (by omega)).tr hPS
  obtain ⟨g1, g2⟩ := h39 (fg_wo P (2 ^ e)) hlt hRS
  have g3 := fg_fw_le (by omega) g2
  refine b_RO_fewestOf_0 ?_
  rw [e2, fg_andn, nI_clamp (by omega), g1, nI_1]
  refine ⟨vp_in_nI (by omega) (by decide), l_RO_fewestOf hS hPS e3 h38 h39 H _ _ (fun _ q => q) ⟨2 ^ e, hne, hes, hone e (hPS e e3), g2.1⟩ (by omega) (Nat.le_refl _) (fun M h1 h2 _ => ?_)⟩
  have := fg_sub_le h1
  omega
/-- plan -/
theorem l_RO_plan {σ : fg_St} (hS : S < 1024) (hone : ∀ e, S.testBit e = true → fg_flb z T (2 ^ e) = true) (h38 : ∀ g, g < 1024 → fg_R σ 38 g = fg_b (fg_wi z T S g)) (H : ∀ u, fg_sm (fun g => g == 39) σ u → (∀ P, fg_sub P S → fg_R u 39 P = nI (fg_fr (fg_flb z T) P) ∧ fg_fw (fg_flb z T) P (fg_fr (fg_flb z T) P)) → Q 0 u) : ∀ m i (τ : fg_St), 1 ≤ i → i + m = S + 1 → fg_sm (fun g => g == 39) σ τ → (∀ P, P < i → fg_sub P S → fg_R τ 39 P = nI (fg_fr (fg_flb z T) P) ∧ fg_fw (fg_flb z T) P (fg_fr (fg_flb z T) P)) → fg_Run (d + 2) 26 9 [some (.ref 37), some (.int (nI S)), some (.int (nI i))] [] τ Q := by
  intro m
  induction m with
  | zero =>
    intro i τ h1 hi hsm hr
    refine b_RO_plan_9 ⟨fun _ => H τ hsm (fun P hP => hr P (by have := fg_sub_le hP; omega) hP), fun q => absurd (nI_lt (by omega) (by omega)) q⟩
  | succ m ih =>
    intro i τ h1 hi hsm hr
    have hle := fg_wo_le i S
    refine b_RO_plan_9 ⟨fun q => absurd q (nI_nlt (by omega) (by omega)), fun _ => ⟨fun q => absurd q (nI_ge (b := 1024) (by omega) (by decide)), fun _ => ?_⟩⟩
    rw [fg_andn, fg_nI0 (by omega), fg_sub_wo (by omega), nI_clamp (by omega), nI_1]
    refine ⟨fun q => ih (i + 1) τ (by omega) (by omega) hsm (fun P h2 h3 => ?_), fun q => fg_use (r_RO_fewestOf hS q (by omega) hone (fun g hg => ((hsm.2 38 (by decide)).2 g).trans (h38 g hg)) hr (fun n hn => ⟨vp_in_nI (by omega) (by decide), ih (i + 1) _ (by omega) (by omega) (hsm.tr (fg_sm_R (by decide))) (fun P h2 h3 => ?_)⟩))⟩
    · by_cases e : P = i
      · exact absurd (e ▸ h3) q
      · exact hr P (by omega) h3
    · rw [fg_R_sR]
      by_cases e : P = i
      · rw [if_pos ⟨rfl, e⟩, e, fg_fr_eq hn]
        exact ⟨rfl, hn⟩
      · rw [if_neg (fun q => e q.2)]
        exact hr P (by omega) h3
theorem r_RO_plan {σ : fg_St} (hS : S < 1024) (hone : ∀ e, S.testBit e = true → fg_flb z T (2 ^ e) = true) (h38 : ∀ g, g < 1024 → fg_R σ 38 g = fg_b (fg_wi z T S g)) (H : ∀ u, fg_sm (fun g => g == 39) σ u → (∀ P, fg_sub P S → fg_R u 39 P = nI (fg_fr (fg_flb z T) P) ∧ fg_fw (fg_flb z T) P (fg_fr (fg_flb z T) P)) → Q 0 u) : fg_Run (d + 2) 26 0 [some (.ref 37), some (.int (nI S)), none] [] σ Q := by
  refine b_RO_plan_0 (l_RO_plan hS hone (fun g hg => h38 g hg) H S 1 _ (by omega) (by omega) (fg_sm_R (by decide)) (fun P h2 _ => ?_))
  have : P = 0 := by omega
  subst this
  rw [fg_R_sR, if_pos ⟨rfl, rfl⟩, fg_fr_eq fg_fw_0]
  exact ⟨rfl, fg_fw_0⟩
theorem fg_succ_eq {a b : Nat} (ha : a < 2 ^ 31) (hb : b < 2 ^ 31) (h1 : 1 ≤ b) : nI a = nI b - 1 ↔ a + 1 = b := by
  rw [show nI b - 1 = nI (b - 1) from pk_sub (b := 1) h1, nI_eq ha (by omega)]
  omega
theorem l_RO_firstGroup {σ : fg_St} (hS : S < 1024) (hS0 : S ≠ 0) (h38 : ∀ g, g < 1024 → fg_R σ 38 g = fg_b (fg_wi z T S g)) (h39 : ∀ P, fg_sub P S → fg_R σ 39 P = nI (fg_fr (fg_flb z T) P) ∧ fg_fw (fg_flb z T) P (fg_fr (fg_flb z T) P)) (H : ∀ x, fg_fst (fg_fgp (fg_flb z T) S) S x → Q x σ) : ∀ m i, 1 ≤ i → i + m = S + 1 → (∀ G, 1 ≤ G → G < i → ¬ fg_fgp (fg_flb z T) S G) → fg_Run d 28 2 [some (.ref 37), some (.int (nI S)), some (.int (nI i))] [] σ Q := by
  intro m
  induction m with
  | zero =>
    intro i h1 hi hr
    refine b_RO_firstGroup_2 ⟨fun _ => H _ (Or.inl ⟨rfl, fun G a b => hr G a (by omega)⟩), fun q => absurd (nI_lt (by omega) (by omega)) q⟩
  | succ m ih =>
    intro i h1 hi hr
    have no : ¬ fg_fgp (fg_flb z T) S i → fg_Run d 28 2 [some (.ref 37), some (.int (nI S)), some (.int (nI i + 1))] [] σ Q := by
      intro q
      rw [nI_1]
      refine ih (i + 1) (by omega) (by omega) (fun G a b => ?_)
      by_cases e : G = i
      · rw [e]; exact q
      · exact hr G a (by omega)
    refine b_RO_firstGroup_2 ⟨fun q => absurd q (nI_nlt (by omega) (by omega)), fun _ => ⟨fun q => absurd q (nI_ge (b := 1024) (by omega) (by decide)), fun _ => ⟨vp_in_nI (by omega) (by decide), ?_⟩⟩⟩
    have hwl := fg_wo_le S i
    rw [fg_andn, nI_clamp (by omega), nI_clamp (by omega), h38 i (by omega), fg_bb]
    refine ⟨fun q => no (fun k => ?_), fun q => ?_⟩
    · have := (fg_wi_sub (z := z) (T := T) (S := S) (g := i) (by omega)).mpr ⟨k.1, k.2.1⟩
      rw [q] at this
      cases this
    · have q : fg_wi z T S i = true := by simpa using q
      obtain ⟨q1, q2⟩ := (fg_wi_sub (by omega)).mp q
      have hwl := fg_wo_le S i
      obtain ⟨g1, g2⟩ := h39 (fg_wo S i) (fg_wo_sub (by omega))
      obtain ⟨k1, k2⟩ := h39 S (fun _ q => q)
      have g3 := fg_fw_le (by omega) g2
      have k3 := fg_fw_le (by omega) k2
      have k4 : 1 ≤ fg_fr (fg_flb z T) S := by
        rcases Nat.eq_zero_or_pos (fg_fr (fg_flb z T) S) with q | q
        · rw [q] at k2
          exact absurd k2.1 hS0
        · exact q
      rw [nI_clamp (by omega), g1, k1, fg_succ_eq (by omega) (by omega) k4]
      refine ⟨vp_in_nI (by omega) (by decide), vp_in_nI (by omega) (by decide), fun q => no (fun k => q k.2.2), fun q => H _ (Or.inr ⟨i, rfl, h1, by omega, ⟨q1, q2, q⟩, hr⟩)⟩
theorem r_RO_firstGroup {σ : fg_St} (hS : S < 1024) (hS0 : S ≠ 0) (h38 : ∀ g, g < 1024 → fg_R σ 38 g = fg_b (fg_wi z T S g)) (h39 : ∀ P, fg_sub P S → fg_R σ 39 P = nI (fg_fr (fg_flb z T) P) ∧ fg_fw (fg_flb z T) P (fg_fr (fg_flb z T) P)) (H : ∀ x, fg_fst (fg_fgp (fg_flb z T) S) S x → Q x σ) : fg_Run d 28 0 [some (.ref 37), some (.int (nI S)), none] [] σ Q :=
  b_RO_firstGroup_0 (l_RO_firstGroup hS hS0 h38 h39 H S 1 (by omega) (by omega) (fun G a b => by omega))
end
