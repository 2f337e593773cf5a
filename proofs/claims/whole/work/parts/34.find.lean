/-! IN HOW FEW TURNS: the reference -/
def fg_p2 (g : Nat) : Bool := g == 196 || g == 199 || g == 200
theorem fg_p2M : ∀ g, fg_pM g = false → fg_p2 g = false := by
  intro g h
  unfold fg_pM at h
  unfold fg_p2
  simp only [Bool.or_eq_false_iff] at h ⊢
  exact ⟨⟨h.1.1.1.1.1, h.1.1.2⟩, h.1.2⟩
theorem fg_pR2 : ∀ g, fg_p2 g = false → fg_pR g = false := by
  intro g h
  unfold fg_p2 at h
  unfold fg_pR
  simp only [Bool.or_eq_false_iff] at h
  exact h.1.1
theorem fg_mil : (1000000 : Int32) = nI 1000000 := rfl
theorem fg_fr_le {F : Nat → Bool} {P : Nat} (hP : P < 2 ^ 32) : fg_fr F P ≤ P ∨ fg_fr F P = 1000000 := by
  by_cases h : ∃ n, fg_fw F P n
  · obtain ⟨n, hn⟩ := h
    rw [fg_fr_eq hn]
    exact Or.inl (fg_fw_le hP hn)
  · exact Or.inr (fg_fr_no h)
theorem fg_fr_end {F : Nat → Bool} {P v : Nat} (hP : P < 1024) (h0 : P ≠ 0) (hb : ∀ G, fg_sub G P → 0 < G → F G = true → v ≤ fg_fr F (fg_wo P G) + 1) (hc : v = 1000000 ∨ (v < 1000000 ∧ fg_pt2 F v P)) : v = fg_fr F P := by
  have key : ∀ m, fg_pt2 F m P → v ≤ m ∧ v < 1000000 := by
    intro m hm
    cases m with
    | zero => exact absurd hm h0
    | succ m =>
      obtain ⟨G, g1, g2, g3, g4⟩ := hm
      obtain ⟨n, n1, n2⟩ := fg_fw_ex m g4
      have := hb G g2 (by omega) g3
      have hl := fg_wo_le P G
      have hn := fg_fw_le (by omega) n2
      rw [fg_fr_eq n2] at this
      omega
  rcases hc with q | ⟨q1, q2⟩
  · by_cases h : ∃ n, fg_fw F P n
    · obtain ⟨n, hn⟩ := h
      have := key n hn.1
      omega
    · rw [fg_fr_no h]
      exact q
  · exact (fg_fr_eq ⟨q2, fun m hm => (key m hm).1⟩).symm
section
variable {d : Nat} {Q : Int32 → fg_St → Prop} {z : fg_Z} {T S : Nat}
/-- one set: the least over its parts -/
theorem l_MO_findTurns2 {P : Nat} (hS : S < 1024) (hPS : fg_sub P S) (hP0 : P ≠ 0) : ∀ C v (τ : fg_St), fg_sub C P → fg_R τ 200 P = nI v → v ≤ 1000000 → (∀ G, fg_sub G P → 1 ≤ G → fg_R τ 199 G = fg_b (fg_flb z T G)) → (∀ P', P' < P → fg_sub P' S → fg_R τ 200 P' = nI (fg_fr (fg_flb z T) P')) → (∀ G, fg_sub G P → C < G → fg_flb z T G = true → v ≤ fg_fr (fg_flb z T) (fg_wo P G) + 1) → (v = 1000000 ∨ (v < 1000000 ∧ fg_pt2 (fg_flb z T) v P)) → (∀ u, fg_sm (fun g => g == 200) τ u → (∀ k, k ≠ P → fg_R u 200 k = fg_R τ 200 k) → fg_R u 200 P = nI (fg_fr (fg_flb z T) P) → fg_Run (d + 1) 153 9 [some (.ref 187), some (.int (nI S)), some (.int (nI (P + 1))), none, none, none] [] u Q) → fg_Run (d + 1) 153 62 [some (.ref 187), some (.int (nI S)), some (.int (nI P)), some (.int 1), some (.int (nI C)), none] [] τ Q := by
  have hPl := fg_sub_le hPS
  intro C
  induction C using Nat.strongRecOn with
  | ind C ih =>
    intro v τ hC hv hv2 h199 h200 hb hc H
    have hCl := fg_sub_le hC
    by_cases h0 : C = 0
    · subst h0
      refine b_MO_findTurns_62 ⟨fun _ => ?_, fun q => absurd (nI_le (a := 0) (b := 0) (by decide) (by decide)) q⟩
      rw [nI_1]
      exact H τ fg_sm.rfl' (fun _ _ => rfl) (by rw [hv, fg_fr_end (by omega) hP0 hb hc])
    · have hand : (C - 1) &&& P ≤ C - 1 := Nat.and_le_left
      have hnx : ∀ M, fg_sub M P → (C - 1) &&& P < M → C < M ∨ M = C := by
        intro M hM hlt2
        rcases Nat.lt_trichotomy C M with q | q | q
        · exact Or.inl q
        · exact Or.inr q.symm
        · have := fg_nxt C _ M hC hM q
          omega
      have hwl := fg_wo_le P C
      have hwlt := fg_wo_lt (P := P) (G := C) (by omega) h0 hC
      refine b_MO_findTurns_62 ⟨fun q => absurd q (nI_ge (a := 0) (b := C) (by omega) (by omega)), fun _ => ⟨fun q => absurd q (by decide), fun _ => ?_⟩⟩
      rw [show nI C - 1 = nI (C - 1) from pk_sub (b := 1) (by omega), fg_and, fg_andn, nI_clamp (show C < 2 ^ 31 by omega), nI_clamp (show P < 2 ^ 31 by omega), nI_clamp (show fg_wo P C < 2 ^ 31 by omega), h199 C hC (by omega), fg_bb, hv, fg_mil, nI_leI (by omega) (by omega)]
      -- the next part, a value written
      have go : ∀ v', v' ≤ 1000000 → (∀ G, fg_sub G P → (C - 1) &&& P < G → fg_flb z T G = true → v' ≤ fg_fr (fg_flb z T) (fg_wo P G) + 1) → (v' = 1000000 ∨ (v' < 1000000 ∧ fg_pt2 (fg_flb z T) v' P)) → fg_Run (d + 1) 153 62 [some (.ref 187), some (.int (nI S)), some (.int (nI P)), some (.int 1), some (.int (nI ((C - 1) &&& P))), none] [] (fg_sR τ 200 P (nI v')) Q := by
        intro v' k1 k2 k3
        refine ih _ (by omega) v' _ (fg_and_sub _ _) (by rw [fg_R_sR, if_pos ⟨rfl, rfl⟩]) k1 (fun G a b => ?_) (fun P' a b => ?_) k2 k3 (fun u hu h1 h2 => H u ((fg_sm_R (by decide)).tr hu) (fun k hk => ?_) h2)
        · exact h199 G a b
        · rw [fg_R_sR, if_neg (by omega)]
          exact h200 P' a b
        · rw [h1 k hk, fg_R_sR, if_neg (fun q => hk q.2)]
      refine ⟨vp_in_nI (by omega) (by decide), fun q => ⟨vp_in_nI (by omega) (by decide), fun _ => ⟨vp_in_nI (by omega) (by decide), vp_in_nI (by omega) (by decide), ?_⟩, fun q2 => absurd hv2 q2⟩, fun q => ⟨vp_in_nI (by omega) (by decide), vp_in_nI (by omega) (by decide), ?_⟩⟩
      · refine go v hv2 (fun G a b c => ?_) hc
        rcases hnx G a b with q2 | q2
        · exact hb G a q2 c
        · rw [q2, q] at c
          cases c
      · have q : fg_flb z T C = true := by simpa using q
        rw [h200 _ hwlt ((fg_wo_sub (by omega)).tr hPS), nI_1]
        have hfl := fg_fr_le (F := fg_flb z T) (P := fg_wo P C) (by omega)
        rw [nI_leI (by omega) (by omega)]
        refine ⟨fun q2 => ⟨vp_in_nI (by omega) (by decide), vp_in_nI (by omega) (by decide), go v hv2 (fun G a b c => ?_) hc⟩, fun q2 => ⟨vp_in_nI (by omega) (by decide), go _ (by omega) (fun G a b c => ?_) (Or.inr ⟨by omega, C, h0, hC, q, ?_⟩)⟩⟩
        · rcases hnx G a b with q3 | q3
          · exact hb G a q3 c
          · rw [q3]; exact q2
        · rcases hnx G a b with q3 | q3
          · have := hb G a q3 c
            omega
          · rw [q3]
            omega
        · by_cases h : ∃ n, fg_fw (fg_flb z T) (fg_wo P C) n
          · obtain ⟨n, hn⟩ := h
            rw [fg_fr_eq hn]
            exact hn.1
          · have := fg_fr_no h
            omega
/-- findTurns -/
theorem l_MO_findTurns {σ : fg_St} (hM : fg_MI σ z) (hT : T = fg_tn z (fg_R σ 191)) (hS : S < 1024) (H : ∀ u, fg_sm fg_p2 σ u → (∀ P, fg_sub P S → fg_R u 200 P = nI (fg_fr (fg_flb z T) P)) → (∀ P, fg_sub P S → 1 ≤ P → fg_R u 199 P = fg_b (fg_flb z T P)) → Q 0 u) : ∀ m i (τ : fg_St), 1 ≤ i → i + m = S + 1 → fg_sm fg_p2 σ τ → (∀ P, P < i → fg_sub P S → fg_R τ 200 P = nI (fg_fr (fg_flb z T) P)) → (∀ P, P < i → fg_sub P S → 1 ≤ P → fg_R τ 199 P = fg_b (fg_flb z T P)) → fg_Run (d + 4) 153 9 [some (.ref 187), some (.int (nI S)), some (.int (nI i)), none, none, none] [] τ Q := by
  intro m
  induction m with
  | zero =>
    intro i τ h1 hi hsm ha hb
    refine b_MO_findTurns_9 ⟨fun _ => H τ hsm (fun P hP => ha P (by have := fg_sub_le hP; omega) hP) (fun P hP => hb P (by have := fg_sub_le hP; omega) hP), fun q => absurd (nI_lt (by omega) (by omega)) q⟩
  | succ m ih =>
    intro i τ h1 hi hsm ha hb
    have hle := fg_wo_le i S
    have e191 : fg_R τ 191 = fg_R σ 191 := funext (hsm.2 191 (by decide)).2
    have hM' := hM.sm (hsm.wk fg_p2M)
    refine b_MO_findTurns_9 ⟨fun q => absurd q (nI_nlt (by omega) (by omega)), fun _ => ?_⟩
    rw [fg_andn, fg_nI0 (by omega), fg_sub_wo (by omega), nI_clamp (by omega)]
    refine ⟨fun q => ⟨vp_in_nI (by omega) (by decide), vp_in_nI (by omega) (by decide), ?_⟩, fun q => fg_use (r_MO_fly hM' (by omega) (fun u hsu => ?_))⟩
    · -- a set that is not inside
      have go : fg_Run (d + 4) 153 9 [some (.ref 187), some (.int (nI S)), some (.int (nI i + 1)), none, none, none] [] (fg_sR (fg_sR τ 199 i 0) 200 i 1000000) Q := by
        rw [nI_1]
        refine ih (i + 1) _ (by omega) (by omega) (hsm.tr ((fg_sm_R (by decide)).tr (fg_sm_R (by decide)))) (fun P a b => ?_) (fun P a b c => ?_)
        · by_cases e : P = i
          · exact absurd (e ▸ b) q
          · rw [fg_R_sR, if_neg (fun x => e x.2), fg_R_sR, if_neg (fun x => e x.2)]
            exact ha P (by omega) b
        · by_cases e : P = i
          · exact absurd (e ▸ b) q
          · rw [fg_R_sR, if_neg (fun x => e x.2), fg_R_sR, if_neg (fun x => e x.2)]
            exact hb P (by omega) b c
      exact b_MO_findTurns_62 ⟨fun _ => go, fun _ => ⟨fun _ => go, fun x => absurd rfl x⟩⟩
    · have hfl : ∀ x, x = fg_b (fg_flb z T i) → vp_in (nI i) 1024 ∧ vp_in (nI i) 1024 ∧ fg_Run (d + 4) 153 62 [some (.ref 187), some (.int (nI S)), some (.int (nI i)), some (.int 1), some (.int (nI i)), none] [] (fg_sR (fg_sR u 199 i x) 200 i 1000000) Q := by
        intro x hx
        refine ⟨vp_in_nI (by omega) (by decide), vp_in_nI (by omega) (by decide), ?_⟩
        have u200 := (hsu.2 200 (by decide)).2
        have u199 := (hsu.2 199 (by decide)).2
        have hr199 : ∀ G, 1 ≤ G → G ≤ i → fg_sub G S → fg_R (fg_sR (fg_sR u 199 i x) 200 i 1000000) 199 G = fg_b (fg_flb z T G) := by
          intro G a b c
          rw [fg_R_sR, if_neg (by omega), fg_R_sR]
          by_cases e : G = i
          · rw [if_pos ⟨rfl, e⟩, e]
            exact hx
          · rw [if_neg (fun x => e x.2), u199, hb G (by omega) c a]
        have hr200 : ∀ P, P < i → fg_sub P S → fg_R (fg_sR (fg_sR u 199 i x) 200 i 1000000) 200 P = nI (fg_fr (fg_flb z T) P) := by
          intro P a b
          rw [fg_R_sR, if_neg (by omega), fg_R_sR, if_neg (by omega), u200, ha P a b]
        refine l_MO_findTurns2 (T := T) (z := z) hS q (by omega) i 1000000 _ (fun _ x => x) (by rw [fg_R_sR, if_pos ⟨rfl, rfl⟩]; rfl) (Nat.le_refl _) (fun G a b => hr199 G b (fg_sub_le a) (a.tr q)) hr200 (fun G a b => by have := fg_sub_le a; omega) (Or.inl rfl) (fun v hv h3 h4 => ?_)
        refine ih (i + 1) v (by omega) (by omega) (hsm.tr ((hsu.wk fg_pR2).tr ((fg_sm_R (by decide)).tr ((fg_sm_R (by decide)).tr (hv.wk (fun g hg => ?_)))))) (fun P a b => ?_) (fun P a b c => ?_)
        · unfold fg_p2 at hg
          simp only [Bool.or_eq_false_iff] at hg
          exact hg.2
        · by_cases e : P = i
          · rw [e]; exact h4
          · rw [h3 P e]
            exact hr200 P (by omega) b
        · rw [(hv.2 199 (by decide)).2]
          exact hr199 P c (by omega) b
      rw [e191, ← hT]
      cases hq : fg_flb z T i
      · exact ⟨fun _ => hfl 0 (by rw [hq]; rfl), fun q => absurd rfl q⟩
      · exact ⟨fun q => absurd q (by decide), fun _ => hfl 1 (by rw [hq]; rfl)⟩
theorem r_MO_findTurns {σ : fg_St} (hM : fg_MI σ z) (hT : T = fg_tn z (fg_R σ 191)) (hS : S < 1024) (H : ∀ u, fg_sm fg_p2 σ u → (∀ P, fg_sub P S → fg_R u 200 P = nI (fg_fr (fg_flb z T) P)) → (∀ P, fg_sub P S → 1 ≤ P → fg_R u 199 P = fg_b (fg_flb z T P)) → Q 0 u) : fg_Run (d + 4) 153 0 [some (.ref 187), some (.int (nI S)), none, none, none, none] [] σ Q := by
  refine b_MO_findTurns_0 (l_MO_findTurns hM hT hS H S 1 _ (by omega) (by omega) (fg_sm_R (by decide)) (fun P a _ => ?_) (fun P a _ b => by omega))
  have : P = 0 := by omega
  subst this
  rw [fg_R_sR, if_pos ⟨rfl, rfl⟩, fg_fr_eq fg_fw_0]
  rfl
/-- the first group of the reference -/
theorem l_MO_turns {σ : fg_St} (hS : S < 1024) (hS0 : 1 ≤ fg_fr (fg_flb z T) S ∨ S = 0) (h200 : ∀ P, fg_sub P S → fg_R σ 200 P = nI (fg_fr (fg_flb z T) P)) (h199 : ∀ P, fg_sub P S → 1 ≤ P → fg_R σ 199 P = fg_b (fg_flb z T P)) (H : ∀ x, fg_fst (fg_fgp (fg_flb z T) S) S x → Q x σ) : ∀ C x, fg_sub C S → ((x = -1 ∧ ∀ G, C < G → ¬ fg_fgp (fg_flb z T) S G) ∨ ∃ G, x = nI G ∧ C < G ∧ G ≤ S ∧ fg_fgp (fg_flb z T) S G ∧ ∀ G', C < G' → G' < G → ¬ fg_fgp (fg_flb z T) S G') → fg_Run (d + 1) 154 71 [some (.ref 187), some (.int (nI S)), none, some (.int x), some (.int (nI C))] [] σ Q := by
  intro C
  induction C using Nat.strongRecOn with
  | ind C ih =>
    intro x hC hx
    have hCl := fg_sub_le hC
    by_cases h0 : C = 0
    · subst h0
      refine b_MO_turns_71 ⟨fun _ => H x ?_, fun q => absurd (nI_le (a := 0) (b := 0) (by decide) (by decide)) q⟩
      rcases hx with ⟨a, b⟩ | ⟨G, a, b, c, d, e⟩
      · exact Or.inl ⟨a, fun G h1 _ => b G (by omega)⟩
      · exact Or.inr ⟨G, a, by omega, c, d, fun G' h1 h2 => e G' (by omega) h2⟩
    · have hS1 : 1 ≤ fg_fr (fg_flb z T) S := by
        rcases hS0 with q | q
        · exact q
        · omega
      have hand : (C - 1) &&& S ≤ C - 1 := Nat.and_le_left
      have hnx : ∀ M, fg_fgp (fg_flb z T) S M → (C - 1) &&& S < M → C < M ∨ M = C := by
        intro M hM hlt2
        rcases Nat.lt_trichotomy C M with q | q | q
        · exact Or.inl q
        · exact Or.inr q.symm
        · have := fg_nxt C _ M hC hM.1 q
          omega
      have hwl := fg_wo_le S C
      have no : ¬ fg_fgp (fg_flb z T) S C → fg_Run (d + 1) 154 71 [some (.ref 187), some (.int (nI S)), none, some (.int x), some (.int (nI ((C - 1) &&& S)))] [] σ Q := by
        intro hn
        refine ih _ (by omega) x (fg_and_sub _ _) ?_
        rcases hx with ⟨a, b⟩ | ⟨G, a, b, c, d, e⟩
        · refine Or.inl ⟨a, fun G h1 h2 => ?_⟩
          rcases hnx G h2 h1 with q | q
          · exact b G q h2
          · rw [q] at h2; exact hn h2
        · refine Or.inr ⟨G, a, by omega, c, d, fun G' h1 h2 h3 => ?_⟩
          rcases hnx G' h3 h1 with q | q
          · exact e G' q h2 h3
          · rw [q] at h3; exact hn h3
      refine b_MO_turns_71 ⟨fun q => absurd q (nI_ge (a := 0) (b := C) (by omega) (by omega)), fun _ => ?_⟩
      have f1 := fg_fr_le (F := fg_flb z T) (P := S) (by omega)
      have f2 := fg_fr_le (F := fg_flb z T) (P := fg_wo S C) (by omega)
      rw [show nI C - 1 = nI (C - 1) from pk_sub (b := 1) (by omega), fg_and, fg_andn, nI_clamp (show C < 2 ^ 31 by omega), nI_clamp (show S < 2 ^ 31 by omega), nI_clamp (show fg_wo S C < 2 ^ 31 by omega), h199 C hC (by omega), fg_bb, h200 S (fun _ q => q), h200 _ (fg_wo_sub (by omega)), fg_succ_eq (by omega) (by omega) hS1]
      refine ⟨vp_in_nI (by omega) (by decide), fun q => no (fun k => by rw [k.2.1] at q; cases q), fun q => ⟨vp_in_nI (by omega) (by decide), vp_in_nI (by omega) (by decide), fun q2 => no (fun k => q2 k.2.2), fun q2 => ?_⟩⟩
      have q : fg_flb z T C = true := by simpa using q
      refine ih _ (by omega) _ (fg_and_sub _ _) (Or.inr ⟨C, rfl, by omega, by omega, ⟨hC, q, q2⟩, fun G' h1 h2 h3 => ?_⟩)
      rcases hnx G' h3 h1 with q | q <;> omega
end
