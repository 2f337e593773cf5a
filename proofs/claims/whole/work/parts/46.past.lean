/-! DECKS COPIED, THE PAST: the class -/
def fg_dn (k : Nat) : Nat := fg_dl.getD (k + 1) 0
set_option maxRecDepth 100000 in
theorem fg_dk_ok : ∀ h ∈ 15 :: fg_dks, fg_kd h = 0 ∧ ∀ k, k < 7 → fg_kd (h + 1 + k) = 11 ∧ fg_ln (h + 1 + k) = fg_dn k := by decide +kernel
theorem fg_dk_59 : ∀ j, j < 16 → 59 + 8 * j ∈ 15 :: fg_dks := by decide +kernel
theorem fg_dk_42 : ∀ i, i < 2 → 42 + 9 * i ∈ 15 :: fg_dks := by decide +kernel
theorem fg_pt0 {σ : fg_St} {h k : Nat} (e : fg_kd h = 0) : fg_pt σ h k = h + 1 + k := by
  unfold fg_pt
  rw [e]
  rfl
theorem fg_R_cp (σ : fg_St) (h t n a b : Nat) : fg_R (fg_cp σ h t 0 0 n) a b = if a = t ∧ b < n then fg_R σ h b else fg_R σ a b := by
  show va_up σ.2.2.2 t (va_cpy (σ.2.2.2 h) (σ.2.2.2 t) 0 0 n) a b = _
  by_cases e : a = t
  · subst e
    rw [va_up_self]
    by_cases e2 : b < n
    · rw [if_pos ⟨rfl, e2⟩, pk_cpy_in (by omega) (by omega)]
      simp
    · rw [if_neg (fun q => e2 q.2), pk_cpy_out (by omega)]
  · rw [va_up_ne _ _ e, if_neg (fun q => e q.1)]
def fg_pH (h g : Nat) : Bool := decide (h ≤ g ∧ g < h + 8)
theorem fg_pH_no {h g : Nat} (q : g < h ∨ h + 8 ≤ g) : fg_pH h g = false := decide_eq_false (by omega)
theorem fg_pH_in {h g : Nat} (q1 : h ≤ g) (q2 : g < h + 8) : fg_pH h g = true := decide_eq_true ⟨q1, q2⟩
theorem fg_bstep {σ τ : fg_St} {h0 h1 i n : Nat} (hi : i < 7) (hn : n = fg_dn i) (ha : h0 + 8 ≤ h1 ∨ h1 + 8 ≤ h0) (m : fg_sm (fg_pH h0) σ τ) (hr : ∀ k, k < i → ∀ j, j < fg_dn k → fg_R τ (h0 + 1 + k) j = fg_R σ (h1 + 1 + k) j) : fg_sm (fg_pH h0) σ (fg_cp τ (h1 + 1 + i) (h0 + 1 + i) 0 0 n) ∧ ∀ k, k < i + 1 → ∀ j, j < fg_dn k → fg_R (fg_cp τ (h1 + 1 + i) (h0 + 1 + i) 0 0 n) (h0 + 1 + k) j = fg_R σ (h1 + 1 + k) j := by
  refine ⟨⟨m.1, fun g hg => ⟨(m.2 g hg).1, fun j => ?_⟩⟩, fun k hk j hj => ?_⟩
  · rw [fg_R_cp, if_neg]
    · exact (m.2 g hg).2 j
    · intro q
      rw [q.1, fg_pH_in (by omega) (by omega)] at hg
      cases hg
  · rw [fg_R_cp]
    by_cases e : k = i
    · subst e
      rw [if_pos ⟨rfl, by omega⟩]
      exact (m.2 _ (fg_pH_no (by omega))).2 j
    · rw [if_neg (fun q => absurd q.1 (by omega))]
      exact hr k (by omega) j hj
theorem fg_Dk.cp {z : fg_Z} {f f' : Nat → Int32} {r r' : Nat → Nat → Int32} {w : Nat → Int32} (hD : fg_Dk z f r w) (hz : fg_Zok z) (hf : ∀ k, 7 ≤ k → k ≤ 11 → f' k = f k) (hr : ∀ k, k < 7 → ∀ j, j < fg_dn k → r' k j = r k j) : fg_Dk z f' r' w := by
  have hf10 := hz.1.2.2.1
  obtain ⟨d1, d2, d3, d4, d5, d6, d7⟩ := hD
  have d0 : fg_dn 0 = 10 ∧ fg_dn 1 = 10 ∧ fg_dn 2 = 10 ∧ fg_dn 3 = 10 ∧ fg_dn 4 = 10 ∧ fg_dn 5 = 3 ∧ fg_dn 6 = 12 := ⟨rfl, rfl, rfl, rfl, rfl, rfl, rfl⟩
  refine ⟨fun g hg => ?_, fun g hg => ?_, (hf 7 (by omega) (by omega)).trans d3, (hf 8 (by omega) (by omega)).trans d4, ⟨(hf 9 (by omega) (by omega)).trans d5.1, (hf 10 (by omega) (by omega)).trans d5.2.1, (hf 11 (by omega) (by omega)).trans d5.2.2⟩, fun q hq => (hr 5 (by omega) q (by omega)).trans (d6 q hq), fun q hq => (hr 6 (by omega) q (by omega)).trans (d7 q hq)⟩
  · obtain ⟨k, a, b, e1, e2, e3, e4, e5⟩ := d1 g hg
    exact ⟨k, a, b, e1, (hr 0 (by omega) g (by omega)).trans e2, (hr 1 (by omega) g (by omega)).trans e3, (hr 2 (by omega) g (by omega)).trans e4, e5⟩
  · exact ⟨(hr 3 (by omega) g (by omega)).trans (d2 g hg).1, (hr 4 (by omega) g (by omega)).trans (d2 g hg).2⟩
section
variable {d : Nat} {σ : fg_St} {Q : Int32 → fg_St → Prop}
theorem r_DK_become {h0 h1 : Nat} (m0 : h0 ∈ 15 :: fg_dks) (m1 : h1 ∈ 15 :: fg_dks) (ha : h0 + 8 ≤ h1 ∨ h1 + 8 ≤ h0) (H : ∀ u, fg_sm (fg_pH h0) σ u → (∀ z w, fg_Zok z → fg_DkX σ h1 z w → fg_DkX u h0 z w) → Q 0 u) : fg_Run (d + 1) 1 0 [some (.ref h0), some (.ref h1)] [] σ Q := by
  obtain ⟨A0, A⟩ := fg_dk_ok h0 m0
  obtain ⟨B0, B⟩ := fg_dk_ok h1 m1
  have lens : ∀ k, k < 7 → fg_dn k ≤ fg_ln (h1 + 1 + k) ∧ fg_dn k ≤ fg_ln (h0 + 1 + k) := fun k hk => ⟨by rw [(B k hk).2]; exact Nat.le_refl _, by rw [(A k hk).2]; exact Nat.le_refl _⟩
  have l0 := lens 0 (by decide)
  have l1 := lens 1 (by decide)
  have l2 := lens 2 (by decide)
  have l3 := lens 3 (by decide)
  have l4 := lens 4 (by decide)
  have l5 := lens 5 (by decide)
  have l6 := lens 6 (by decide)
  refine b_DK_become_0 ⟨B0, A0, ?_⟩
  rw [fg_pt0 (k := 0) B0, fg_pt0 (k := 0) A0]
  refine ⟨⟨(B 0 (by decide)).1, (A 0 (by decide)).1, l0.1, l0.2⟩, ?_⟩
  have f1 := fg_bstep (i := 0) (n := 10) (by decide) rfl ha (fg_sm.rfl' (σ := σ)) (fun k hk => absurd hk (by omega))
  generalize fg_cp σ (h1 + 1 + 0) (h0 + 1 + 0) 0 0 10 = τ1 at f1 ⊢
  refine b_DK_become_15 ⟨B0, A0, ?_⟩
  rw [fg_pt0 (k := 1) B0, fg_pt0 (k := 1) A0]
  refine ⟨⟨(B 1 (by decide)).1, (A 1 (by decide)).1, l1.1, l1.2⟩, ?_⟩
  have f2 := fg_bstep (i := 1) (n := 10) (by decide) rfl ha f1.1 f1.2
  generalize fg_cp τ1 (h1 + 1 + 1) (h0 + 1 + 1) 0 0 10 = τ2 at f2 ⊢
  refine b_DK_become_30 ⟨B0, A0, ?_⟩
  rw [fg_pt0 (k := 2) B0, fg_pt0 (k := 2) A0]
  refine ⟨⟨(B 2 (by decide)).1, (A 2 (by decide)).1, l2.1, l2.2⟩, ?_⟩
  have f3 := fg_bstep (i := 2) (n := 10) (by decide) rfl ha f2.1 f2.2
  generalize fg_cp τ2 (h1 + 1 + 2) (h0 + 1 + 2) 0 0 10 = τ3 at f3 ⊢
  refine b_DK_become_45 ⟨B0, A0, ?_⟩
  rw [fg_pt0 (k := 3) B0, fg_pt0 (k := 3) A0]
  refine ⟨⟨(B 3 (by decide)).1, (A 3 (by decide)).1, l3.1, l3.2⟩, ?_⟩
  have f4 := fg_bstep (i := 3) (n := 10) (by decide) rfl ha f3.1 f3.2
  generalize fg_cp τ3 (h1 + 1 + 3) (h0 + 1 + 3) 0 0 10 = τ4 at f4 ⊢
  refine b_DK_become_60 ⟨B0, A0, ?_⟩
  rw [fg_pt0 (k := 4) B0, fg_pt0 (k := 4) A0]
  refine ⟨⟨(B 4 (by decide)).1, (A 4 (by decide)).1, l4.1, l4.2⟩, ?_⟩
  have f5 := fg_bstep (i := 4) (n := 10) (by decide) rfl ha f4.1 f4.2
  generalize fg_cp τ4 (h1 + 1 + 4) (h0 + 1 + 4) 0 0 10 = τ5 at f5 ⊢
  refine b_DK_become_75 ⟨B0, A0, ?_⟩
  rw [fg_pt0 (k := 5) B0, fg_pt0 (k := 5) A0]
  refine ⟨⟨(B 5 (by decide)).1, (A 5 (by decide)).1, l5.1, l5.2⟩, ?_⟩
  have f6 := fg_bstep (i := 5) (n := 3) (by decide) rfl ha f5.1 f5.2
  generalize fg_cp τ5 (h1 + 1 + 5) (h0 + 1 + 5) 0 0 3 = τ6 at f6 ⊢
  refine b_DK_become_89 ⟨B0, A0, ?_⟩
  rw [fg_pt0 (k := 6) B0, fg_pt0 (k := 6) A0]
  refine ⟨⟨(B 6 (by decide)).1, (A 6 (by decide)).1, l6.1, l6.2⟩, ?_⟩
  have f7 := fg_bstep (i := 6) (n := 12) (by decide) rfl ha f6.1 f6.2
  generalize fg_cp τ6 (h1 + 1 + 6) (h0 + 1 + 6) 0 0 12 = τ at f7 ⊢
  obtain ⟨m, hr⟩ := f7
  refine b_DK_become_104 ⟨B0, A0, B0, A0, B0, A0, B0, A0, B0, A0, H _ ?_ (fun z w hz hD => ?_)⟩
  · have i : fg_pH h0 h0 = true := fg_pH_in (by omega) (by omega)
    exact m.tr (((((fg_sm_F i).tr (fg_sm_F i)).tr (fg_sm_F i)).tr (fg_sm_F i)).tr (fg_sm_F i))
  · refine fg_Dk.cp hD hz (fun k h7 h11 => ?_) hr
    have e := fun k => (m.2 h1 (fg_pH_no (by omega))).1 k
    have hk : k = 7 ∨ k = 8 ∨ k = 9 ∨ k = 10 ∨ k = 11 := by omega
    rcases hk with rfl | rfl | rfl | rfl | rfl
    all_goals simp only [fg_F_sF]
    all_goals simp
    all_goals exact e _
end
