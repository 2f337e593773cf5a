/-! WHAT IS FREE, HOW A FLAG LOOKS: the class -/
section
variable {d : Nat} {σ : fg_St} {Q : Int32 → fg_St → Prop} {h : Nat} {z : fg_Z} {w : Nat → Int32}
def fg_v10 (w : Nat → Int32) (i g : Nat) : Bool := !(decide (w (30 + g) = 1)) && (decide (i ≤ g) || decide (w (20 + g) = -1))
theorem l_DK_freeFlags (hz : fg_Zok z) (hD : fg_DkX σ 15 z w) (H : Q (nI (fg_set (fg_v10 w 10) (fg_zf z))) σ) : ∀ m i, i + m = 10 → fg_Run (d + 1) 3 14 [some (.ref 15), none, some (.int (nI (fg_set (fg_v10 w i) (fg_zf z)))), some (.int (nI i))] [] σ Q := by
  have hf := hz.1.2.2.1
  intro m
  induction m with
  | zero =>
    intro i hi
    have hi : i = 10 := by omega
    subst hi
    exact b_DK_freeFlags_14 ⟨fun _ => H, fun q => absurd (nI_le (a := 10) (b := 10) (by decide) (by decide)) q⟩
  | succ m ih =>
    intro i hi
    have ih := ih (i + 1) (by omega)
    refine b_DK_freeFlags_14 ⟨fun q => absurd q (nI_ge (b := 10) (by omega) (by decide)), fun _ => ⟨vp_in_nI (by omega) (by decide), ?_⟩⟩
    rw [nI_clamp (by omega), nI_1]
    refine ⟨fun q => ?_, fun q => ?_⟩
    · rw [show fg_set (fg_v10 w i) (fg_zf z) = fg_set (fg_v10 w (i + 1)) (fg_zf z) from fg_set_ext (fun g hg => ?_)]
      · exact ih
      · unfold fg_v10
        by_cases e : g = i
        · subst e
          have h2 : fg_R σ 20 g = w (20 + g) := (hD.2.1 g hg).2
          rw [q] at h2
          simp [← h2]
        · have : decide (i ≤ g) = decide (i + 1 ≤ g) := by
            congr 1
            apply propext
            omega
          rw [this]
    · rw [fg_shl1 (by omega), fg_andn, fg_set_out _ _ _ (by omega)]
      rw [show fg_set (fun g => fg_v10 w i g && !(g == i)) (fg_zf z) = fg_set (fg_v10 w (i + 1)) (fg_zf z) from fg_set_ext (fun g hg => ?_)]
      · exact ih
      · unfold fg_v10
        by_cases e : g = i
        · subst e
          have h2 : fg_R σ 20 g = w (20 + g) := (hD.2.1 g hg).2
          have h3 : ¬ w (20 + g) = -1 := by rw [← h2]; exact q
          simp [h3]
        · have : decide (i ≤ g) = decide (i + 1 ≤ g) := by
            congr 1
            apply propext
            omega
          rw [this]
          simp [e]
theorem r_DK_freeFlags (Sh : h = 3 ∨ h = 9) (hz : fg_Zok z) (hX : fg_ShX σ h z) (hD : fg_DkX σ 15 z w) (hW : fg_Wk z w) (H : Q (nI (fg_set (fg_fre w) (fg_zf z))) σ) : fg_Run (d + 1) 3 0 [some (.ref 15), some (.ref h), none, none] [] σ Q := by
  have hf := hz.1.2.2.1
  refine b_DK_freeFlags_0 Sh (fg_use (r_SH_allFlags Sh hz hX ?_))
  have h7 : fg_F σ 15 7 = nI (fg_set (fun g => decide (w (30 + g) = 1)) (fg_zf z)) := hD.2.2.1
  rw [h7, ← fg_set_all, fg_andn, fg_wo_set _ _ _ _ (by omega) (Nat.le_refl _)]
  rw [show fg_set (fun g => true && !(decide (w (30 + g) = 1))) (fg_zf z) = fg_set (fg_v10 w 0) (fg_zf z) from fg_set_ext (fun g _ => by simp [fg_v10])]
  refine l_DK_freeFlags hz hD ?_ 10 0 rfl
  rw [show fg_set (fg_v10 w 10) (fg_zf z) = fg_set (fg_fre w) (fg_zf z) from fg_set_ext (fun g hg => ?_)]
  · exact H
  · unfold fg_v10 fg_fre
    rw [decide_eq_false (show ¬ 10 ≤ g by omega)]
    rcases hW.1 g hg with e | e
    · rw [e]; simp
    · rw [e]; simp
theorem r_DK_freeSubstitutes (Sh : h = 3 ∨ h = 9) (hz : fg_Zok z) (hX : fg_ShX σ h z) (hD : fg_DkX σ 15 z w) (H : Q (nI (fg_set (fg_frs w) (fg_zN z + 1))) σ) : fg_Run (d + 1) 4 0 [some (.ref 15), some (.ref h)] [] σ Q := by
  have hn := hz.1.2.1
  refine b_DK_freeSubstitutes_0 Sh (fg_use (r_SH_allSubstitutes Sh hz hX ?_))
  have h8 : fg_F σ 15 8 = nI (fg_set (fun k => decide (1 ≤ k ∧ ¬ w (39 + k) = -1)) 4) := hD.2.2.2.1
  rw [h8, ← fg_als_all _ (by omega), fg_andn, fg_wo_set _ _ _ _ (by omega) (by omega)]
  rw [show fg_set (fun g => fg_als g && !(decide (1 ≤ g ∧ ¬ w (39 + g) = -1))) (fg_zN z + 1) = fg_set (fg_frs w) (fg_zN z + 1) from fg_set_ext (fun g _ => ?_)]
  · exact H
  · unfold fg_als fg_frs
    by_cases h1 : 1 ≤ g
    · by_cases h2 : w (39 + g) = -1
      · simp [h1, h2]
      · simp [h1, h2]
    · simp [h1]
/-- lookIn -/
theorem r_DK_lookIn {g k a b hz wd : Nat} (hg : g < 10) (hk : k ≤ 3) (ha : a ≤ 4) (hb : b ≤ 4) (hh : hz ≤ 2) (hw : wd ≤ 1) (e0 : fg_R σ 16 g = nI k) (e1 : fg_R σ 17 g = nI a) (e2 : fg_R σ 18 g = nI b) (H : Q (nI (fg_lk k a b hz wd)) σ) : fg_Run (d + 2) 5 0 [some (.ref 15), some (.int (nI g)), some (.int (nI hz)), some (.int (nI wd))] [] σ Q := by
  refine b_DK_lookIn_0 ⟨fun q => absurd q (nI_pos (by omega)), fun _ => ⟨fun _ => ?_, fun q => absurd (nI_lt (b := 10) hg (by decide)) q⟩⟩
  rw [nI_clamp (by omega), e0, e1, e2]
  exact ⟨vp_in_nI hg (by decide), vp_in_nI hg (by decide), vp_in_nI hg (by decide), fg_use (r_FS_seenPattern hk ha hb hh hw H)⟩
end
/-! the deck's and the row's relation only looks at their own handles -/
theorem fg_DkX.sm {P : Nat → Bool} {σ u : fg_St} {h : Nat} {z : fg_Z} {w : Nat → Int32} (hD : fg_DkX σ h z w) (s : fg_sm P σ u) (h0 : P h = false) (hr : ∀ k, k < 7 → P (h + 1 + k) = false) : fg_DkX u h z w := by
  have f := (s.2 h h0).1
  have r := fun k hk => (s.2 (h + 1 + k) (hr k hk)).2
  obtain ⟨d1, d2, d3, d4, d5, d6, d7⟩ := hD
  refine ⟨fun g hg => ?_, fun g hg => ?_, (f 7).trans d3, (f 8).trans d4, ⟨(f 9).trans d5.1, (f 10).trans d5.2.1, (f 11).trans d5.2.2⟩, fun q hq => (r 5 (by omega) q).trans (d6 q hq), fun q hq => (r 6 (by omega) q).trans (d7 q hq)⟩
  · obtain ⟨k, a, b, e1, e2, e3, e4, e5⟩ := d1 g hg
    exact ⟨k, a, b, e1, (r 0 (by omega) g).trans e2, (r 1 (by omega) g).trans e3, (r 2 (by omega) g).trans e4, e5⟩
  · exact ⟨(r 3 (by omega) g).trans (d2 g hg).1, (r 4 (by omega) g).trans (d2 g hg).2⟩
theorem fg_Dk.w {z : fg_Z} {f : Nat → Int32} {r : Nat → Nat → Int32} {w w' : Nat → Int32} (hD : fg_Dk z f r w) (hz : fg_Zok z) (e : ∀ i, i < 61 → w' i = w i) : fg_Dk z f r w' := by
  have hf := hz.1.2.2.1
  obtain ⟨d1, d2, d3, d4, d5, d6, d7⟩ := hD
  refine ⟨fun g hg => ?_, fun g hg => ?_, ?_, ?_, ⟨d5.1.trans (e 60 (by omega)).symm, d5.2.1.trans (e 58 (by omega)).symm, d5.2.2.trans (e 59 (by omega)).symm⟩, fun q hq => (d6 q hq).trans (e _ (by omega)).symm, fun q hq => (d7 q hq).trans (e _ (by omega)).symm⟩
  · obtain ⟨k, a, b, e1, e2, e3, e4, e5⟩ := d1 g hg
    exact ⟨k, a, b, e1, e2, e3, e4, (e g (by omega)).trans e5⟩
  · exact ⟨(d2 g hg).1.trans (e _ (by omega)).symm, (d2 g hg).2.trans (e _ (by omega)).symm⟩
  · rw [d3]
    congr 1
    exact fg_set_ext (fun g hg => by rw [e _ (by omega)])
  · rw [d4]
    congr 1
    exact fg_set_ext (fun g hg => by rw [e _ (by omega)])
theorem fg_Wk.w {z : fg_Z} {w w' : Nat → Int32} (hW : fg_Wk z w) (hz : fg_Zok z) (e : ∀ i, i < 61 → w' i = w i) : fg_Wk z w' := by
  have hf := hz.1.2.2.1
  obtain ⟨d1, d2, ⟨d3, d4, d5⟩, d6, d7, d8, d9, d10, d11⟩ := hW
  refine ⟨fun g hg => ?_, fun g hg => ?_, ⟨?_, ?_, ?_⟩, fun g hg => ?_, fun k h1 h3 => ?_, fun h hh => ?_, fun h j hh hj => ?_, fun g h hg hh => ?_, fun k h h1 h3 hh => ?_⟩
  · rw [e _ (by omega)]; exact d1 g hg
  · rw [e _ (by omega), e _ (by omega)]; exact d2 g hg
  · rw [e _ (by omega)]; exact d3
  · rw [e _ (by omega)]; exact d4
  · rw [e _ (by omega)]; exact d5
  · rw [e _ (by omega)]; exact d6 g hg
  · rw [e _ (by omega)]; exact d7 k h1 h3
  · rw [e _ (by omega)]
    rcases d8 h hh with q | q
    · exact Or.inl ⟨q.1, fun j hj => by rw [e _ (by omega)]; exact q.2 j hj⟩
    · exact Or.inr q
  · rw [e _ (by omega)]; exact d9 h j hh hj
  · rw [e _ (by omega), d10 g h hg hh]
    exact ⟨fun ⟨j, hj, q⟩ => ⟨j, hj, by rw [e _ (by omega)]; exact q⟩, fun ⟨j, hj, q⟩ => ⟨j, hj, by rw [e _ (by omega)] at q; exact q⟩⟩
  · rw [e _ (by omega), d11 k h h1 h3 hh]
    exact ⟨fun ⟨j, hj, q⟩ => ⟨j, hj, by rw [e _ (by omega)]; exact q⟩, fun ⟨j, hj, q⟩ => ⟨j, hj, by rw [e _ (by omega)] at q; exact q⟩⟩
