/-! THE ROW OF THE REFERENCE CHANGES -/
def fg_p191 (g : Nat) : Bool := g == 191
theorem fg_id2 (W : Nat → Int32) (a b : Nat) : fg_ut (fg_ut W a (W a + 0)) b (fg_ut W a (W a + 0) b) = W := by rw [fg_ut_id, Int32.add_zero, fg_ut_id]
theorem fg_lg_0 {w : Nat → Int32} {h : Nat} : fg_ut w (43 + h) (-1) = fg_lg w h 0 0 0 := by
  funext k
  unfold fg_lg
  by_cases e : k = 43 + h
  · rw [e, fg_ut_s, if_pos (by omega)]
  · rw [fg_ut_n e, if_neg (by omega), if_neg (by omega)]
theorem fg_lg_a {w : Nat → Int32} {h a : Nat} : fg_ut (fg_lg w h a 0 0) (46 + (4 * h + a)) (-1) = fg_lg w h (a + 1) 0 0 := by
  funext k
  by_cases e : k = 46 + (4 * h + a)
  · rw [e, fg_ut_s]
    unfold fg_lg
    rw [if_pos (by omega)]
  · rw [fg_ut_n e]
    unfold fg_lg
    have hA : (k = 43 + h ∨ 46 + 4 * h ≤ k ∧ k < 46 + 4 * h + a) ↔ (k = 43 + h ∨ 46 + 4 * h ≤ k ∧ k < 46 + 4 * h + (a + 1)) := by omega
    simp only [hA]
theorem fg_lg_b {w : Nat → Int32} {h b : Nat} (hb : b < 10) : fg_ut (fg_lg w h 4 b 0) (20 + b) (if w (20 + b) = nI h then -1 else w (20 + b)) = fg_lg w h 4 (b + 1) 0 := by
  funext k
  by_cases e : k = 20 + b
  · rw [e, fg_ut_s]
    unfold fg_lg
    rw [if_neg (c := 20 + b = 43 + h ∨ _) (by omega)]
    by_cases q : w (20 + b) = nI h
    · rw [if_pos q, if_pos ⟨by omega, q⟩]
    · rw [if_neg q, if_neg (fun y => q y.2)]
  · rw [fg_ut_n e]
    unfold fg_lg
    have hA : (20 ≤ k ∧ k < 20 + b ∨ 40 ≤ k ∧ k < 40 + 0) ↔ (20 ≤ k ∧ k < 20 + (b + 1) ∨ 40 ≤ k ∧ k < 40 + 0) := by omega
    simp only [hA]
theorem fg_lg_c {w : Nat → Int32} {h c : Nat} (hc : c < 3) : fg_ut (fg_lg w h 4 10 c) (40 + c) (if w (40 + c) = nI h then -1 else w (40 + c)) = fg_lg w h 4 10 (c + 1) := by
  funext k
  by_cases e : k = 40 + c
  · rw [e, fg_ut_s]
    unfold fg_lg
    rw [if_neg (c := 40 + c = 43 + h ∨ _) (by omega)]
    by_cases q : w (40 + c) = nI h
    · rw [if_pos q, if_pos ⟨by omega, q⟩]
    · rw [if_neg q, if_neg (fun y => q y.2)]
  · rw [fg_ut_n e]
    unfold fg_lg
    have hA : (20 ≤ k ∧ k < 20 + 10 ∨ 40 ≤ k ∧ k < 40 + c) ↔ (20 ≤ k ∧ k < 20 + 10 ∨ 40 ≤ k ∧ k < 40 + (c + 1)) := by omega
    simp only [hA]
section
variable {d : Nat} {σ : fg_St} {Q : Int32 → fg_St → Prop} {z : fg_Z} {w : Nat → Int32} {h f : Nat}
theorem r_MO_canSew (h1 : fg_R σ 191 = w) (hf : f < 10) (H : Q (fg_b (decide (w (20 + f) = -1 ∧ w (30 + f) = 1))) σ) : fg_Run d 175 0 [some (.ref 187), some (.int (nI f))] [] σ Q := by
  have x2 := fg_ix (c := 20) (i := f) (n := 61) (by omega) (by decide)
  have x3 := fg_ix (c := 30) (i := f) (n := 61) (by omega) (by decide)
  refine b_MO_canSew_0 ?_
  rw [show (20 : Int32) = nI 20 from rfl, show (30 : Int32) = nI 30 from rfl, x2.2, x3.2, h1]
  refine ⟨x2.1, fun q => ?_, fun q => ⟨x3.1, fun q3 => ?_, fun q3 => ?_⟩⟩
  · rw [decide_eq_false (fun x => q x.1)] at H
    exact H
  · rw [decide_eq_false (fun x => q3 x.2)] at H
    exact H
  · rw [decide_eq_true ⟨q, q3⟩] at H
    exact H
theorem r_MO_sewNow (h1 : fg_R σ 191 = w) (hf : f < 10) (H : ∀ u, fg_sm fg_p191 σ u → fg_R u 191 = fg_wS w f → Q 0 u) : fg_Run d 176 0 [some (.ref 187), some (.int (nI f))] [] σ Q := by
  have x1 := fg_ix (c := 10) (i := f) (n := 61) (by omega) (by decide)
  have x3 := fg_ix (c := 30) (i := f) (n := 61) (by omega) (by decide)
  refine b_MO_sewNow_0 ?_
  rw [show (10 : Int32) = nI 10 from rfl, show (30 : Int32) = nI 30 from rfl, x1.2, x3.2]
  refine ⟨x3.1, x1.1, H _ ((fg_sm_R (by decide)).tr (fg_sm_R (by decide))) ?_⟩
  rw [fg_row_sR, fg_row_sR, h1, fg_wS, fg_ut_c (by omega)]
theorem l_MO_pass (hz : fg_Zok z) (hF : fg_F σ 187 2 = nI (fg_zf z)) (H : ∀ u, fg_sm fg_p191 σ u → fg_R u 191 = fg_wD z w → Q 0 u) : ∀ m i (τ : fg_St), i + m = fg_zf z → fg_sm fg_p191 σ τ → fg_R τ 191 = fg_dy w i → fg_Run d 172 2 [some (.ref 187), some (.int (nI i)), none] [] τ Q := by
  have h10 := hz.1.2.2.1
  intro m
  induction m with
  | zero =>
    intro i τ hi m1 e
    have hi : i = fg_zf z := by omega
    subst hi
    have hF' : fg_F τ 187 2 = nI (fg_zf z) := ((m1.2 187 (by decide)).1 2).trans hF
    refine b_MO_pass_2 ⟨fun _ => H _ (m1.tr (fg_sm_R (by decide))) ?_, fun q => absurd ?_ q⟩
    · rw [fg_row_sR, e]
      rfl
    · rw [hF']
      exact nI_le (Nat.le_refl _) (by omega)
  | succ m ih =>
    intro i τ hi m1 e
    have hF' : fg_F τ 187 2 = nI (fg_zf z) := ((m1.2 187 (by decide)).1 2).trans hF
    have x1 := fg_ix (c := 10) (i := i) (n := 61) (by omega) (by decide)
    have x2 := fg_ix (c := 20) (i := i) (n := 61) (by omega) (by decide)
    have x3 := fg_ix (c := 30) (i := i) (n := 61) (by omega) (by decide)
    refine b_MO_pass_2 ⟨fun q => absurd q (by rw [hF']; exact nI_ge (by omega) (by omega)), fun _ => ?_⟩
    rw [show (10 : Int32) = nI 10 from rfl, show (20 : Int32) = nI 20 from rfl, show (30 : Int32) = nI 30 from rfl, x1.2, x2.2, x3.2, fg_R_eq, fg_R_eq, fg_R_eq, nI_1, e]
    have step : ∀ x y, fg_ut (fg_ut (fg_dy w i) (10 + i) x) (30 + i) y = fg_dy w (i + 1) → fg_Run d 172 2 [some (.ref 187), some (.int (nI (i + 1))), none] [] (fg_sR (fg_sR τ 191 (10 + i) x) 191 (30 + i) y) Q := fun x y q => ih (i + 1) _ (by omega) (m1.tr ((fg_sm_R (by decide)).tr (fg_sm_R (by decide)))) (by rw [fg_row_sR, fg_row_sR, e]; exact q)
    refine ⟨x2.1, fun q => ⟨x1.1, x1.1, x3.1, x3.1, step _ _ ?_⟩, fun q => ⟨x3.1, fun q3 => ⟨x1.1, x1.1, x3.1, x3.1, step _ _ ?_⟩, fun q3 => ⟨x1.1, x1.1, x1.1, fun q5 => ⟨x3.1, x3.1, step _ _ ?_⟩, fun q5 => ⟨x3.1, step _ _ ?_⟩⟩⟩⟩
    · rw [fg_dy, fg_q1, if_pos q]
      exact fg_id2 _ _ _
    · rw [fg_dy, fg_q1, if_neg q, if_neg q3]
      exact fg_id2 _ _ _
    · rw [fg_ut_s] at q5
      rw [fg_dy, fg_q1, if_neg q, if_pos q3, fg_p1, if_neg q5, fg_ut_n (w := fg_dy w i) (k := 30 + i) (by omega)]
    · rw [fg_ut_s] at q5
      rw [fg_dy, fg_q1, if_neg q, if_pos q3, fg_p1, if_pos q5]
theorem r_MO_pass (hz : fg_Zok z) (h1 : fg_R σ 191 = w) (hF : fg_F σ 187 2 = nI (fg_zf z)) (H : ∀ u, fg_sm fg_p191 σ u → fg_R u 191 = fg_wD z w → Q 0 u) : fg_Run d 172 0 [some (.ref 187), none, none] [] σ Q :=
  b_MO_pass_0 (l_MO_pass hz hF H (fg_zf z) 0 σ (by omega) fg_sm.rfl' h1)
theorem fg_i46 (h i : Nat) : 46 + 4 * nI h + nI i = nI (46 + (4 * h + i)) := by
  rw [show (46 : Int32) = nI 46 from rfl, show (4 : Int32) = nI 4 from rfl, pk_mul, nI_add, nI_add]
  congr 1
  omega
theorem l_MO_hoistRow {r : Nat → Nat} {e : Nat} (hz : fg_Zok z) (hh : h < 3) (ok : ∀ j, j < 4 → fg_pok z (r j)) (hr : ∀ j, j < 4 → fg_R σ 196 j = fg_pi (r j)) (H : ∀ u, fg_sm fg_p191 σ u → fg_R u 191 = fg_ut (fg_hw w h r 4) (43 + h) (nI e) → Q (nI (fg_ns r 4)) u) : ∀ m i (τ : fg_St), i + m = 4 → fg_sm fg_p191 σ τ → fg_R τ 191 = fg_hw w h r i → fg_Run d 168 5 [some (.ref 187), some (.int (nI h)), some (.int (nI e)), some (.int (nI (fg_ns r i))), some (.int (nI i))] [] τ Q := by
  have h10 := hz.1.2.2.1
  intro m
  induction m with
  | zero =>
    intro i τ hi m1 eR
    have hi : i = 4 := by omega
    subst hi
    have x := fg_ix (c := 43) (i := h) (n := 61) (by omega) (by decide)
    refine b_MO_hoistRow_5 ⟨fun _ => ?_, fun q => absurd (nI_le (a := 4) (by omega) (by omega)) q⟩
    rw [show (43 : Int32) = nI 43 from rfl, x.2]
    exact ⟨x.1, H _ (m1.tr (fg_sm_R (by decide))) (by rw [fg_row_sR, eR])⟩
  | succ m ih =>
    intro i τ hi m1 eR
    have er : fg_R τ 196 i = fg_pi (r i) := ((m1.2 196 (by decide)).2 i).trans (hr i (by omega))
    have vi : vp_in (nI i) 4 := vp_in_nI (by omega) (by decide)
    refine b_MO_hoistRow_5 ⟨fun q => absurd q (nI_ge (b := 4) (by omega) (by decide)), fun _ => ⟨vi, ?_⟩⟩
    rw [fg_i46, nI_clamp (by omega), nI_clamp (by omega), er, nI_1]
    refine ⟨vp_in_nI (by omega) (by decide), vi, ?_⟩
    rcases ok i (by omega) with e1 | e1 | e1
    · have ep : fg_pi (r i) = -1 := by rw [e1]; rfl
      rw [ep]
      refine ⟨fun _ => ⟨vi, fun _ => ?_, fun q => absurd rfl q⟩, fun q => absurd (by decide) q⟩
      have en : fg_ns r (i + 1) = fg_ns r i := by rw [fg_ns, if_neg (fun x => x.2 e1)]; rfl
      have := ih (i + 1) _ (by omega) (m1.tr (fg_sm_R (h := 191) (k := 46 + (4 * h + i)) (x := -1) (by decide))) (by rw [fg_row_sR, eR, fg_hw, fg_h1, if_pos e1])
      rw [en] at this
      exact this
    · have ep : fg_pi (r i) = nI (r i) := if_neg (by omega)
      have x := fg_ix (c := 20) (i := r i) (n := 61) (by omega) (by decide)
      rw [ep]
      refine ⟨fun _ => ⟨vi, fun q => absurd q (fg_nm1 (by omega)), fun _ => ⟨vi, x.1, ?_⟩⟩, fun q => absurd (nI_le (b := 20) (by omega) (by decide)) q⟩
      rw [show (20 : Int32) = nI 20 from rfl, x.2]
      have en : fg_ns r (i + 1) = fg_ns r i := by rw [fg_ns, if_neg (by omega)]; rfl
      have := ih (i + 1) _ (by omega) (m1.tr ((fg_sm_R (h := 191) (k := 46 + (4 * h + i)) (x := nI (r i)) (by decide)).tr (fg_sm_R (h := 191) (k := 20 + r i) (x := nI h) (by decide)))) (by rw [fg_row_sR, fg_row_sR, eR, fg_hw, fg_h1, if_neg (by omega), if_pos (by omega)])
      rw [en] at this
      exact this
    · have ep : fg_pi (r i) = nI (r i) := if_neg (by omega)
      have e39 : (40 : Int32) + nI (r i) - 20 - 1 = nI (39 + (r i - 20)) := by
        rw [show (40 : Int32) = nI 40 from rfl, show (20 : Int32) = nI 20 from rfl, show (1 : Int32) = nI 1 from rfl, nI_add, pk_sub (by omega), pk_sub (by omega)]
        congr 1
        omega
      rw [ep, e39, nI_clamp (by omega), nI_1]
      refine ⟨fun q => absurd q (nI_ge (a := 20) (b := r i) (by omega) (by omega)), fun _ => ⟨vi, vp_in_nI (by omega) (by decide), ?_⟩⟩
      have en : fg_ns r (i + 1) = fg_ns r i + 1 := by rw [fg_ns, if_pos (by omega)]
      have := ih (i + 1) _ (by omega) (m1.tr ((fg_sm_R (h := 191) (k := 46 + (4 * h + i)) (x := nI (r i)) (by decide)).tr (fg_sm_R (h := 191) (k := 39 + (r i - 20)) (x := nI h) (by decide)))) (by rw [fg_row_sR, fg_row_sR, eR, fg_hw, fg_h1, if_neg (by omega), if_neg (by omega)])
      rw [en] at this
      exact this
theorem r_MO_hoistRow {r : Nat → Nat} {e : Nat} (hz : fg_Zok z) (hh : h < 3) (ok : ∀ j, j < 4 → fg_pok z (r j)) (hr : ∀ j, j < 4 → fg_R σ 196 j = fg_pi (r j)) (h1 : fg_R σ 191 = w) (H : ∀ u, fg_sm fg_p191 σ u → fg_R u 191 = fg_ut (fg_hw w h r 4) (43 + h) (nI e) → Q (nI (fg_ns r 4)) u) : fg_Run d 168 0 [some (.ref 187), some (.int (nI h)), some (.int (nI e)), none, none] [] σ Q :=
  b_MO_hoistRow_0 (l_MO_hoistRow hz hh ok hr H 4 0 σ rfl fg_sm.rfl' h1)
theorem l_MO_haul3 {x : Int32} (hh : h < 3) (H : ∀ u, fg_sm fg_p191 σ u → fg_R u 191 = fg_wL w h → Q x u) : ∀ m i (τ : fg_St), i + m = 3 → fg_sm fg_p191 σ τ → fg_R τ 191 = fg_lg w h 4 10 i → fg_Run d 170 98 [some (.ref 187), some (.int (nI h)), some (.int x), some (.int (nI i))] [] τ Q := by
  intro m
  induction m with
  | zero =>
    intro i τ hi m1 eR
    have hi : i = 3 := by omega
    subst hi
    exact b_MO_haulNow_98 ⟨fun _ => H τ m1 eR, fun q => absurd (nI_le (a := 3) (by omega) (by omega)) q⟩
  | succ m ih =>
    intro i τ hi m1 eR
    have x := fg_ix (c := 40) (i := i) (n := 61) (by omega) (by decide)
    have ev : fg_lg w h 4 10 i (40 + i) = w (40 + i) := by
      unfold fg_lg
      rw [if_neg (by omega), if_neg (by omega)]
    have hc := fg_lg_c (w := w) (h := h) (c := i) (by omega)
    refine b_MO_haulNow_98 ⟨fun q => absurd q (nI_ge (b := 3) (by omega) (by decide)), fun _ => ?_⟩
    rw [show (40 : Int32) = nI 40 from rfl, x.2, eR, ev, nI_1]
    refine ⟨x.1, fun q => ⟨x.1, x.1, ih (i + 1) _ (by omega) (m1.tr (fg_sm_R (by decide))) ?_⟩, fun q => ⟨x.1, ih (i + 1) _ (by omega) (m1.tr (fg_sm_R (by decide))) ?_⟩⟩
    · rw [if_neg q] at hc
      rw [fg_row_sR, eR, hc]
    · rw [if_pos q] at hc
      rw [fg_row_sR, eR, hc]
theorem l_MO_haul2 {x : Int32} (hh : h < 3) (H : ∀ u, fg_sm fg_p191 σ u → fg_R u 191 = fg_wL w h → Q x u) : ∀ m i (τ : fg_St), i + m = 10 → fg_sm fg_p191 σ τ → fg_R τ 191 = fg_lg w h 4 i 0 → fg_Run d 170 49 [some (.ref 187), some (.int (nI h)), some (.int x), some (.int (nI i))] [] τ Q := by
  intro m
  induction m with
  | zero =>
    intro i τ hi m1 eR
    have hi : i = 10 := by omega
    subst hi
    exact b_MO_haulNow_49 ⟨fun _ => l_MO_haul3 hh H 3 0 τ rfl m1 eR, fun q => absurd (nI_le (a := 10) (by omega) (by omega)) q⟩
  | succ m ih =>
    intro i τ hi m1 eR
    have x := fg_ix (c := 20) (i := i) (n := 61) (by omega) (by decide)
    have ev : fg_lg w h 4 i 0 (20 + i) = w (20 + i) := by
      unfold fg_lg
      rw [if_neg (by omega), if_neg (by omega)]
    have hc := fg_lg_b (w := w) (h := h) (b := i) (by omega)
    refine b_MO_haulNow_49 ⟨fun q => absurd q (nI_ge (b := 10) (by omega) (by decide)), fun _ => ?_⟩
    rw [show (20 : Int32) = nI 20 from rfl, x.2, eR, ev, nI_1]
    refine ⟨x.1, fun q => ⟨x.1, x.1, ih (i + 1) _ (by omega) (m1.tr (fg_sm_R (by decide))) ?_⟩, fun q => ⟨x.1, ih (i + 1) _ (by omega) (m1.tr (fg_sm_R (by decide))) ?_⟩⟩
    · rw [if_neg q] at hc
      rw [fg_row_sR, eR, hc]
    · rw [if_pos q] at hc
      rw [fg_row_sR, eR, hc]
theorem l_MO_haul1 {x : Int32} (hh : h < 3) (H : ∀ u, fg_sm fg_p191 σ u → fg_R u 191 = fg_wL w h → Q x u) : ∀ m i (τ : fg_St), i + m = 4 → fg_sm fg_p191 σ τ → fg_R τ 191 = fg_lg w h i 0 0 → fg_Run d 170 22 [some (.ref 187), some (.int (nI h)), some (.int x), some (.int (nI i))] [] τ Q := by
  intro m
  induction m with
  | zero =>
    intro i τ hi m1 eR
    have hi : i = 4 := by omega
    subst hi
    exact b_MO_haulNow_22 ⟨fun _ => l_MO_haul2 hh H 10 0 τ rfl m1 eR, fun q => absurd (nI_le (a := 4) (by omega) (by omega)) q⟩
  | succ m ih =>
    intro i τ hi m1 eR
    refine b_MO_haulNow_22 ⟨fun q => absurd q (nI_ge (b := 4) (by omega) (by decide)), fun _ => ?_⟩
    rw [fg_i46, nI_clamp (by omega), nI_1]
    refine ⟨vp_in_nI (by omega) (by decide), ih (i + 1) _ (by omega) (m1.tr (fg_sm_R (by decide))) ?_⟩
    rw [fg_row_sR, eR, fg_lg_a]
theorem r_MO_haulNow (hh : h < 3) (h1 : fg_R σ 191 = w) (H : ∀ u, fg_sm fg_p191 σ u → fg_R u 191 = fg_wL w h → Q (w (43 + h)) u) : fg_Run d 170 0 [some (.ref 187), some (.int (nI h)), none, none] [] σ Q := by
  have x := fg_ix (c := 43) (i := h) (n := 61) (by omega) (by decide)
  refine b_MO_haulNow_0 ?_
  rw [show (43 : Int32) = nI 43 from rfl, x.2, h1]
  exact ⟨x.1, x.1, l_MO_haul1 hh H 4 0 _ rfl (fg_sm_R (by decide)) (by rw [fg_row_sR, h1, fg_lg_0])⟩
end
