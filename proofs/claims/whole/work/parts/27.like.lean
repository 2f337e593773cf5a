/-! HOW SIGNALS LOOK: the reference's isLike, likeOf, clearIn -/
section
variable {d : Nat} {Q : Int32 → fg_St → Prop} {z : fg_Z} {s : Nat × Nat} {lf : Nat → Nat}
theorem fg_sg_eq (hz : fg_Zok z) (hlf : ∀ g, g < fg_zf z → lf g < 200) {e u : Nat} (he : e < fg_zs z) (hu : u < fg_zs z) : fg_sg z s lf u = fg_sg z s lf e ↔ ∀ j, j < 4 → fg_Lx z s lf u j = fg_Lx z s lf e j := by
  have a0 := fg_Lx_le hz (s := s) hlf he 0
  have a1 := fg_Lx_le hz (s := s) hlf he 1
  have a2 := fg_Lx_le hz (s := s) hlf he 2
  have a3 := fg_Lx_le hz (s := s) hlf he 3
  have b0 := fg_Lx_le hz (s := s) hlf hu 0
  have b1 := fg_Lx_le hz (s := s) hlf hu 1
  have b2 := fg_Lx_le hz (s := s) hlf hu 2
  have b3 := fg_Lx_le hz (s := s) hlf hu 3
  unfold fg_sg
  constructor
  · intro h j hj
    rcases (show j = 0 ∨ j = 1 ∨ j = 2 ∨ j = 3 by omega) with rfl | rfl | rfl | rfl <;> omega
  · intro h
    rw [h 0 (by omega), h 1 (by omega), h 2 (by omega), h 3 (by omega)]
theorem fg_lv_Lx (hz : fg_Zok z) (hlf : ∀ g, g < fg_zf z → lf g < 200) {e u : Nat} (he : e < fg_zs z) (hu : u < fg_zs z) (j : Nat) : fg_lv lf (fg_rx z s e j) = fg_lv lf (fg_rx z s u j) ↔ fg_Lx z s lf u j = fg_Lx z s lf e j := by
  have hf := hz.1.2.2.1
  have val : ∀ e, e < fg_zs z → (fg_lv lf (fg_rx z s e j) = -1 ∧ fg_Lx z s lf e j = 255) ∨ (∃ n, n < 255 ∧ fg_lv lf (fg_rx z s e j) = nI n ∧ fg_Lx z s lf e j = n) := by
    intro e he
    unfold fg_lv fg_Lx
    rcases fg_rx_in hz (s := s) he j with q | q | q
    · left
      rw [if_pos q, if_pos q]
      exact ⟨rfl, rfl⟩
    · right
      have := hlf _ q
      refine ⟨lf (fg_rx z s e j), by omega, ?_, ?_⟩
      · rw [if_neg (by omega), if_pos (by omega)]
      · rw [if_neg (by omega), if_pos (by omega)]
    · right
      refine ⟨180 + fg_rx z s e j, by omega, ?_, ?_⟩
      · rw [if_neg (by omega), if_neg (by omega)]
      · rw [if_neg (by omega), if_neg (by omega)]
  rcases val e he with ⟨a1, a2⟩ | ⟨n, a0, a1, a2⟩ <;> rcases val u hu with ⟨b1, b2⟩ | ⟨k, b0, b1, b2⟩
  · rw [a1, a2, b1, b2]; simp
  · rw [a1, a2, b1, b2]
    exact ⟨fun q => absurd q.symm (fg_nm1 (by omega)), fun q => by omega⟩
  · rw [a1, a2, b1, b2]
    exact ⟨fun q => absurd q (fg_nm1 (by omega)), fun q => by omega⟩
  · rw [a1, a2, b1, b2, nI_eq (by omega) (by omega)]
    exact ⟨fun q => q.symm, fun q => q.symm⟩
def fg_eqs (r : Nat → Int32) (a b : Nat) : Nat → Bool
  | 0 => true
  | i + 1 => fg_eqs r a b i && decide (r (4 * a + i) = r (4 * b + i))
theorem fg_eqs_iff (r : Nat → Int32) (a b : Nat) : ∀ n, fg_eqs r a b n = true ↔ ∀ j, j < n → r (4 * a + j) = r (4 * b + j) := by
  intro n
  induction n with
  | zero => exact ⟨fun _ j hj => absurd hj (by omega), fun _ => rfl⟩
  | succ n ih =>
    rw [fg_eqs, Bool.and_eq_true, ih, decide_eq_true_eq]
    constructor
    · intro ⟨h1, h2⟩ j hj
      by_cases e : j = n
      · rw [e]; exact h2
      · exact h1 j (by omega)
    · intro h
      exact ⟨fun j hj => h j (by omega), h n (by omega)⟩
theorem l_MO_isLike {σ : fg_St} {a b : Nat} {t : Bool} (ha : a < 10) (hb : b < 10) (H : Q (fg_b (t && fg_eqs (fg_R σ 198) a b 4)) σ) : ∀ m i, i + m = 4 → fg_Run d 139 27 [some (.ref 187), some (.int (nI a)), some (.int (nI b)), some (.int (fg_b (t && fg_eqs (fg_R σ 198) a b i))), some (.int (nI i))] [] σ Q := by
  intro m
  induction m with
  | zero =>
    intro i hi
    have hi : i = 4 := by omega
    subst hi
    exact b_MO_isLike_27 ⟨fun _ => ⟨by unfold fg_b; split <;> simp, H⟩, fun q => absurd (nI_le (a := 4) (b := 4) (by decide) (by decide)) q⟩
  | succ m ih =>
    intro i hi
    have ih := ih (i + 1) (by omega)
    refine b_MO_isLike_27 ⟨fun q => absurd q (nI_ge (b := 4) (by omega) (by decide)), fun _ => ?_⟩
    rw [fg_4e, fg_4e, nI_clamp (by omega), nI_clamp (by omega), nI_1]
    rw [fg_eqs, ← Bool.and_assoc] at ih
    cases hq : (t && fg_eqs (fg_R σ 198) a b i)
    · rw [hq] at ih
      exact ⟨fun _ => ih, fun q => absurd rfl q⟩
    · rw [hq] at ih
      refine ⟨fun q => absurd q (by decide), fun _ => ⟨vp_in_nI (by omega) (by decide), vp_in_nI (by omega) (by decide), fun q => ?_, fun q => ?_⟩⟩
      · rw [decide_eq_false q] at ih
        exact ih
      · rw [decide_eq_true q] at ih
        exact ih
/-- isLike -/
theorem r_MO_isLike {σ : fg_St} {a b : Nat} (hz : fg_Zok z) (hlf : ∀ g, g < fg_zf z → lf g < 200) (hL : fg_Ly z s lf σ) (ha : a < fg_zs z) (hb : b < fg_zs z) (H : Q (fg_b (fg_lke z s lf a b)) σ) : fg_Run d 139 0 [some (.ref 187), some (.int (nI a)), some (.int (nI b)), none, none] [] σ Q := by
  have hs := hz.1.2.2.2
  refine b_MO_isLike_0 ⟨vp_in_nI (by omega) (by decide), ?_⟩
  rw [nI_clamp (by omega), nI_clamp (by omega), hL.1 a ha, hL.1 b hb]
  have no : fg_lke z s lf a b = false → fg_Run d 139 27 [some (.ref 187), some (.int (nI a)), some (.int (nI b)), some (.int 0), some (.int 0)] [] σ Q := by
    intro q
    rw [q] at H
    exact l_MO_isLike (t := false) (by omega) (by omega) H 4 0 rfl
  unfold fg_lke at no H
  cases h1 : fg_upb z s a
  · rw [h1] at no
    exact ⟨fun _ => no rfl, fun q => absurd rfl q⟩
  · rw [h1] at no H
    refine ⟨fun q => absurd q (by decide), fun _ => ⟨vp_in_nI (by omega) (by decide), ?_⟩⟩
    cases h2 : fg_upb z s b
    · rw [h2] at no
      exact ⟨fun _ => no rfl, fun q => absurd rfl q⟩
    · rw [h2] at H
      refine ⟨fun q => absurd q (by decide), fun _ => l_MO_isLike (t := true) (by omega) (by omega) ?_ 4 0 rfl⟩
      have : (fg_sg z s lf b == fg_sg z s lf a) = fg_eqs (fg_R σ 198) a b 4 := by
        rw [Bool.eq_iff_iff, beq_iff_eq, fg_sg_eq hz hlf ha hb, fg_eqs_iff]
        constructor
        · intro h j hj
          rw [hL.2 a ha h1 j hj, hL.2 b hb h2 j hj, fg_lv_Lx hz hlf ha hb]
          exact h j hj
        · intro h j hj
          have := h j hj
          rw [hL.2 a ha h1 j hj, hL.2 b hb h2 j hj, fg_lv_Lx hz hlf ha hb] at this
          exact this
      rw [this] at H
      exact H
theorem l_MO_likeOf {σ : fg_St} {e : Nat} (hz : fg_Zok z) (hM : fg_ShM σ z) (hlf : ∀ g, g < fg_zf z → lf g < 200) (hL : fg_Ly z s lf σ) (he : e < fg_zs z) (H : Q (nI (fg_set (fg_lke z s lf e) (fg_zs z))) σ) : ∀ m i, i + m = fg_zs z → fg_Run (d + 1) 140 4 [some (.ref 187), some (.int (nI e)), some (.int (nI (fg_set (fg_lke z s lf e) i))), some (.int (nI i))] [] σ Q := by
  have hs := hz.1.2.2.2
  intro m
  induction m with
  | zero =>
    intro i hi
    have hi : i = fg_zs z := by omega
    subst hi
    refine b_MO_likeOf_4 ⟨fun _ => H, fun q => absurd ?_ q⟩
    rw [hM.1.2.2.2]
    exact nI_le (Nat.le_refl _) (by omega)
  | succ m ih =>
    intro i hi
    have ih := ih (i + 1) (by omega)
    have hst := fg_set_step (p := fg_lke z s lf e) (n := i) (by omega)
    rw [← hst] at ih
    refine b_MO_likeOf_4 ⟨fun q => absurd q (by rw [hM.1.2.2.2]; exact nI_ge (by omega) (by omega)), fun _ => fg_use (r_MO_isLike hz hlf hL he (by omega) ?_)⟩
    rw [nI_1]
    cases hq : fg_lke z s lf e i
    · rw [hq, if_neg (by decide)] at ih
      exact ⟨fun _ => ih, fun q => absurd rfl q⟩
    · rw [hq, if_pos rfl] at ih
      exact ⟨fun q => absurd q (by decide), fun _ => ih⟩
theorem r_MO_likeOf {σ : fg_St} {e : Nat} (hz : fg_Zok z) (hM : fg_ShM σ z) (hlf : ∀ g, g < fg_zf z → lf g < 200) (hL : fg_Ly z s lf σ) (he : e < fg_zs z) (H : Q (nI (fg_set (fg_lke z s lf e) (fg_zs z))) σ) : fg_Run (d + 1) 140 0 [some (.ref 187), some (.int (nI e)), none, none] [] σ Q := b_MO_likeOf_0 (l_MO_likeOf hz hM hlf hL he H (fg_zs z) 0 (by omega))
/-- the set of those alike is the one alone iff it is clear -/
theorem fg_one_clr {e : Nat} (he : e < fg_zs z) : fg_set (fg_lke z s lf e) (fg_zs z) = 2 ^ e ↔ fg_clr z s lf e = true := by
  unfold fg_clr
  rw [Bool.and_eq_true, decide_eq_true_eq]
  have self : fg_lke z s lf e e = fg_upb z s e := by
    unfold fg_lke
    simp
  constructor
  · intro h
    have hb : ∀ i, (decide (i < fg_zs z) && fg_lke z s lf e i) = decide (e = i) := fun i => by rw [← fg_set_bit, h, Nat.testBit_two_pow]
    refine ⟨?_, fun u hu hne => ?_⟩
    · have := hb e
      rw [self, decide_eq_true he] at this
      simpa using this
    · have := hb u
      rw [decide_eq_true hu, decide_eq_false (fun q => hne q.symm)] at this
      simpa using this
  · rintro ⟨h1, h2⟩
    apply Nat.eq_of_testBit_eq
    intro i
    rw [fg_set_bit, Nat.testBit_two_pow]
    by_cases hi : i < fg_zs z
    · by_cases e1 : i = e
      · subst e1
        rw [decide_eq_true hi, self, h1]
        simp
      · rw [h2 i hi e1, Bool.and_false, decide_eq_false (show ¬ e = i from fun q => e1 q.symm)]
    · rw [decide_eq_false hi, decide_eq_false (fun q => by omega)]
      rfl
theorem l_MO_clearIn {σ : fg_St} (hz : fg_Zok z) (hM : fg_ShM σ z) (hlf : ∀ g, g < fg_zf z → lf g < 200) (hL : fg_Ly z s lf σ) (H : Q (nI (fg_set (fg_clr z s lf) (fg_zs z))) σ) : ∀ m i, i + m = fg_zs z → fg_Run (d + 2) 141 11 [some (.ref 187), none, none, some (.int (nI (fg_set (fg_clr z s lf) i))), some (.int (nI i))] [] σ Q := by
  have hs := hz.1.2.2.2
  intro m
  induction m with
  | zero =>
    intro i hi
    have hi : i = fg_zs z := by omega
    subst hi
    refine b_MO_clearIn_11 ⟨fun _ => H, fun q => absurd ?_ q⟩
    rw [hM.1.2.2.2]
    exact nI_le (Nat.le_refl _) (by omega)
  | succ m ih =>
    intro i hi
    have ih := ih (i + 1) (by omega)
    have hst := fg_set_step (p := fg_clr z s lf) (n := i) (by omega)
    rw [← hst] at ih
    refine b_MO_clearIn_11 ⟨fun q => absurd q (by rw [hM.1.2.2.2]; exact nI_ge (by omega) (by omega)), fun _ => fg_use (r_MO_likeOf hz hM hlf hL (by omega) ?_)⟩
    have hb1 : fg_set (fg_lke z s lf i) (fg_zs z) < 2 ^ 32 := Nat.lt_of_lt_of_le (fg_set_lt _ _) (Nat.pow_le_pow_right (by decide) (by omega))
    have hb2 : 2 ^ i < 2 ^ 32 := Nat.pow_lt_pow_right (by decide) (by omega)
    have key : (nI (fg_set (fg_lke z s lf i) (fg_zs z)) = (1 : Int32) <<< (nI i &&& 31)) ↔ fg_clr z s lf i = true := by
      rw [fg_shl1 (by omega), fg_nIeq hb1 hb2]
      exact fg_one_clr (by omega)
    rw [nI_1]
    refine ⟨fun q => ?_, fun q => ?_⟩
    · rw [if_neg (fun x => q (key.mpr x))] at ih
      exact ih
    · rw [if_pos (key.mp q)] at ih
      exact ih
theorem fg_lw_ltM {w : Nat → Int32} {hz wd : Nat} (hP : fg_Pt z w) : ∀ g, g < fg_zf z → fg_lw w hz wd g < 200 := by
  intro g hg
  obtain ⟨k, a, b, e1, e5⟩ := hP g hg
  rw [fg_lw_eq e1.1 e1.2.1 e1.2.2 e5]
  exact fg_lk_lt e1.1 e1.2.1 e1.2.2
/-- clearIn -/
theorem r_MO_clearIn {σ : fg_St} {hz wd : Nat} (hh : hz ≤ 2) (hw : wd ≤ 1) (hM : fg_MI σ z) (H : ∀ u, fg_sm fg_pK σ u → Q (nI (fg_set (fg_clr z (fg_s0 z (fg_tn z (fg_R σ 191))) (fg_lw (fg_R σ 191) hz wd)) (fg_zs z))) u) : fg_Run (d + 4) 141 0 [some (.ref 187), some (.int (nI hz)), some (.int (nI wd)), none, none] [] σ Q := by
  refine b_MO_clearIn_0 (fg_use (r_MO_layLooks hh hw hM (fun u hsu hLy => ?_)))
  exact l_MO_clearIn hM.1 (hM.2.1.sm hsu (by decide) (by decide) (by decide)) (fg_lw_ltM hM.2.2.2) hLy (H u hsu) (fg_zs z) 0 (by omega)
theorem r_MO_clearNow {σ : fg_St} {hz wd : Nat} (hh : hz ≤ 2) (hw : wd ≤ 1) (hM : fg_MI σ z) (e1 : fg_R σ 191 58 = nI hz) (e2 : fg_R σ 191 59 = nI wd) (H : ∀ u, fg_sm fg_pK σ u → Q (nI (fg_set (fg_clr z (fg_s0 z (fg_tn z (fg_R σ 191))) (fg_lw (fg_R σ 191) hz wd)) (fg_zs z))) u) : fg_Run (d + 5) 142 0 [some (.ref 187)] [] σ Q := by
  refine b_MO_clearNow_0 ?_
  rw [e1, e2]
  exact fg_use (r_MO_clearIn hh hw hM H)
end
