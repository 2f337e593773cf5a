/-! THE PAST AND THE IMAGES: the reference; keep and goBack of the class -/
section
variable {d : Nat} {σ : fg_St} {Q : Int32 → fg_St → Prop} {z : fg_Z} {w : Nat → Int32} {P : fg_GP} {I : fg_GI} {T : fg_GT} {v : Int32} {s : Nat} {R : fg_GR} {B : fg_GB}
theorem l_MO_remember1 (H : ∀ u, fg_sm fg_pN σ u → fg_sn fg_no (fun g => g == 204) σ u → (∀ k, k < 915 → fg_R u 204 k = fg_R σ 204 (k + 61)) → fg_Run d 166 52 [some (.ref 187), some (.int 0)] [] (fg_sF u 187 30 ((fg_F u 187 30) - 1)) Q) : ∀ m i (τ : fg_St), i + m = 976 → 61 ≤ i → fg_sm fg_pN σ τ → fg_sn fg_no (fun g => g == 204) σ τ → (∀ k, fg_R τ 204 k = if k + 61 < i then fg_R σ 204 (k + 61) else fg_R σ 204 k) → fg_Run d 166 12 [some (.ref 187), some (.int (nI i))] [] τ Q := by
  intro m
  induction m with
  | zero =>
    intro i τ hi h61 m1 n1 hr
    refine b_MO_remember_12 ⟨fun _ => H τ m1 n1 (fun k hk => by rw [hr, if_pos (by omega)]), fun q => absurd (nI_le (a := 976) (by omega) (by omega)) q⟩
  | succ m ih =>
    intro i τ hi h61 m1 n1 hr
    refine b_MO_remember_12 ⟨fun q => absurd q (nI_ge (b := 976) (by omega) (by decide)), fun _ => ⟨vp_in_nI (by omega) (by decide), ?_⟩⟩
    rw [show (61 : Int32) = nI 61 from rfl, pk_sub h61, nI_clamp (by omega), nI_clamp (by omega), nI_1]
    refine ⟨vp_in_nI (by omega) (by decide), ih (i + 1) _ (by omega) (by omega) (m1.tr (fg_sm_R (by decide))) (n1.tr (fg_sn_R (by decide))) (fun k => ?_)⟩
    have e0 : fg_R τ 204 i = fg_R σ 204 i := by rw [hr i, if_neg (by omega)]
    rw [fg_R_sR, e0]
    by_cases e : k = i - 61
    · rw [if_pos ⟨rfl, e⟩, if_pos (by omega)]
      congr 1
      omega
    · rw [if_neg (fun q => e q.2), hr k]
      by_cases e2 : k + 61 < i
      · rw [if_pos e2, if_pos (by omega)]
      · rw [if_neg e2, if_neg (by omega)]
theorem l_MO_remember2 {c : Nat} (hc : c < 16) (hF : fg_F σ 187 30 = nI c) (H : ∀ u, fg_sm fg_pN σ u → fg_sn (fun k => k == 30) (fun g => g == 204) σ u → fg_F u 187 30 = nI (c + 1) → (∀ k, fg_R u 204 k = if 61 * c ≤ k ∧ k < 61 * c + 61 then fg_R σ 191 (k - 61 * c) else fg_R σ 204 k) → Q 0 u) : ∀ m i (τ : fg_St), i + m = 61 → fg_sm fg_pN σ τ → fg_sn fg_no (fun g => g == 204) σ τ → (∀ k, fg_R τ 204 k = if 61 * c ≤ k ∧ k < 61 * c + i then fg_R σ 191 (k - 61 * c) else fg_R σ 204 k) → fg_Run d 166 52 [some (.ref 187), some (.int (nI i))] [] τ Q := by
  intro m
  induction m with
  | zero =>
    intro i τ hi m1 n1 hr
    have hi : i = 61 := by omega
    subst hi
    have e := (n1.1 30 rfl).trans hF
    refine b_MO_remember_52 ⟨fun _ => ?_, fun q => absurd (nI_le (a := 61) (by omega) (by omega)) q⟩
    rw [e, nI_1]
    exact H _ (m1.tr (fg_sm_F (by decide))) ((n1.wk (fun _ _ => rfl) (fun _ q => q)).tr (fg_sn_F (by decide))) rfl hr
  | succ m ih =>
    intro i τ hi m1 n1 hr
    have e := (n1.1 30 rfl).trans hF
    refine b_MO_remember_52 ⟨fun q => absurd q (nI_ge (b := 61) (by omega) (by decide)), fun _ => ⟨vp_in_nI (by omega) (by decide), ?_⟩⟩
    rw [e, show (61 : Int32) = nI 61 from rfl, pk_mul, nI_add, nI_clamp (by omega), nI_clamp (by omega), nI_1, n1.2 191 rfl]
    refine ⟨vp_in_nI (by omega) (by decide), ih (i + 1) _ (by omega) (m1.tr (fg_sm_R (by decide))) (n1.tr (fg_sn_R (by decide))) (fun k => ?_)⟩
    rw [fg_R_sR]
    by_cases e : k = 61 * c + i
    · rw [if_pos ⟨rfl, e⟩, if_pos (by omega)]
      congr 1
      omega
    · rw [if_neg (fun q => e q.2), hr k]
      by_cases e2 : 61 * c ≤ k ∧ k < 61 * c + i
      · rw [if_pos e2, if_pos (by omega)]
      · rw [if_neg e2, if_neg (by omega)]
theorem r_MO_remember (h1 : fg_R σ 191 = w) (W : fg_Wk z w) (pt : fg_Pt z w) (hP : fg_PaM σ z P) (H : ∀ u, fg_sm fg_pN σ u → fg_sn (fun k => k == 30) (fun g => g == 204) σ u → fg_PaM u z (fg_psh P w) → Q 0 u) : fg_Run d 166 0 [some (.ref 187), none] [] σ Q := by
  obtain ⟨p1, p2, p3⟩ := hP
  have c16 : nI P.1 = 16 ↔ P.1 = 16 := nI_eq (b := 16) (by omega) (by decide)
  refine b_MO_remember_0 ?_
  rw [p2, c16]
  refine ⟨fun q => l_MO_remember2 (c := P.1) (by omega) p2 (fun u m n e hr => ?_) 61 0 σ rfl fg_sm.rfl' fg_sn.rf (fun k => by rw [if_neg (by omega)]), fun q => l_MO_remember1 (fun τ m1 n1 hr => ?_) 915 61 σ rfl (by omega) fg_sm.rfl' fg_sn.rf (fun k => by rw [if_neg (by omega)])⟩
  · rw [fg_psh_lt (by omega)] at H
    refine H u m n ⟨by show P.1 + 1 ≤ 16; omega, e, fun j hj => ?_⟩
    have hj : j < P.1 + 1 := hj
    show (∀ k, k < 61 → fg_R u 204 (61 * j + k) = (if j = P.1 then w else P.2 j) k) ∧ fg_Wk z (if j = P.1 then w else P.2 j) ∧ fg_Pt z (if j = P.1 then w else P.2 j)
    by_cases ej : j = P.1
    · rw [if_pos ej]
      refine ⟨fun k hk => ?_, W, pt⟩
      rw [hr, if_pos (by omega), h1]
      congr 1
      omega
    · rw [if_neg ej]
      refine ⟨fun k hk => ?_, (p3 j (by omega)).2⟩
      rw [hr, if_neg (by omega)]
      exact (p3 j (by omega)).1 k hk
  · rw [fg_psh_ge (by omega)] at H
    have e1 : fg_F τ 187 30 - 1 = nI 15 := by
      rw [n1.1 30 rfl, p2, q]
      rfl
    rw [e1]
    have mz : fg_sm fg_pN τ (fg_sF τ 187 30 (nI 15)) := fg_sm_F (by decide)
    have nz : fg_sn (fun k => k == 30) fg_no τ (fg_sF τ 187 30 (nI 15)) := fg_sn_F (by decide)
    refine l_MO_remember2 (σ := fg_sF τ 187 30 (nI 15)) (c := 15) (by omega) rfl (fun u m n e hr2 => ?_) 61 0 _ rfl fg_sm.rfl' fg_sn.rf (fun k => by rw [if_neg (by omega)])
    refine H u ((m1.tr mz).tr m) (((n1.wk (fun _ _ => rfl) (fun _ q => q)).tr (nz.wk (fun _ q => q) (fun _ _ => rfl))).tr n) ⟨by show 16 ≤ 16; omega, e, fun j hj => ?_⟩
    have hj : j < 16 := hj
    have e191 : fg_R (fg_sF τ 187 30 (nI 15)) 191 = w := (funext (n1.2 191 rfl)).trans h1
    show (∀ k, k < 61 → fg_R u 204 (61 * j + k) = (if j = 15 then w else P.2 (j + 1)) k) ∧ fg_Wk z (if j = 15 then w else P.2 (j + 1)) ∧ fg_Pt z (if j = 15 then w else P.2 (j + 1))
    by_cases ej : j = 15
    · rw [if_pos ej]
      refine ⟨fun k hk => ?_, W, pt⟩
      rw [hr2, if_pos (by omega), e191, show 61 * j + k - 61 * 15 = k by omega]
    · rw [if_neg ej]
      refine ⟨fun k hk => ?_, (p3 (j + 1) (by omega)).2⟩
      rw [hr2, if_neg (by omega)]
      show fg_R τ 204 (61 * j + k) = _
      rw [hr _ (by omega), show 61 * j + k + 61 = 61 * (j + 1) + k by omega]
      exact (p3 (j + 1) (by omega)).1 k hk
theorem l_MO_undo {c : Nat} (hc : c < 16) (hF : fg_F σ 187 30 = nI c) (H : ∀ u, fg_sm fg_pN σ u → fg_sn fg_no (fun g => g == 191) σ u → (∀ k, fg_R u 191 k = if k < 61 then fg_R σ 204 (61 * c + k) else fg_R σ 191 k) → Q (nI c) u) : ∀ m i (τ : fg_St), i + m = 61 → fg_sm fg_pN σ τ → fg_sn fg_no (fun g => g == 191) σ τ → (∀ k, fg_R τ 191 k = if k < i then fg_R σ 204 (61 * c + k) else fg_R σ 191 k) → fg_Run d 185 23 [some (.ref 187), some (.int (nI i))] [] τ Q := by
  intro m
  induction m with
  | zero =>
    intro i τ hi m1 n1 hr
    have hi : i = 61 := by omega
    subst hi
    have e := (n1.1 30 rfl).trans hF
    refine b_MO_undo_23 ⟨fun _ => ?_, fun q => absurd (nI_le (a := 61) (by omega) (by omega)) q⟩
    rw [e]
    exact H _ m1 n1 hr
  | succ m ih =>
    intro i τ hi m1 n1 hr
    have e := (n1.1 30 rfl).trans hF
    refine b_MO_undo_23 ⟨fun q => absurd q (nI_ge (b := 61) (by omega) (by decide)), fun _ => ?_⟩
    rw [e, show (61 : Int32) = nI 61 from rfl, pk_mul, nI_add, nI_clamp (by omega), nI_clamp (by omega), nI_1, n1.2 204 rfl]
    refine ⟨vp_in_nI (by omega) (by decide), vp_in_nI (by omega) (by decide), ih (i + 1) _ (by omega) (m1.tr (fg_sm_R (by decide))) (n1.tr (fg_sn_R (by decide))) (fun k => ?_)⟩
    rw [fg_R_sR]
    by_cases e : k = i
    · rw [if_pos ⟨rfl, e⟩, if_pos (by omega), e]
    · rw [if_neg (fun q => e q.2), hr k]
      by_cases e2 : k < i
      · rw [if_pos e2, if_pos (by omega)]
      · rw [if_neg e2, if_neg (by omega)]
/-- the reference's row becomes another -/
theorem fg_RI.row {p : Nat → Bool} {f : Nat → Bool} {u : fg_St} {w' : Nat → Int32} (h : fg_RI σ z w P I T v s R B) (n : fg_sn f p σ u) (hf : ∀ k, k ≠ 30 → k ≠ 8 → f k = false) (hp : ∀ g, g ≠ 191 → g ≠ 204 → fg_pM g = false → p g = false) (e : fg_R u 191 = w') (W : fg_Wk z w') (pt : fg_Pt z w') {P' : fg_GP} (hP : fg_PaM u z P') {s' : Nat} (hs : s' < 2 ^ 31 ∧ fg_F u 187 8 = nI s') : fg_RI u z w' P' I T v s' R B := by
  obtain ⟨a1, a2, a3, a4, a5, a6, a7, a8, a9⟩ := h
  have q : ∀ g, 188 ≤ g → g ≠ 191 → g ≠ 204 → fg_pM g = false → p g = false := fun g _ h1 h2 h3 => hp g h1 h2 h3
  have qf : ∀ k, k ≠ 30 → k ≠ 8 → f k = false := hf
  exact ⟨e, ⟨⟨a2.1.1, a2.1.2.1.sn n (qf _ (by decide) (by decide)) (qf _ (by decide) (by decide)) (qf _ (by decide) (by decide)) (qf _ (by decide) (by decide)) (hp _ (by decide) (by decide) (by decide)) (hp _ (by decide) (by decide) (by decide)), by rw [e]; exact W.1, by rw [e]; exact pt⟩, W⟩, hP, a4.sn n (hp _ (by decide) (by decide) (by decide)) (hp _ (by decide) (by decide) (by decide)), a5.sn n (qf _ (by decide) (by decide)) (hp _ (by decide) (by decide) (by decide)), (n.1 11 (qf _ (by decide) (by decide))).trans a6, hs, a8.sn n (qf _ (by decide) (by decide)) (hp _ (by decide) (by decide) (by decide)) (hp _ (by decide) (by decide) (by decide)), a9.sn n (qf _ (by decide) (by decide)) (hp _ (by decide) (by decide) (by decide)) (hp _ (by decide) (by decide) (by decide))⟩
theorem fg_Pt_w {w' : Nat → Int32} (pt : fg_Pt z w) (hz : fg_Zok z) (e : ∀ i, i < 61 → w' i = w i) : fg_Pt z w' := fun g hg => by
  obtain ⟨k, a, b, e1, e2⟩ := pt g hg
  exact ⟨k, a, b, e1, (e g (by have := hz.1.2.2.1; omega)).trans e2⟩
theorem c_MO_undo (h : fg_RI σ z w P I T v s R B) (H : ∀ u, fg_sm fg_pN σ u → fg_RI u z (fg_unW P w) (fg_unP P) I T v s R B → Q (fg_unA P) u) : fg_Run d 185 0 [some (.ref 187), none] [] σ Q := by
  have h1 := h.1
  have hz := h.2.1.1.1
  obtain ⟨p1, p2, p3⟩ := id h.2.2.1
  have hs := h.2.2.2.2.2.2.1
  have c0 : nI P.1 = 0 ↔ P.1 = 0 := nI_eq (b := 0) (by omega) (by decide)
  refine b_MO_undo_0 ?_
  rw [p2, c0]
  refine ⟨fun q => ?_, fun q => ?_⟩
  · rw [fg_unA, fg_unP, fg_unW, if_neg q, if_neg q, if_neg q] at H
    rw [show nI P.1 - 1 = nI (P.1 - 1) from pk_sub (b := 1) (by omega)]
    have mz : fg_sm fg_pN σ (fg_sF σ 187 30 (nI (P.1 - 1))) := fg_sm_F (by decide)
    have nz : fg_sn (fun k => k == 30) fg_no σ (fg_sF σ 187 30 (nI (P.1 - 1))) := fg_sn_F (by decide)
    refine l_MO_undo (σ := fg_sF σ 187 30 (nI (P.1 - 1))) (c := P.1 - 1) (by omega) rfl (fun u m n hr => ?_) 61 0 _ rfl fg_sm.rfl' fg_sn.rf (fun k => by rw [if_neg (by omega)])
    have n2 : fg_sn (fun k => k == 30) (fun g => g == 191) σ u := (nz.wk (fun _ q => q) (fun _ _ => rfl)).tr (n.wk (fun _ _ => rfl) (fun _ q => q))
    have e : fg_R u 191 = fg_w61 (P.2 (P.1 - 1)) w := by
      funext k
      rw [hr]
      unfold fg_w61
      by_cases hk : k < 61
      · rw [if_pos hk, if_pos hk]
        exact (p3 (P.1 - 1) (by omega)).1 k hk
      · rw [if_neg hk, if_neg hk, ← h1]
    refine H u (mz.tr m) (h.row (P' := (P.1 - 1, P.2)) n2 (fun k h1 h2 => by simpa using h1) (fun g h1 h2 h3 => by simpa using h1) e (fg_Wk.w (p3 (P.1 - 1) (by omega)).2.1 hz fg_w61_in) (fg_Pt_w (p3 (P.1 - 1) (by omega)).2.2 hz fg_w61_in) ⟨by show P.1 - 1 ≤ 16; omega, n.1 30 rfl, fun j hj => ?_⟩ ⟨hs.1, (n2.1 8 rfl).trans hs.2⟩)
    have hj : j < P.1 - 1 := hj
    exact ⟨fun k hk => (n2.2 204 rfl _).trans ((p3 j (by omega)).1 k hk), (p3 j (by omega)).2⟩
  · rw [fg_unA, fg_unP, fg_unW, if_pos q, if_pos q, if_pos q] at H
    exact H σ fg_sm.rfl' h
end
