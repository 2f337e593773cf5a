/-! IMAGES OF THE REFERENCE: keep, goBack -/
section
variable {d : Nat} {σ : fg_St} {Q : Int32 → fg_St → Prop} {z : fg_Z} {w : Nat → Int32} {P : fg_GP} {I : fg_GI} {T : fg_GT} {v : Int32} {s : Nat} {R : fg_GR} {B : fg_GB}
theorem fg_e62 (c j : Nat) : 62 * nI c + nI j = nI (62 * c + j) := by rw [show (62 : Int32) = nI 62 from rfl, pk_mul, nI_add]
theorem l_MO_keep {c : Nat} (hc : c < 2) (H : ∀ u, fg_sm fg_pN σ u → fg_sn fg_no (fun g => g == 207) σ u → (∀ k, fg_R u 207 k = if 62 * c ≤ k ∧ k < 62 * c + 61 then fg_R σ 191 (k - 62 * c) else fg_R σ 207 k) → Q 1 (fg_sF (fg_sR (fg_sR u 207 (62 * c + 61) (fg_F u 187 8)) 208 c 1) 187 30 0)) : ∀ m i (τ : fg_St), i + m = 61 → fg_sm fg_pN σ τ → fg_sn fg_no (fun g => g == 207) σ τ → (∀ k, fg_R τ 207 k = if 62 * c ≤ k ∧ k < 62 * c + i then fg_R σ 191 (k - 62 * c) else fg_R σ 207 k) → fg_Run (d + 1) 193 15 [some (.ref 187), some (.int (nI c)), some (.int (nI i))] [] τ Q := by
  intro m
  induction m with
  | zero =>
    intro i τ hi m1 n1 hr
    have hi : i = 61 := by omega
    subst hi
    refine b_MO_keep_15 ⟨fun _ => ?_, fun q => absurd (nI_le (a := 61) (by omega) (by omega)) q⟩
    have e : 62 * nI c + 61 = nI (62 * c + 61) := fg_e62 c 61
    rw [e, nI_clamp (by omega), nI_clamp (by omega)]
    exact ⟨vp_in_nI (by omega) (by decide), vp_in_nI (by omega) (by decide), H τ m1 n1 hr⟩
  | succ m ih =>
    intro i τ hi m1 n1 hr
    refine b_MO_keep_15 ⟨fun q => absurd q (nI_ge (b := 61) (by omega) (by decide)), fun _ => ⟨vp_in_nI (by omega) (by decide), ?_⟩⟩
    rw [fg_e62, nI_clamp (by omega), nI_clamp (by omega), nI_1, n1.2 191 rfl]
    refine ⟨vp_in_nI (by omega) (by decide), ih (i + 1) _ (by omega) (m1.tr (fg_sm_R (by decide))) (n1.tr (fg_sn_R (by decide))) (fun k => ?_)⟩
    rw [fg_R_sR]
    by_cases e : k = 62 * c + i
    · rw [if_pos ⟨rfl, e⟩, if_pos (by omega)]
      congr 1
      omega
    · rw [if_neg (fun q => e q.2), hr k]
      by_cases e2 : 62 * c ≤ k ∧ k < 62 * c + i
      · rw [if_pos e2, if_pos (by omega)]
      · rw [if_neg e2, if_neg (by omega)]
theorem c_MO_keep {a : Int32} (h : fg_RI σ z w P I T v s R B) (H : ∀ u, fg_sm fg_pN σ u → fg_RI u z w (fg_kpP P a) (fg_kpI I w s a) T v s R B → Q (fg_kpA a) u) : fg_Run (d + 1) 193 0 [some (.ref 187), some (.int a), none] [] σ Q := by
  have h1 := h.1
  have hs := h.2.2.2.2.2.2.1
  refine b_MO_keep_0 (fg_use (r_MO_inr (lo := 0) (hi := 1) rfl rfl (fg_bt (fun o => ?_) (fun o => ?_))))
  · rw [fg_kpP, fg_kpI, fg_kpA, if_pos o, if_pos o, if_pos o] at H
    obtain ⟨i, _, hi, rfl⟩ := fg_isr_t o (by decide)
    rw [nI_clamp (by omega)] at H
    refine l_MO_keep (c := i) (by omega) (fun u m n hr => ?_) 61 0 σ rfl fg_sm.rfl' fg_sn.rf (fun k => by rw [if_neg (by omega)])
    have e8 : fg_F u 187 8 = nI s := (n.1 8 rfl).trans hs.2
    rw [e8]
    have n2 : fg_sn (fun k => k == 30) (fun g => g == 207 || g == 208) σ (fg_sF (fg_sR (fg_sR u 207 (62 * i + 61) (nI s)) 208 i 1) 187 30 0) := (n.wk (fun _ _ => rfl) (fun g q => by simp at q ⊢; exact q.1)).tr (((fg_sn_R (by decide)).tr (fg_sn_R (by decide))).tr (fg_sn_F (by decide)))
    have V8 : ∀ k, fg_R (fg_sF (fg_sR (fg_sR u 207 (62 * i + 61) (nI s)) 208 i 1) 187 30 0) 208 k = if k = i then 1 else fg_R σ 208 k := fun k => by
      show fg_R (fg_sR (fg_sR u 207 (62 * i + 61) (nI s)) 208 i 1) 208 k = _
      rw [fg_R_sR]
      by_cases e : k = i
      · rw [if_pos ⟨rfl, e⟩, if_pos e]
      · rw [if_neg (fun q => e q.2), if_neg e, fg_R_sR, if_neg (fun q => absurd q.1 (by decide))]
        exact n.2 208 rfl k
    have V7 : ∀ k, fg_R (fg_sF (fg_sR (fg_sR u 207 (62 * i + 61) (nI s)) 208 i 1) 187 30 0) 207 k = if k = 62 * i + 61 then nI s else fg_R u 207 k := fun k => by
      show fg_R (fg_sR (fg_sR u 207 (62 * i + 61) (nI s)) 208 i 1) 207 k = _
      rw [fg_R_sR, if_neg (fun q => absurd q.1 (by decide)), fg_R_sR]
      by_cases e : k = 62 * i + 61
      · rw [if_pos ⟨rfl, e⟩, if_pos e]
      · rw [if_neg (fun q => e q.2), if_neg e]
    have F30 : fg_F (fg_sF (fg_sR (fg_sR u 207 (62 * i + 61) (nI s)) 208 i 1) 187 30 0) 187 30 = 0 := rfl
    have H := H (fg_sF (fg_sR (fg_sR u 207 (62 * i + 61) (nI s)) 208 i 1) 187 30 0) (m.tr (((fg_sm_R (by decide)).tr (fg_sm_R (by decide))).tr (fg_sm_F (by decide))))
    generalize fg_sF (fg_sR (fg_sR u 207 (62 * i + 61) (nI s)) 208 i 1) 187 30 0 = X at n2 V8 V7 F30 H ⊢
    obtain ⟨a1, a2, a3, a4, a5, a6, a7, a8, a9⟩ := h
    refine H ⟨(funext (n2.2 191 rfl)).trans a1, ⟨a2.1.sn n2 rfl rfl rfl rfl rfl rfl rfl, a2.2⟩, ⟨by simp, F30, fun j hj => absurd hj (by simp)⟩, fun j hj => ?_, a5.sn n2 rfl rfl, (n2.1 11 rfl).trans a6, ⟨a7.1, (n2.1 8 rfl).trans a7.2⟩, a8.sn n2 rfl rfl rfl, a9.sn n2 rfl rfl rfl⟩
    show fg_R X 208 j = fg_b (if j = i then true else I.1 j) ∧ ((if j = i then true else I.1 j) = true → (∀ k, k < 61 → fg_R X 207 (62 * j + k) = (if j = i then w else I.2.1 j) k) ∧ fg_R X 207 (62 * j + 61) = nI (if j = i then s else I.2.2 j) ∧ (if j = i then s else I.2.2 j) < 2 ^ 31 ∧ fg_Wk z (if j = i then w else I.2.1 j) ∧ fg_Pt z (if j = i then w else I.2.1 j))
    by_cases ej : j = i
    · rw [if_pos ej, if_pos ej, if_pos ej, V8, if_pos ej]
      refine ⟨rfl, fun _ => ⟨fun k hk => ?_, ?_, a7.1, a2.2, ?_⟩⟩
      · rw [V7, if_neg (by omega), hr, if_pos (by omega), h1]
        congr 1
        omega
      · rw [V7, if_pos (by omega)]
      · have := a2.1.2.2.2
        rw [h1] at this
        exact this
    · rw [if_neg ej, if_neg ej, if_neg ej, V8, if_neg ej]
      obtain ⟨g1, g2⟩ := a4 j hj
      refine ⟨g1, fun q => ?_⟩
      obtain ⟨k1, k2, k3⟩ := g2 q
      refine ⟨fun k hk => ?_, ?_, k3⟩
      · rw [V7, if_neg (by omega), hr, if_neg (by omega)]
        exact k1 k hk
      · rw [V7, if_neg (by omega), hr, if_neg (by omega)]
        exact k2
  · rw [fg_kpP, fg_kpI, fg_kpA, o] at H
    exact H σ fg_sm.rfl' h
theorem l_MO_goBack {c : Nat} (hc : c < 2) (H : ∀ u, fg_sm fg_pN σ u → fg_sn fg_no (fun g => g == 191) σ u → (∀ k, fg_R u 191 k = if k < 61 then fg_R σ 207 (62 * c + k) else fg_R σ 191 k) → Q 1 (fg_sF (fg_sF u 187 8 (fg_R u 207 (62 * c + 61))) 187 30 0)) : ∀ m i (τ : fg_St), i + m = 61 → fg_sm fg_pN σ τ → fg_sn fg_no (fun g => g == 191) σ τ → (∀ k, fg_R τ 191 k = if k < i then fg_R σ 207 (62 * c + k) else fg_R σ 191 k) → fg_Run (d + 1) 194 28 [some (.ref 187), some (.int (nI c)), some (.int (nI i))] [] τ Q := by
  intro m
  induction m with
  | zero =>
    intro i τ hi m1 n1 hr
    have hi : i = 61 := by omega
    subst hi
    refine b_MO_goBack_28 ⟨fun _ => ?_, fun q => absurd (nI_le (a := 61) (by omega) (by omega)) q⟩
    have e : 62 * nI c + 61 = nI (62 * c + 61) := fg_e62 c 61
    rw [e, nI_clamp (by omega)]
    exact ⟨vp_in_nI (by omega) (by decide), H τ m1 n1 hr⟩
  | succ m ih =>
    intro i τ hi m1 n1 hr
    refine b_MO_goBack_28 ⟨fun q => absurd q (nI_ge (b := 61) (by omega) (by decide)), fun _ => ?_⟩
    rw [fg_e62, nI_clamp (by omega), nI_clamp (by omega), nI_1, n1.2 207 rfl]
    refine ⟨vp_in_nI (by omega) (by decide), vp_in_nI (by omega) (by decide), ih (i + 1) _ (by omega) (m1.tr (fg_sm_R (by decide))) (n1.tr (fg_sn_R (by decide))) (fun k => ?_)⟩
    rw [fg_R_sR]
    by_cases e : k = i
    · rw [if_pos ⟨rfl, e⟩, if_pos (by omega), e]
    · rw [if_neg (fun q => e q.2), hr k]
      by_cases e2 : k < i
      · rw [if_pos e2, if_pos (by omega)]
      · rw [if_neg e2, if_neg (by omega)]
theorem c_MO_goBack {a : Int32} (h : fg_RI σ z w P I T v s R B) (H : ∀ u, fg_sm fg_pN σ u → fg_RI u z (fg_gbW I w a) (fg_gbP I P a) I T v (fg_gbS I s a) R B → Q (fg_gbA I a) u) : fg_Run (d + 1) 194 0 [some (.ref 187), some (.int a), none] [] σ Q := by
  have h1 := h.1
  have hz := h.2.1.1.1
  refine b_MO_goBack_0 (fg_use (r_MO_inr (lo := 0) (hi := 1) rfl rfl (fg_bt (fun o => ?_) (fun o => ?_))))
  · rw [fg_gbA, if_pos o] at H
    obtain ⟨i, _, hi, rfl⟩ := fg_isr_t o (by decide)
    have eO : fg_gbO I (nI i) = I.1 i := by rw [fg_gbO, o, nI_clamp (by omega)]; rfl
    rw [fg_gbW, fg_gbP, fg_gbS, eO, nI_clamp (by omega)] at H
    obtain ⟨i1, i2⟩ := h.2.2.2.1 i (by omega)
    rw [nI_clamp (by omega), i1]
    refine ⟨vp_in_nI (by omega) (by decide), fg_bt (fun ek => ?_) (fun ek => ?_)⟩
    · obtain ⟨j1, j2, j3, j4, j5⟩ := i2 ek
      rw [ek, if_pos rfl, if_pos rfl, if_pos rfl, if_pos rfl] at H
      refine l_MO_goBack (c := i) (by omega) (fun u m n hr => ?_) 61 0 σ rfl fg_sm.rfl' fg_sn.rf (fun k => by rw [if_neg (by omega)])
      have e7 : fg_R u 207 (62 * i + 61) = nI (I.2.2 i) := (n.2 207 rfl _).trans j2
      rw [e7]
      have n2 : fg_sn (fun k => k == 8 || k == 30) (fun g => g == 191) σ (fg_sF (fg_sF u 187 8 (nI (I.2.2 i))) 187 30 0) := (n.wk (fun _ _ => rfl) (fun _ q => q)).tr ((fg_sn_F (by decide)).tr (fg_sn_F (by decide)))
      have e : fg_R (fg_sF (fg_sF u 187 8 (nI (I.2.2 i))) 187 30 0) 191 = fg_w61 (I.2.1 i) w := by
        show fg_R u 191 = _
        funext k
        rw [hr]
        unfold fg_w61
        by_cases hk : k < 61
        · rw [if_pos hk, if_pos hk]
          exact j1 k hk
        · rw [if_neg hk, if_neg hk, ← h1]
      refine H _ (m.tr ((fg_sm_F (by decide)).tr (fg_sm_F (by decide)))) (h.row (P' := (0, P.2)) n2 (fun k h1 h2 => by simp; omega) (fun g h1 h2 h3 => by simpa using h1) e (fg_Wk.w j4 hz fg_w61_in) (fg_Pt_w j5 hz fg_w61_in) ⟨by simp, rfl, fun j hj => absurd hj (by simp)⟩ ⟨j3, rfl⟩)
    · rw [ek, if_neg (by decide), if_neg (by decide), if_neg (by decide), if_neg (by decide)] at H
      exact H σ fg_sm.rfl' h
  · have e2 : fg_gbO I a = false := by simp [fg_gbO, o]
    rw [fg_gbW, fg_gbP, fg_gbS, fg_gbA, o, e2] at H
    exact H σ fg_sm.rfl' h
end
