/-! IN WHICH WEATHER IT WAS: the reference -/
theorem fg_add0 (a : Int32) : a + 0 = a := Int32.add_zero a
section
variable {d : Nat} {Q : Int32 → fg_St → Prop} {z : fg_Z} {w : Nat → Int32} {s : Nat × Nat} {lf : Nat → Nat} {n : Nat} {a b : Nat → Nat}
theorem l_MO_weathers2 {σ : fg_St} {v y1 : Nat} (hv : v < 6) (hz : fg_Zok z) (hlf : ∀ g, g < fg_zf z → lf g < 200) (hLy : fg_Ly z s lf σ) (hR : fg_RdM σ z n a b) (H : fg_Run (d + 4) 155 4 [some (.ref 187), some (.int (nI y1 ||| if fg_fit z s lf a b n then (1 : Int32) <<< (nI v &&& 31) else 0)), some (.int (nI (v + 1))), none, none] [] σ Q) : ∀ m i, i + m = n → fg_Run (d + 4) 155 25 [some (.ref 187), some (.int (nI y1)), some (.int (nI v)), some (.int (fg_b (fg_fit z s lf a b i))), some (.int (nI i))] [] σ Q := by
  have hn := hR.1.2
  intro m
  induction m with
  | zero =>
    intro i hi
    have hi : i = n := by omega
    subst hi
    refine b_MO_weathers_25 ⟨fun _ => ?_, fun q => absurd ?_ q⟩
    · rw [nI_1]
      cases hq : fg_fit z s lf a b i
      · rw [hq, if_neg (by decide)] at H
        exact ⟨fun _ => H, fun q => absurd rfl q⟩
      · rw [hq, if_pos rfl] at H
        exact ⟨fun q => absurd q (by decide), fun _ => H⟩
    · rw [hR.1.1]
      exact nI_le (Nat.le_refl _) (by omega)
  | succ m ih =>
    intro i hi
    obtain ⟨k1, k2, k3, k4⟩ := hR.2 i (by omega)
    refine b_MO_weathers_25 ⟨fun q => absurd q (by rw [hR.1.1]; exact nI_ge (by omega) (by omega)), fun _ => ?_⟩
    cases hq : fg_fit z s lf a b i
    · have hno := fg_fit_no hq (m + 1)
      rw [show i + (m + 1) = n by omega] at hno
      rw [hno, if_neg (by decide), ← nI_1] at H
      exact ⟨fun _ => ⟨fun _ => H, fun q => absurd rfl q⟩, fun q => absurd rfl q⟩
    · refine ⟨fun q => absurd q (by decide), fun _ => ⟨vp_in_nI (by omega) (by decide), vp_in_nI (by omega) (by decide), ?_⟩⟩
      rw [nI_clamp (by omega), k1, k3, nI_1]
      refine fg_use (r_MO_isLike hz hlf hLy k2 k4 ?_)
      have ih := ih (i + 1) (by omega)
      rw [fg_fit, hq, Bool.true_and] at ih
      exact ih
theorem l_MO_weathers {σ : fg_St} (hM : fg_MI σ z) (hR : fg_RdM σ z n a b) (H : ∀ u, fg_sm fg_pM σ u → Q (nI (fg_set (fg_pw z (fg_R σ 191) a b n) 6)) u) : ∀ m i (τ : fg_St), i + m = 6 → fg_sm fg_pM σ τ → fg_Run (d + 4) 155 4 [some (.ref 187), some (.int (nI (fg_set (fg_pw z (fg_R σ 191) a b n) i))), some (.int (nI i)), none, none] [] τ Q := by
  intro m
  induction m with
  | zero =>
    intro i τ hi hsm
    have hi : i = 6 := by omega
    subst hi
    exact b_MO_weathers_4 ⟨fun _ => H τ hsm, fun q => absurd (nI_le (a := 6) (b := 6) (by decide) (by decide)) q⟩
  | succ m ih =>
    intro i τ hi hsm
    have hM' := hM.sm hsm
    have e191 : fg_R τ 191 = fg_R σ 191 := funext (hsm.2 191 (by decide)).2
    refine b_MO_weathers_4 ⟨fun q => absurd q (nI_ge (b := 6) (by omega) (by decide)), fun _ => ?_⟩
    have hw2 := fg_w2 (hz := i / 2) (wd := i % 2) (by omega) (by omega)
    rw [fg_wv] at hw2
    rw [hw2.2, hw2.1]
    refine fg_use (r_MO_layLooks (by omega) (by omega) hM' (fun u hsu hLy => ?_))
    rw [e191] at hLy
    have hsmu := hsm.tr (hsu.wk fg_pKM)
    refine l_MO_weathers2 (show i < 6 by omega) hM.1 (fg_lw_ltM hM.2.2.2) hLy (hR.sm hsmu (by decide) (by decide) (by decide)) ?_ n 0 (by omega)
    have ih := ih (i + 1) u (by omega) hsmu
    rw [← fg_set_step (p := fg_pw z (fg_R σ 191) a b n) (n := i) (by omega)] at ih
    exact ih
theorem r_MO_weathers {σ : fg_St} (hM : fg_MI σ z) (hR : fg_RdM σ z n a b) (H : ∀ u, fg_sm fg_pM σ u → Q (nI (fg_set (fg_pw z (fg_R σ 191) a b n) 6)) u) : fg_Run (d + 4) 155 0 [some (.ref 187), none, none, none, none] [] σ Q :=
  b_MO_weathers_0 (l_MO_weathers hM hR H 6 0 σ rfl fg_sm.rfl')
theorem l_MO_layLikes2 {σ : fg_St} {v : Nat} (hv : v < 6) (hz : fg_Zok z) (hM : fg_ShM σ z) (hlf : ∀ g, g < fg_zf z → fg_lw w (v / 2) (v % 2) g < 200) (hLy : fg_Ly z (fg_s0 z (fg_tn z w)) (fg_lw w (v / 2) (v % 2)) σ) (H : ∀ u, fg_sm (fun g => g == 203) σ u → (∀ k, fg_R u 203 k = if v * 10 ≤ k ∧ k < v * 10 + fg_zs z then nI (fg_lks z w v (k - v * 10)) else fg_R σ 203 k) → fg_Run (d + 4) 156 2 [some (.ref 187), some (.int (nI (v + 1))), none] [] u Q) : ∀ m i (τ : fg_St), i + m = fg_zs z → fg_sm (fun g => g == 203) σ τ → (∀ k, fg_R τ 203 k = if v * 10 ≤ k ∧ k < v * 10 + i then nI (fg_lks z w v (k - v * 10)) else fg_R σ 203 k) → fg_Run (d + 4) 156 20 [some (.ref 187), some (.int (nI v)), some (.int (nI i))] [] τ Q := by
  have hs := hz.1.2.2.2
  intro m
  induction m with
  | zero =>
    intro i τ hi hsm hk
    have hi : i = fg_zs z := by omega
    subst hi
    have hM' := hM.sm hsm (by decide) (by decide) (by decide)
    refine b_MO_layLikes_20 ⟨fun _ => ?_, fun q => absurd ?_ q⟩
    · rw [nI_1]
      exact H τ hsm hk
    · rw [hM'.1.2.2.2]
      exact nI_le (Nat.le_refl _) (by omega)
  | succ m ih =>
    intro i τ hi hsm hk
    have hM' := hM.sm hsm (by decide) (by decide) (by decide)
    have hLy' : fg_Ly z (fg_s0 z (fg_tn z w)) (fg_lw w (v / 2) (v % 2)) τ := ⟨fun e he => ((hsm.2 197 (by decide)).2 e).trans (hLy.1 e he), fun e he hu j hj => ((hsm.2 198 (by decide)).2 _).trans (hLy.2 e he hu j hj)⟩
    refine b_MO_layLikes_20 ⟨fun q => absurd q (by rw [hM'.1.2.2.2]; exact nI_ge (by omega) (by omega)), fun _ => fg_use (r_MO_likeOf hz hM' hlf hLy' (show i < fg_zs z by omega) ?_)⟩
    rw [fg_e10, nI_clamp (by omega), nI_1]
    refine ⟨vp_in_nI (by omega) (by decide), ih (i + 1) _ (by omega) (hsm.tr (fg_sm_R (by decide))) (fun k => ?_)⟩
    rw [fg_R_sR]
    by_cases e1 : k = v * 10 + i
    · rw [if_pos ⟨rfl, e1⟩, if_pos (by omega), e1, show v * 10 + i - v * 10 = i by omega]
      rfl
    · rw [if_neg (fun q => e1 q.2), hk k]
      by_cases h1 : v * 10 ≤ k ∧ k < v * 10 + i
      · rw [if_pos h1, if_pos (by omega)]
      · rw [if_neg h1, if_neg (by omega)]
theorem fg_p203 : ∀ g, fg_pM g = false → (fun g => g == 203) g = false := by
  intro g h
  unfold fg_pM at h
  simp only [Bool.or_eq_false_iff] at h
  exact h.2
theorem l_MO_layLikes {σ : fg_St} (hM : fg_MI σ z) (H : ∀ u, fg_sm fg_pM σ u → (∀ v e, v < 6 → e < fg_zs z → fg_R u 203 (v * 10 + e) = nI (fg_lks z (fg_R σ 191) v e)) → Q 0 u) : ∀ m i (τ : fg_St), i + m = 6 → fg_sm fg_pM σ τ → (∀ v e, v < i → e < fg_zs z → fg_R τ 203 (v * 10 + e) = nI (fg_lks z (fg_R σ 191) v e)) → fg_Run (d + 4) 156 2 [some (.ref 187), some (.int (nI i)), none] [] τ Q := by
  have hs := hM.1.1.2.2.2
  intro m
  induction m with
  | zero =>
    intro i τ hi hsm hL
    have hi : i = 6 := by omega
    subst hi
    exact b_MO_layLikes_2 ⟨fun _ => H τ hsm hL, fun q => absurd (nI_le (a := 6) (b := 6) (by decide) (by decide)) q⟩
  | succ m ih =>
    intro i τ hi hsm hL
    have hM' := hM.sm hsm
    have e191 : fg_R τ 191 = fg_R σ 191 := funext (hsm.2 191 (by decide)).2
    refine b_MO_layLikes_2 ⟨fun q => absurd q (nI_ge (b := 6) (by omega) (by decide)), fun _ => ?_⟩
    have hw2 := fg_w2 (hz := i / 2) (wd := i % 2) (by omega) (by omega)
    rw [fg_wv] at hw2
    rw [hw2.2, hw2.1]
    refine fg_use (r_MO_layLooks (by omega) (by omega) hM' (fun u hsu hLy => ?_))
    rw [e191] at hLy
    have hsmu := hsm.tr (hsu.wk fg_pKM)
    refine l_MO_layLikes2 (show i < 6 by omega) hM.1 (hM.sm hsmu).2.1 (fg_lw_ltM hM.2.2.2) hLy (fun x hx hk => ?_) (fg_zs z) 0 u (by omega) fg_sm.rfl' (fun k => by rw [if_neg (by omega)])
    refine ih (i + 1) x (by omega) (hsmu.tr (hx.wk fg_p203)) (fun v e2 hv he => ?_)
    rw [hk]
    by_cases e1 : v = i
    · subst e1
      rw [if_pos (by omega), show v * 10 + e2 - v * 10 = e2 by omega]
    · rw [if_neg (by omega), (hsu.2 203 (by decide)).2]
      exact hL v e2 (by omega) he
theorem r_MO_layLikes {σ : fg_St} (hM : fg_MI σ z) (H : ∀ u, fg_sm fg_pM σ u → (∀ v e, v < 6 → e < fg_zs z → fg_R u 203 (v * 10 + e) = nI (fg_lks z (fg_R σ 191) v e)) → Q 0 u) : fg_Run (d + 4) 156 0 [some (.ref 187), none, none] [] σ Q :=
  b_MO_layLikes_0 (l_MO_layLikes hM H 6 0 σ rfl fg_sm.rfl' (fun v e hv _ => absurd hv (by omega)))
theorem l_MO_greatestPart2 {σ : fg_St} {e W v : Nat} {y3 : Int32} (he : e < 10) (hW : W < 64) (hv : v < 6) (H : fg_Run (d + 1) 157 5 [some (.ref 187), some (.int (nI W)), some (.int (nI e)), some (.int (if nI (fg_ptn W (fun x => fg_R σ 203 (x * 10 + e)) v) ≤ y3 then y3 else nI (fg_ptn W (fun x => fg_R σ 203 (x * 10 + e)) v))), some (.int (nI (v + 1))), none, none] [] σ Q) : ∀ m i, i + m = 6 → fg_Run (d + 1) 157 18 [some (.ref 187), some (.int (nI W)), some (.int (nI e)), some (.int y3), some (.int (nI v)), some (.int (nI (fg_num (fun u => W.testBit v && (W.testBit u && decide (fg_R σ 203 (v * 10 + e) = fg_R σ 203 (u * 10 + e)))) i))), some (.int (nI i))] [] σ Q := by
  intro m
  induction m with
  | zero =>
    intro i hi
    have hi : i = 6 := by omega
    subst hi
    refine b_MO_greatestPart_18 ⟨fun _ => ?_, fun q => absurd (nI_le (a := 6) (b := 6) (by decide) (by decide)) q⟩
    rw [nI_1]
    refine ⟨fun q => ?_, fun q => ?_⟩
    · rw [if_pos (show nI (fg_ptn W (fun x => fg_R σ 203 (x * 10 + e)) v) ≤ y3 from q)] at H
      exact H
    · rw [if_neg (show ¬ nI (fg_ptn W (fun x => fg_R σ 203 (x * 10 + e)) v) ≤ y3 from q)] at H
      exact H
  | succ m ih =>
    intro i hi
    have ih := ih (i + 1) (by omega)
    rw [fg_num] at ih
    refine b_MO_greatestPart_18 ⟨fun q => absurd q (nI_ge (b := 6) (by omega) (by decide)), fun _ => fg_use (r_MO_has (by omega) (by omega) ?_)⟩
    rw [nI_1 i]
    cases h1 : W.testBit v
    · simp only [h1, Bool.false_and] at ih ⊢
      exact ⟨fun _ => by rw [fg_add0]; exact ih, fun q => absurd rfl q⟩
    · refine ⟨fun q => absurd q (by decide), fun _ => fg_use (r_MO_has (by omega) (by omega) ?_)⟩
      cases h2 : W.testBit i
      · simp only [h1, h2, Bool.true_and, Bool.false_and] at ih ⊢
        exact ⟨fun _ => by rw [fg_add0]; exact ih, fun q => absurd rfl q⟩
      · refine ⟨fun q => absurd q (by decide), fun _ => ?_⟩
        rw [fg_e10, fg_e10, nI_clamp (by omega), nI_clamp (by omega)]
        simp only [h1, h2, Bool.true_and] at ih ⊢
        refine ⟨vp_in_nI (by omega) (by decide), vp_in_nI (by omega) (by decide), fun q => ?_, fun q => ?_⟩
        · rw [if_neg (by simpa using q)] at ih
          rw [fg_add0]
          exact ih
        · rw [if_pos (by simpa using q), ← nI_1] at ih
          exact ih
theorem l_MO_greatestPart {σ : fg_St} {e W : Nat} (he : e < 10) (hW : W < 64) (H : Q (nI (fg_gx (fg_ptn W (fun x => fg_R σ 203 (x * 10 + e))) 6)) σ) : ∀ m i, i + m = 6 → fg_Run (d + 1) 157 5 [some (.ref 187), some (.int (nI W)), some (.int (nI e)), some (.int (nI (fg_gx (fg_ptn W (fun x => fg_R σ 203 (x * 10 + e))) i))), some (.int (nI i)), none, none] [] σ Q := by
  intro m
  induction m with
  | zero =>
    intro i hi
    have hi : i = 6 := by omega
    subst hi
    exact b_MO_greatestPart_5 ⟨fun _ => H, fun q => absurd (nI_le (a := 6) (b := 6) (by decide) (by decide)) q⟩
  | succ m ih =>
    intro i hi
    have ih := ih (i + 1) (by omega)
    refine b_MO_greatestPart_5 ⟨fun q => absurd q (nI_ge (b := 6) (by omega) (by decide)), fun _ => ?_⟩
    refine l_MO_greatestPart2 he hW (show i < 6 by omega) ?_ 6 0 rfl
    have h1 := fg_ptn_le (W := W) (L := fun x => fg_R σ 203 (x * 10 + e)) i
    have h2 := fg_gx_le (fg_ptn_le (W := W) (L := fun x => fg_R σ 203 (x * 10 + e))) i
    rw [fg_gx] at ih
    by_cases hq : fg_gx (fg_ptn W (fun x => fg_R σ 203 (x * 10 + e))) i < fg_ptn W (fun x => fg_R σ 203 (x * 10 + e)) i
    · rw [if_neg (fun k => by have := (nI_leI (by omega) (by omega)).mp k; omega)]
      rw [if_pos hq] at ih
      exact ih
    · rw [if_pos ((nI_leI (by omega) (by omega)).mpr (by omega))]
      rw [if_neg hq] at ih
      exact ih
theorem l_MO_askNext {σ : fg_St} {W : Nat} (hz : fg_Zok z) (hM : fg_ShM σ z) (hW : W < 64) (hL : ∀ v e, v < 6 → e < fg_zs z → fg_R σ 203 (v * 10 + e) = nI (fg_lks z w v e)) {s0 : Int32 × Int32} (H : Q (fg_lsf s0 (fg_gp z w W) (fg_zs z)).1 σ) : ∀ m i, i + m = fg_zs z → fg_Run (d + 2) 158 19 [some (.ref 187), some (.int (nI W)), some (.int (fg_lsf s0 (fg_gp z w W) i).1), some (.int (fg_lsf s0 (fg_gp z w W) i).2), some (.int (nI i)), none] [] σ Q := by
  have hs := hz.1.2.2.2
  intro m
  induction m with
  | zero =>
    intro i hi
    have hi : i = fg_zs z := by omega
    subst hi
    refine b_MO_askNext_19 ⟨fun _ => H, fun q => absurd ?_ q⟩
    rw [hM.1.2.2.2]
    exact nI_le (Nat.le_refl _) (by omega)
  | succ m ih =>
    intro i hi
    have ih := ih (i + 1) (by omega)
    refine b_MO_askNext_19 ⟨fun q => absurd q (by rw [hM.1.2.2.2]; exact nI_ge (by omega) (by omega)), fun _ => fg_use (b_MO_greatestPart_0 (l_MO_greatestPart (by omega) hW ?_ 6 0 rfl))⟩
    rw [fg_gx_ext (c' := fg_ptn W (fun v => nI (fg_lks z w v i))) 6 (fun v hv => fg_ptn_ext hv (fun x hx => hL x i hx (by omega))), nI_1]
    rw [fg_lsf_s] at ih
    refine ⟨fun q => ⟨fun _ => ?_, fun q2 => absurd q q2⟩, fun q => ⟨fun q2 => absurd q2 q, fun _ => ?_⟩⟩
    · rw [if_pos (show _ ≤ fg_gp z w W i from q)] at ih
      exact ih
    · rw [if_neg (show ¬ _ ≤ fg_gp z w W i from q)] at ih
      exact ih
theorem r_MO_askNext {σ : fg_St} (hM : fg_MI σ z) (hR : fg_RdM σ z n a b) (H : ∀ u, fg_sm fg_pM σ u → Q (fg_lsf (-1, nI (fg_cnt (fg_set (fg_pw z (fg_R σ 191) a b n) 6) 10)) (fg_gp z (fg_R σ 191) (fg_set (fg_pw z (fg_R σ 191) a b n) 6)) (fg_zs z)).1 u) : fg_Run (d + 5) 158 0 [some (.ref 187), none, none, none, none, none] [] σ Q := by
  have hW : fg_set (fg_pw z (fg_R σ 191) a b n) 6 < 64 := fg_set_lt _ 6
  refine b_MO_askNext_0 (fg_use (r_MO_weathers hM hR (fun u hsu => fg_use (r_MO_layLikes (hM.sm hsu) (fun v hsv hL => fg_use (r_MO_bits (by omega) ?_))))))
  have e191 : fg_R u 191 = fg_R σ 191 := funext (hsu.2 191 (by decide)).2
  rw [e191] at hL
  exact l_MO_askNext (s0 := (-1, nI (fg_cnt (fg_set (fg_pw z (fg_R σ 191) a b n) 6) 10))) hM.1 (hM.sm (hsu.tr hsv)).2.1 hW hL (H v (hsu.tr hsv)) (fg_zs z) 0 (by omega)
end
