/-! HOW SIGNALS LOOK: the reference's layLooks, isLike, likeOf, clearIn -/
def fg_lv (lf : Nat → Nat) (p : Nat) : Int32 := if p = 99 then -1 else if p < 20 then nI (lf p) else nI (180 + p)
def fg_pK (g : Nat) : Bool := g == 196 || g == 197 || g == 198
theorem fg_pKM : ∀ g, fg_pM g = false → fg_pK g = false := by
  intro g h
  unfold fg_pM at h
  unfold fg_pK
  simp only [Bool.or_eq_false_iff] at h ⊢
  exact ⟨⟨h.1.1.1.1.1, h.1.1.1.1.2⟩, h.1.1.1.2⟩
theorem fg_pRK : ∀ g, fg_pK g = false → fg_pR g = false := by
  intro g h
  unfold fg_pK at h
  unfold fg_pR
  simp only [Bool.or_eq_false_iff] at h
  exact h.1.1
/-- the reference's looks as they lie behind layLooks -/
def fg_Ly (z : fg_Z) (s : Nat × Nat) (lf : Nat → Nat) (u : fg_St) : Prop := (∀ e, e < fg_zs z → fg_R u 197 e = fg_b (fg_upb z s e)) ∧ ∀ e, e < fg_zs z → fg_upb z s e = true → ∀ j, j < 4 → fg_R u 198 (4 * e + j) = fg_lv lf (fg_rx z s e j)
section
variable {d : Nat} {Q : Int32 → fg_St → Prop} {z : fg_Z}
theorem l_MO_layLooks2 {y3 : Int32} {e hz wd : Nat} {pc : Nat → Nat} (hh : hz ≤ 2) (hw : wd ≤ 1) (he : e < 10) (hf : fg_zf z ≤ 10) (hpc : ∀ q, q < 4 → (pc q = 99 ∨ pc q < fg_zf z ∨ (21 ≤ pc q ∧ pc q ≤ 24))) : ∀ m j (τ : fg_St), j + m = 4 → fg_Pt z (fg_R τ 191) → (∀ q, q < 4 → fg_R τ 196 q = fg_pi (pc q)) → (∀ u, fg_sm (fun g => g == 198) τ u → (∀ k, fg_R u 198 k = if 4 * e + j ≤ k ∧ k < 4 * e + 4 then fg_lv (fg_lw (fg_R τ 191) hz wd) (pc (k - 4 * e)) else fg_R τ 198 k) → fg_Run (d + 2) 138 19 [some (.ref 187), some (.int (nI hz)), some (.int (nI wd)), some (.int y3), some (.int (nI (e + 1))), none] [] u Q) → fg_Run (d + 2) 138 49 [some (.ref 187), some (.int (nI hz)), some (.int (nI wd)), some (.int y3), some (.int (nI e)), some (.int (nI j))] [] τ Q := by
  intro m
  induction m with
  | zero =>
    intro j τ hj hP hr H
    have hj : j = 4 := by omega
    subst hj
    refine b_MO_layLooks_49 ⟨fun _ => ?_, fun q => absurd (nI_le (a := 4) (b := 4) (by decide) (by decide)) q⟩
    rw [nI_1]
    exact H τ fg_sm.rfl' (fun k => by rw [if_neg (by omega)])
  | succ m ih =>
    intro j τ hj hP hr H
    have next : ∀ x : Int32, x = fg_lv (fg_lw (fg_R τ 191) hz wd) (pc j) → fg_Run (d + 2) 138 49 [some (.ref 187), some (.int (nI hz)), some (.int (nI wd)), some (.int y3), some (.int (nI e)), some (.int (nI (j + 1)))] [] (fg_sR τ 198 (4 * e + j) x) Q := by
      intro x hx
      refine ih (j + 1) _ (by omega) hP (fun q hq => hr q hq) (fun u hu hk => H u ((fg_sm_R (by rfl)).tr hu) (fun k => ?_))
      rw [hk k]
      by_cases h1 : 4 * e + (j + 1) ≤ k ∧ k < 4 * e + 4
      · rw [if_pos h1, if_pos (by omega)]
        rfl
      · rw [if_neg h1, fg_R_sR]
        by_cases h2 : k = 4 * e + j
        · rw [if_pos ⟨rfl, h2⟩, if_pos (by omega), hx, h2]
          congr 2
          omega
        · rw [if_neg (fun q => h2 q.2), if_neg (by omega)]
    refine b_MO_layLooks_49 ⟨fun q => absurd q (nI_ge (b := 4) (by omega) (by decide)), fun _ => ⟨vp_in_nI (by omega) (by decide), ?_⟩⟩
    rw [fg_4e, nI_clamp (by omega), nI_clamp (by omega), nI_1, hr j (by omega)]
    have hv4 : vp_in (nI j) 4 := vp_in_nI (by omega) (by decide)
    have hv40 : vp_in (nI (4 * e + j)) 40 := vp_in_nI (by omega) (by decide)
    have hp := hpc j (by omega)
    by_cases h99 : pc j = 99
    · have e1 : fg_pi (pc j) = -1 := if_pos h99
      rw [e1]
      exact ⟨fun q => absurd rfl q, fun _ => ⟨hv40, next _ (by unfold fg_lv; rw [if_pos h99])⟩⟩
    · have e1 : fg_pi (pc j) = nI (pc j) := if_neg h99
      rw [e1]
      refine ⟨fun _ => ⟨hv4, fun q => ⟨hv4, vp_in_nI (by omega) (by decide), ?_⟩, fun q => ⟨hv4, hv40, next _ ?_⟩⟩, fun q => absurd q (fg_nm1 (by omega))⟩
      · have q : pc j ≤ 20 := (nI_leI (b := 20) (by omega) (by decide)).mp q
        obtain ⟨k, a, b, e2, e3⟩ := hP (pc j) (by omega)
        rw [nI_clamp (by omega), e3]
        refine fg_use (r_MO_lookOf e2.1 e2.2.1 e2.2.2 hh hw ⟨hv40, next _ ?_⟩)
        unfold fg_lv
        rw [if_neg h99, if_pos (by omega), fg_lw_eq e2.1 e2.2.1 e2.2.2 e3]
      · have q : ¬ pc j ≤ 20 := fun z => q ((nI_leI (b := 20) (by omega) (by decide)).mpr z)
        unfold fg_lv
        rw [if_neg h99, if_neg (by omega), show (180 : Int32) = nI 180 from rfl, nI_add]
theorem fg_rok_pc {r : Nat → Int32} (h : fg_rok z r) (hf : fg_zf z ≤ 10) : ∃ pc : Nat → Nat, ∀ q, q < 4 → r q = fg_pi (pc q) ∧ (pc q = 99 ∨ pc q < fg_zf z ∨ (21 ≤ pc q ∧ pc q ≤ 24)) := by
  refine ⟨fun q => if r q = -1 then 99 else (r q).toNatClampNeg, fun q hq => ?_⟩
  simp only
  rcases h q hq with e | ⟨p, e1, e2⟩
  · rw [if_pos e]
    exact ⟨e, Or.inl rfl⟩
  · rw [e1, if_neg (fg_nm1 (by omega)), nI_clamp (by omega)]
    refine ⟨?_, by omega⟩
    unfold fg_pi
    rw [if_neg (by omega)]
theorem l_MO_layLooks {σ : fg_St} {hz wd T : Nat} (hh : hz ≤ 2) (hw : wd ≤ 1) (hM : fg_MI σ z) (H : ∀ u, fg_sm fg_pK σ u → fg_Ly z (fg_s0 z T) (fg_lw (fg_R σ 191) hz wd) u → Q 0 u) : ∀ m i (τ : fg_St), i + m = fg_zs z → fg_sm fg_pK σ τ → (∀ e, e < i → fg_R τ 197 e = fg_b (fg_upb z (fg_s0 z T) e)) → (∀ e, e < i → fg_upb z (fg_s0 z T) e = true → ∀ j, j < 4 → fg_R τ 198 (4 * e + j) = fg_lv (fg_lw (fg_R σ 191) hz wd) (fg_rx z (fg_s0 z T) e j)) → fg_Run (d + 3) 138 19 [some (.ref 187), some (.int (nI hz)), some (.int (nI wd)), some (.int (nI (fg_s0 z T).1)), some (.int (nI i)), none] [] τ Q := by
  obtain ⟨hzo, hMS, hWk, hPt⟩ := id hM
  have hs := hzo.1.2.2.2
  have hf := hzo.1.2.2.1
  have hb := fg_s0_lt (T := T) hzo
  intro m
  induction m with
  | zero =>
    intro i τ hi hsm h1 h2
    have hi : i = fg_zs z := by omega
    subst hi
    have hM' := (hM.sm (hsm.wk fg_pKM)).2.1
    refine b_MO_layLooks_19 ⟨fun _ => H τ hsm ⟨h1, h2⟩, fun q => absurd ?_ q⟩
    rw [hM'.1.2.2.2]
    exact nI_le (Nat.le_refl _) (by omega)
  | succ m ih =>
    intro i τ hi hsm h1 h2
    have hMτ := hM.sm (hsm.wk fg_pKM)
    have hM' := hMτ.2.1
    refine b_MO_layLooks_19 ⟨fun q => absurd q (by rw [hM'.1.2.2.2]; exact nI_ge (by omega) (by omega)), fun _ => fg_use (r_MO_allSubs hzo hM' ?_)⟩
    rw [fg_als_all _ (by have := hzo.1.2.1; omega)]
    refine fg_use (r_MO_goesUp (FF := (fg_s0 z T).1) (FS := (fg_s0 z T).2) hzo hM' (show i < fg_zs z by omega) hb.1 hb.2 (fun u hsu hrow hrok => ?_))
    have hup : (fg_tk z i ((fg_s0 z T).1, (fg_s0 z T).2) (fg_zl z i)).isSome = fg_upb z (fg_s0 z T) i := rfl
    rw [hup] at hrow ⊢
    rw [nI_clamp (by omega)]
    refine ⟨vp_in_nI (by omega) (by decide), by unfold fg_b; split <;> simp, ?_⟩
    obtain ⟨pc, hpc⟩ : ∃ pc : Nat → Nat, (∀ q, q < 4 → fg_R u 196 q = fg_pi (pc q) ∧ (pc q = 99 ∨ pc q < fg_zf z ∨ (21 ≤ pc q ∧ pc q ≤ 24))) ∧ (fg_upb z (fg_s0 z T) i = true → ∀ q, q < 4 → pc q = fg_rx z (fg_s0 z T) i q) := by
      cases hq : fg_upb z (fg_s0 z T) i
      · obtain ⟨pc, hpc⟩ := fg_rok_pc hrok hf
        exact ⟨pc, hpc, fun q => by cases q⟩
      · refine ⟨fg_rx z (fg_s0 z T) i, fun q hq4 => ⟨?_, fg_rx_in hzo (show i < fg_zs z by omega) q⟩, fun _ _ _ => rfl⟩
        rw [hrow hq q hq4]
        unfold fg_rx
        rw [hq, Bool.true_and]
        by_cases hl : q < fg_zl z i
        · rw [if_pos hl, decide_eq_true hl, if_pos rfl]
          unfold fg_pi
          rw [if_neg]
          rcases fg_rw_in hzo (show i < fg_zs z by omega) (Nat.le_refl _) hq hl with h | h <;> omega
        · rw [if_neg hl, decide_eq_false hl]
          rfl
    have s2 : fg_sm fg_pK σ (fg_sR u 197 i (fg_b (fg_upb z (fg_s0 z T) i))) := hsm.tr ((hsu.wk fg_pRK).tr (fg_sm_R (by decide)))
    have e191 : fg_R (fg_sR u 197 i (fg_b (fg_upb z (fg_s0 z T) i))) 191 = fg_R σ 191 := funext (s2.2 191 (by decide)).2
    refine l_MO_layLooks2 (z := z) (pc := pc) hh hw (by omega) hf (fun q hq => (hpc.1 q hq).2) 4 0 _ rfl (by rw [e191]; exact hPt) (fun q hq => (hpc.1 q hq).1) (fun v hv hk => ?_)
    rw [e191] at hk
    have v197 := hv.2 197 (by decide)
    refine ih (i + 1) v (by omega) (s2.tr (hv.wk (fun g hg => ?_))) (fun e he => ?_) (fun e he hu j hj => ?_)
    · unfold fg_pK at hg
      simp only [Bool.or_eq_false_iff] at hg
      exact hg.2
    · rw [v197.2 e, fg_R_sR]
      by_cases e1 : e = i
      · rw [if_pos ⟨rfl, e1⟩, e1]
      · rw [if_neg (fun q => e1 q.2), (hsu.2 197 (by decide)).2 e, h1 e (by omega)]
    · rw [hk]
      by_cases e1 : e = i
      · subst e1
        rw [if_pos (by omega), show 4 * e + j - 4 * e = j by omega, hpc.2 hu j hj]
      · rw [if_neg (by omega)]
        show fg_R u 198 _ = _
        rw [(hsu.2 198 (by decide)).2, h2 e (by omega) hu j hj]
/-- layLooks -/
theorem r_MO_layLooks {σ : fg_St} {hz wd : Nat} (hh : hz ≤ 2) (hw : wd ≤ 1) (hM : fg_MI σ z) (H : ∀ u, fg_sm fg_pK σ u → fg_Ly z (fg_s0 z (fg_tn z (fg_R σ 191))) (fg_lw (fg_R σ 191) hz wd) u → Q 0 u) : fg_Run (d + 3) 138 0 [some (.ref 187), some (.int (nI hz)), some (.int (nI wd)), none, none, none] [] σ Q := by
  obtain ⟨hzo, hMS, hWk, hPt⟩ := id hM
  refine b_MO_layLooks_0 (fg_use (r_MO_tornFlags hzo.1.2.2.1 hMS.1.2.2.1 ?_))
  rw [hMS.1.2.2.1, fg_all1 (by have := hzo.1.2.2.1; omega), fg_andn]
  exact l_MO_layLooks (T := fg_tn z (fg_R σ 191)) hh hw hM H (fg_zs z) 0 σ (by omega) fg_sm.rfl' (fun e he => absurd he (by omega)) (fun e he => absurd he (by omega))
end
