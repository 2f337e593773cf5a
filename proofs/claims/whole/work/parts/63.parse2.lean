/-! THE CLASS READS A SIGNAL'S CLAUSE -/
def fg_IP (σ : fg_St) (h : Nat) (S : fg_PS) (n : Nat) (r : Nat → Nat) : Prop := fg_DS σ h S ∧ fg_R σ (h + 4) (fg_zs S.1) = nI n ∧ ∀ j, j < 4 → fg_R σ (h + 5) (fg_zs S.1 * 4 + j) = if j < n then nI (r j) else -1
def fg_IE (σ : fg_St) (h : Nat) : Prop := ∃ k, k ≤ 10 ∧ fg_F σ h 3 = nI k ∧ (k < 10 → ∃ n, n ≤ 4 ∧ fg_R σ (h + 4) k = nI n)
def fg_pS4 (h g : Nat) : Bool := g == h + 4 || g == h + 5
section
variable {d : Nat} {σ u : fg_St} {Q : Int32 → fg_St → Prop} {T : fg_GT} {p n k h : Nat} {wa : Int32} {S : fg_PS} {r : Nat → Nat}
theorem fg_pS4D : ∀ g, fg_pD h g = false → fg_pS4 h g = false := by
  intro g hg
  simp [fg_pD] at hg
  simp [fg_pS4]
  omega
theorem fg_IP.ie (I : fg_IP σ h S n r) (hs : fg_zs S.1 ≤ 10) (hn : n ≤ 4) : fg_IE σ h := ⟨fg_zs S.1, hs, I.1.1.1.2.2.2, fun _ => ⟨n, hn, I.2.1⟩⟩
theorem fg_IP.sm {P : Nat → Bool} (I : fg_IP σ h S n r) (m : fg_sm P σ u) (hp : ∀ g, h ≤ g → g ≤ h + 5 → P g = false) : fg_IP u h S n r := ⟨I.1.sm m hp, ((m.2 _ (hp _ (by omega) (by omega))).2 _).trans I.2.1, fun j hj => ((m.2 _ (hp _ (by omega) (by omega))).2 _).trans (I.2.2 j hj)⟩
theorem fg_IE.sm {P : Nat → Bool} (I : fg_IE σ h) (m : fg_sm P σ u) (hp : ∀ g, h ≤ g → g ≤ h + 5 → P g = false) : fg_IE u h := by
  obtain ⟨k, h1, h2, h3⟩ := I
  exact ⟨k, h1, ((m.2 _ (hp _ (by omega) (by omega))).1 3).trans h2, fun q => (h3 q).elim (fun n hn => ⟨n, hn.1, ((m.2 _ (hp _ (by omega) (by omega))).2 _).trans hn.2⟩)⟩
theorem l_SH_start (Sh : h = 3 ∨ h = 9) (hk : k < 10) (hF : fg_F σ h 3 = nI k) (H : ∀ u, fg_sm (fun g => g == h + 5) σ u → (∀ j, fg_R u (h + 5) j = if k * 4 ≤ j ∧ j < k * 4 + 4 then -1 else fg_R σ (h + 5) j) → Q 0 u) : ∀ m i (τ : fg_St), i + m = 4 → fg_sm (fun g => g == h + 5) σ τ → (∀ j, fg_R τ (h + 5) j = if k * 4 ≤ j ∧ j < k * 4 + i then -1 else fg_R σ (h + 5) j) → fg_Run d 39 21 [some (.ref h), some (.int (nI i))] [] τ Q := by
  intro m
  induction m with
  | zero =>
    intro i τ hi m1 hr
    have hi : i = 4 := by omega
    subst hi
    exact b_SH_startSignal_21 Sh ⟨fun _ => H τ m1 hr, fun q => absurd (nI_le (a := 4) (by omega) (by omega)) q⟩
  | succ m ih =>
    intro i τ hi m1 hr
    have hF' : fg_F τ h 3 = nI k := ((m1.2 h (by simp)).1 3).trans hF
    refine b_SH_startSignal_21 Sh ⟨fun q => absurd q (nI_ge (b := 4) (by omega) (by decide)), fun _ => ?_⟩
    rw [hF', fg_lit4, nI_clamp (by omega), nI_1]
    refine ⟨vp_in_nI (by omega) (by decide), ih (i + 1) _ (by omega) (m1.tr (fg_sm_R (by simp))) (fun j => ?_)⟩
    rw [fg_R_eq]
    by_cases e : j = k * 4 + i
    · rw [e, fg_ut_s, if_pos (by omega)]
    · rw [fg_ut_n e, hr j]
      by_cases e2 : k * 4 ≤ j ∧ j < k * 4 + i
      · rw [if_pos e2, if_pos (by omega)]
      · rw [if_neg e2, if_neg (by omega)]
theorem r_SH_start (Sh : h = 3 ∨ h = 9) (hk : k < 10) (hF : fg_F σ h 3 = nI k) (H : ∀ u, fg_sm (fg_pS4 h) σ u → (∀ j, fg_R u (h + 4) j = if j = k then 0 else fg_R σ (h + 4) j) → (∀ j, fg_R u (h + 5) j = if k * 4 ≤ j ∧ j < k * 4 + 4 then -1 else fg_R σ (h + 5) j) → Q 0 u) : fg_Run d 39 0 [some (.ref h), none] [] σ Q := by
  refine b_SH_startSignal_0 Sh ?_
  rw [hF, nI_clamp (by omega)]
  refine ⟨fun q => absurd q (nI_ge (b := 10) hk (by decide)), fun _ => ⟨vp_in_nI hk (by decide), l_SH_start (σ := fg_sR σ (h + 4) k 0) Sh hk hF (fun u m hr => H u ((fg_sm_R (by simp [fg_pS4])).tr (m.wk (fun g hg => ?_))) (fun j => ?_) (fun j => ?_)) 4 0 _ rfl fg_sm.rfl' (fun j => by rw [if_neg (by omega)])⟩⟩
  · simp [fg_pS4] at hg
    simpa using hg.2
  · rw [(m.2 (h + 4) (by simp)).2 j, fg_R_eq]
    by_cases e : j = k
    · rw [if_pos e, e, fg_ut_s]
    · rw [if_neg e, fg_ut_n e]
  · rw [hr j, fg_R_ne (by omega)]
theorem r_SH_startE (Sh : h = 3 ∨ h = 9) (I : fg_IE σ h) (H : ∀ u, fg_sm (fg_pS4 h) σ u → fg_IE u h → Q 0 u) : fg_Run d 39 0 [some (.ref h), none] [] σ Q := by
  obtain ⟨k, h1, h2, h3⟩ := id I
  by_cases hk : k < 10
  · refine r_SH_start Sh hk h2 (fun u m e4 e5 => H u m ⟨k, h1, ((m.2 h (by simp [fg_pS4])).1 3).trans h2, fun _ => ⟨0, by omega, by rw [e4, if_pos rfl]; rfl⟩⟩)
  · have : k = 10 := by omega
    subst this
    refine b_SH_startSignal_0 Sh ?_
    rw [h2]
    exact ⟨fun _ => H σ fg_sm.rfl' I, fun q => absurd (nI_le (a := 10) (by omega) (by omega)) q⟩
theorem r_SH_addTo {x : Int32} (Sh : h = 3 ∨ h = 9) (hk : k < 10) (hF : fg_F σ h 3 = nI k) (hn : n < 4) (hR : fg_R σ (h + 4) k = nI n) (H : ∀ u, fg_sm (fg_pS4 h) σ u → (∀ j, fg_R u (h + 4) j = if j = k then nI (n + 1) else fg_R σ (h + 4) j) → (∀ j, fg_R u (h + 5) j = if j = k * 4 + n then x else fg_R σ (h + 5) j) → Q 0 u) : fg_Run d 40 0 [some (.ref h), some (.int x)] [] σ Q := by
  refine b_SH_addToSignal_0 Sh ?_
  rw [hF, nI_clamp (by omega), hR, fg_lit4, nI_clamp (by omega), nI_1]
  have vi : vp_in (nI k) 10 := vp_in_nI hk (by decide)
  refine ⟨fun q => absurd q (nI_ge (b := 10) hk (by decide)), fun _ => ⟨vi, fun q => absurd q (nI_ge (b := 4) hn (by decide)), fun _ => ⟨vi, vp_in_nI (by omega) (by decide), vi, vi, H _ ((fg_sm_R (by simp [fg_pS4])).tr (fg_sm_R (by simp [fg_pS4]))) (fun j => ?_) (fun j => ?_)⟩⟩⟩
  · rw [fg_R_eq]
    by_cases e : j = k
    · rw [if_pos e, e, fg_ut_s]
    · rw [if_neg e, fg_ut_n e, fg_R_ne (by omega)]
  · rw [fg_R_ne (by omega), fg_R_eq]
    by_cases e : j = k * 4 + n
    · rw [if_pos e, e, fg_ut_s]
    · rw [if_neg e, fg_ut_n e]
theorem r_SH_addToE {x : Int32} (Sh : h = 3 ∨ h = 9) (I : fg_IE σ h) (H : ∀ u, fg_sm (fg_pS4 h) σ u → fg_IE u h → Q 0 u) : fg_Run d 40 0 [some (.ref h), some (.int x)] [] σ Q := by
  obtain ⟨k, h1, h2, h3⟩ := id I
  by_cases hk : k < 10
  · obtain ⟨n, n1, n2⟩ := h3 hk
    by_cases h4 : n < 4
    · exact r_SH_addTo Sh hk h2 h4 n2 (fun u m e4 e5 => H u m ⟨k, h1, ((m.2 h (by simp [fg_pS4])).1 3).trans h2, fun _ => ⟨n + 1, by omega, by rw [e4, if_pos rfl]⟩⟩)
    · have : n = 4 := by omega
      subst this
      refine b_SH_addToSignal_0 Sh ?_
      rw [h2, nI_clamp (by omega), n2]
      exact ⟨fun q => absurd q (nI_ge (b := 10) hk (by decide)), fun _ => ⟨vp_in_nI hk (by decide), fun _ => H σ fg_sm.rfl' I, fun q => absurd (nI_le (a := 4) (by omega) (by omega)) q⟩⟩
  · have : k = 10 := by omega
    subst this
    refine b_SH_addToSignal_0 Sh ?_
    rw [h2]
    exact ⟨fun _ => H σ fg_sm.rfl' I, fun q => absurd (nI_le (a := 10) (by omega) (by omega)) q⟩
theorem fg_TE.sm {P : Nat → Bool} {e : fg_Ex Nat} (t : fg_TE σ T e) (m : fg_sm P σ u) (h1 : P 1 = false) (h2 : P 2 = false) : fg_TE u T e := by
  cases e with
  | ok p => exact fg_TS.sm t m h1 h2
  | error e => exact ⟨t.1, t.2.elim (fun p hp => ⟨p, hp.sm m h1 h2⟩)⟩
theorem fg_pT5 (Sh : h = 3 ∨ h = 9) : ∀ g, h ≤ g → g ≤ h + 5 → fg_pT g = false := fun g h1 h2 => by
  simp [fg_pT]
  omega
theorem fg_pS1 (Sh : h = 3 ∨ h = 9) : fg_pS4 h 1 = false ∧ fg_pS4 h 2 = false := by
  rcases Sh with rfl | rfl <;> decide
theorem l_SG_err {e : Nat × Nat} (Sh : h = 3 ∨ h = 9) (H : ∀ u, fg_sm (fg_pD h) σ u → fg_TE u T (.error e) → Q 0 u) : ∀ m i (τ : fg_St), i + m = 4 → fg_sm (fg_pD h) σ τ → fg_TE τ T (.error e) → fg_IE τ h → fg_Run (d + 2) 51 45 [some (.ref 1), some (.ref h), some (.int (nI i))] [] τ Q := by
  have p5 := fg_pT5 Sh
  have p1 := fg_pS1 Sh
  have fin : ∀ τ, fg_sm (fg_pD h) σ τ → fg_TE τ T (.error e) → (∃ P, fg_Run (d + 1) 52 0 [some (.ref 1), some (.int 59)] [] τ P ∧ ∀ x1 u2, P x1 u2 → ((¬ (fg_F u2 1 3) = 0 → Q 0 u2) ∧ ((fg_F u2 1 3) = 0 → (∃ P, fg_Run (d + 1) 41 0 [some (.ref h)] [] u2 P ∧ ∀ x3 u4, P x3 u4 → Q 0 u4)))) := fun τ m1 t => fg_use (r_TX_pass (c := 59) (e := .error e) (by decide) t (fun u m2 t2 => ⟨fun _ => H u (m1.tr (m2.wk fg_pTD)) t2, fun q => absurd q (fg_TE.ne t2)⟩))
  intro m
  induction m with
  | zero =>
    intro i τ hi m1 t I
    have hi : i = 4 := by omega
    subst hi
    exact b_TX_parseSignal_45 Sh ⟨fun _ => fin τ m1 t, fun q => absurd (nI_le (a := 4) (by omega) (by omega)) q⟩
  | succ m ih =>
    intro i τ hi m1 t I
    refine b_TX_parseSignal_45 Sh ⟨fun q => absurd q (nI_ge (b := 4) (by omega) (by decide)), fun _ => ?_⟩
    obtain ⟨hn, p, hp⟩ := id t
    refine fg_use (r_TX_next hp (fun u2 m2 h2 => ⟨fun q => ?_, fun q => ?_⟩))
    · exact fin u2 (m1.tr (m2.wk fg_pTD)) ⟨hn, _, h2⟩
    · refine fg_use (r_TX_pass (c := 44) (e := .error e) (by decide) ⟨hn, _, h2⟩ (fun u3 m3 t3 => fg_use ?_))
      obtain ⟨hn3, p3, hp3⟩ := (show fg_TE u3 T (.error e) from t3)
      refine b_TX_parseNumber_0 ⟨fun x => absurd (hp3.2.2.1.symm.trans x) (nI_ne0 (by omega) (by omega)), fun _ => ?_⟩
      have I3 := I.sm (m2.tr m3) p5
      refine fg_use (r_SH_addToE Sh I3 (fun u4 m4 I4 => ?_))
      rw [nI_1]
      exact ih (i + 1) u4 (by omega) ((m1.tr ((m2.tr m3).wk fg_pTD)).tr (m4.wk fg_pS4D)) (fg_TE.sm (e := .error e) t3 m4 p1.1 p1.2) I4
theorem r_SH_end (Sh : h = 3 ∨ h = 9) (I : fg_IP σ h S n r) (hs : fg_zs S.1 < 10) (H : ∀ u, fg_sm (fun g => g == h) σ u → fg_DS u h (fg_adS S n r) → Q 0 u) : fg_Run d 41 0 [some (.ref h)] [] σ Q := by
  obtain ⟨D, I4, I5⟩ := I
  refine b_SH_endSignal_0 Sh ?_
  rw [D.1.1.2.2.2, nI_1]
  refine ⟨fun q => absurd q (nI_ge (b := 10) hs (by decide)), fun _ => H _ (fg_sm_F (by simp)) ⟨⟨⟨?_, ?_, ?_, ?_⟩, fun e he => ?_, fun e he j hj => ?_⟩, fun g hg => ?_⟩⟩
  · exact (fg_F_ne (by decide)).trans D.1.1.1
  · exact (fg_F_ne (by decide)).trans D.1.1.2.1
  · exact (fg_F_ne (by decide)).trans D.1.1.2.2.1
  · exact fg_F_eq
  · have he : e < fg_zs S.1 + 1 := he
    show fg_R σ (h + 4) e = nI (if e = fg_zs S.1 then n else fg_zl S.1 e)
    by_cases e1 : e = fg_zs S.1
    · rw [if_pos e1, e1]
      exact I4
    · rw [if_neg e1]
      exact D.1.2.1 e (by omega)
  · have he : e < fg_zs S.1 + 1 := he
    show fg_R σ (h + 5) (e * 4 + j) = if j < (if e = fg_zs S.1 then n else fg_zl S.1 e) then nI (if e = fg_zs S.1 then r j else fg_zr S.1 e j) else -1
    by_cases e1 : e = fg_zs S.1
    · rw [if_pos e1, if_pos e1, e1]
      exact I5 j hj
    · rw [if_neg e1, if_neg e1]
      exact D.1.2.2 e (by omega) j hj
  · exact D.2 g hg
theorem l_IP_add {v : Nat} (Sh : h = 3 ∨ h = 9) (I : fg_IP σ h S n r) (hs : fg_zs S.1 < 10) (hn : n < 4) (H : ∀ u, fg_sm (fg_pS4 h) σ u → fg_IP u h S (n + 1) (fun j => if j = n then v else r j) → Q 0 u) : fg_Run d 40 0 [some (.ref h), some (.int (nI v))] [] σ Q := by
  obtain ⟨D, I4, I5⟩ := I
  refine r_SH_addTo Sh hs D.1.1.2.2.2 hn I4 (fun u m e4 e5 => H u m ⟨⟨⟨?_, fun e he => ?_, fun e he j hj => ?_⟩, fun g hg => ?_⟩, ?_, fun j hj => ?_⟩)
  · have f := (m.2 h (by simp [fg_pS4])).1
    exact ⟨(f 0).trans D.1.1.1, (f 1).trans D.1.1.2.1, (f 2).trans D.1.1.2.2.1, (f 3).trans D.1.1.2.2.2⟩
  · rw [e4, if_neg (by omega)]
    exact D.1.2.1 e he
  · rw [e5, if_neg (by omega)]
    exact D.1.2.2 e he j hj
  · exact ⟨((m.2 (h + 1) (by simp [fg_pS4])).2 g).trans (D.2 g hg).1, ((m.2 (h + 2) (by simp [fg_pS4])).2 g).trans (D.2 g hg).2.1, ((m.2 (h + 3) (by simp [fg_pS4])).2 g).trans (D.2 g hg).2.2⟩
  · rw [e4, if_pos rfl]
  · rw [e5]
    show _ = if j < n + 1 then nI (if j = n then v else r j) else -1
    by_cases e : j = n
    · rw [if_pos (by omega), if_pos (by omega), if_pos e]
    · rw [if_neg (by omega), I5 j hj, if_neg e]
      by_cases e2 : j < n
      · rw [if_pos e2, if_pos (by omega)]
      · rw [if_neg e2, if_neg (by omega)]
theorem l_SG_ok (Sh : h = 3 ∨ h = 9) (ok : fg_Sok S) (hs : fg_zs S.1 < 10) : ∀ m n r p (τ : fg_St), n + m = 4 → fg_sm (fg_pD h) σ τ → fg_IP τ h S n r → fg_TS τ T p 0 (-1) → (∀ u, fg_sm (fg_pD h) σ u → (match fg_sge T (fg_zf S.1) m n r p with
    | .error x => fg_TE u T (.error x)
    | .ok a => fg_TS u T a.2 0 (-1) ∧ fg_DS u h (fg_adS S a.1.1 a.1.2)) → Q 0 u) → fg_Run (d + 2) 51 45 [some (.ref 1), some (.ref h), some (.int (nI n))] [] τ Q := by
  have z10 := ok.1.1.2.2.1
  have p5 := fg_pT5 Sh
  have p1 := fg_pS1 Sh
  have fin : ∀ n r p τ, fg_sm (fg_pD h) σ τ → fg_IP τ h S n r → fg_TS τ T p 0 (-1) → (∀ u, fg_sm (fg_pD h) σ u → (match (match fg_psc T 59 p with
      | .error e => .error e
      | .ok q => .ok ((n, r), q) : fg_Ex ((Nat × (Nat → Nat)) × Nat)) with
    | .error x => fg_TE u T (.error x)
    | .ok a => fg_TS u T a.2 0 (-1) ∧ fg_DS u h (fg_adS S a.1.1 a.1.2)) → Q 0 u) → (∃ P, fg_Run (d + 1) 52 0 [some (.ref 1), some (.int 59)] [] τ P ∧ ∀ x1 u2, P x1 u2 → ((¬ (fg_F u2 1 3) = 0 → Q 0 u2) ∧ ((fg_F u2 1 3) = 0 → (∃ P, fg_Run (d + 1) 41 0 [some (.ref h)] [] u2 P ∧ ∀ x3 u4, P x3 u4 → Q 0 u4)))) := fun n r p τ m1 I t H => by
    refine fg_use (r_TX_pass (c := 59) (e := .ok p) (by decide) t (fun u m2 t2 => ?_))
    change fg_TE u T (fg_psc T 59 p) at t2
    cases hC : fg_psc T 59 p with
    | error e =>
      rw [hC] at t2 H
      exact ⟨fun _ => H u (m1.tr (m2.wk fg_pTD)) t2, fun q => absurd q (fg_TE.ne t2)⟩
    | ok q =>
      rw [hC] at t2 H
      have t2 : fg_TS u T q 0 (-1) := t2
      refine ⟨fun x => absurd t2.2.2.1 x, fun _ => fg_use (r_SH_end Sh (I.sm m2 p5) hs (fun u3 m3 D3 => H u3 ((m1.tr (m2.wk fg_pTD)).tr (m3.wk (fun g hg => ?_))) ⟨t2.sm m3 (by simp; omega) (by simp; omega), D3⟩))⟩
      simp [fg_pD] at hg
      simp
      omega
  intro m
  induction m with
  | zero =>
    intro n r p τ hi m1 I t H
    have hi : n = 4 := by omega
    subst hi
    refine b_TX_parseSignal_45 Sh ⟨fun _ => fin 4 r p τ m1 I t (fun u m hu => H u m ?_), fun q => absurd (nI_le (a := 4) (by omega) (by omega)) q⟩
    rw [fg_sge, fg_sgl]
    exact hu
  | succ m ih =>
    intro n r p τ hi m1 I t H
    have sb := fg_skp_le _ p rfl t.2.1.1
    refine b_TX_parseSignal_45 Sh ⟨fun q => absurd q (nI_ge (b := 4) (by omega) (by decide)), fun _ => ?_⟩
    refine fg_use (r_TX_next t (fun u2 m2 h2 => ⟨fun q => ?_, fun q => ?_⟩))
    · refine fin n r (fg_skp T p) u2 (m1.tr (m2.wk fg_pTD)) (I.sm m2 p5) h2 (fun u m hu => H u m ?_)
      rw [fg_sge, fg_sgl, if_neg q]
      exact hu
    · have eP : fg_psc T 44 (fg_skp T p) = .ok (fg_skp T p + 1) := by
        unfold fg_psc
        rw [fg_skp_i _ p rfl]
        exact if_pos q
      refine fg_use (r_TX_pass (c := 44) (e := .ok (fg_skp T p)) (by decide) h2 (fun u3 m3 t3 => ?_))
      change fg_TE u3 T (fg_psc T 44 (fg_skp T p)) at t3
      rw [eP] at t3
      have I3 := I.sm (m2.tr m3) p5
      rw [I3.1.1.1.2.2.1]
      refine fg_use (r_TX_number (lo := 0) (hi := fg_zf S.1) (e := .ok (fg_skp T p + 1)) (by decide) (fg_hif z10) t3 (fun u4 x m4 t4 v4 => ?_))
      change fg_TE u4 T ((fg_nmb T 0 (fg_zf S.1) (fg_skp T p + 1)).map (fun q => q.2)) at t4
      change ∀ v q, fg_nmb T 0 (fg_zf S.1) (fg_skp T p + 1) = .ok (v, q) → x = nI v at v4
      have I4 := I3.sm m4 p5
      have M := (m1.tr (((m2.tr m3).tr m4).wk fg_pTD))
      rw [nI_1]
      cases hA : fg_nmb T 0 (fg_zf S.1) (fg_skp T p + 1) with
      | error e =>
        rw [hA] at t4
        refine fg_use (r_SH_addToE Sh (I4.ie (by omega) (by omega)) (fun u5 m5 I5 => ?_))
        refine l_SG_err (e := e) Sh (fun u m hu => H u m ?_) m (n + 1) u5 (by omega) (M.tr (m5.wk fg_pS4D)) (fg_TE.sm (e := .error e) t4 m5 p1.1 p1.2) I5
        rw [fg_sge, fg_sgl, if_pos q, hA]
        exact hu
      | ok a =>
        rw [hA] at t4
        have t4 : fg_TS u4 T a.2 0 (-1) := t4
        rw [v4 a.1 a.2 hA]
        refine fg_use (l_IP_add Sh I4 hs (by omega) (fun u5 m5 I5 => ?_))
        refine ih (n + 1) _ a.2 u5 (by omega) (M.tr (m5.wk fg_pS4D)) I5 (t4.sm m5 p1.1 p1.2) (fun u m hu => H u m ?_)
        rw [fg_sge, fg_sgl, if_pos q, hA]
        exact hu
theorem r_TX_parseSignal (Sh : h = 3 ∨ h = 9) (D : fg_DS σ h S) (ok : fg_Sok S) (t : fg_TS σ T p 0 (-1)) (hp : fg_skp T p = p) (hl : fg_let T p = 101) (H : ∀ u, fg_sm (fg_pD h) σ u → (match fg_cla T S p with
    | .error x => fg_TE u T (.error x)
    | .ok a => fg_TS u T a.2 0 (-1) ∧ fg_DS u h a.1) → Q 0 u) : fg_Run (d + 2) 51 0 [some (.ref 1), some (.ref h), none] [] σ Q := by
  have z10 := ok.1.1.2.2.1
  have s10 := ok.1.1.2.2.2
  have p5 := fg_pT5 Sh
  have p1 := fg_pS1 Sh
  have c10 : nI (fg_zs S.1) < 10 ↔ fg_zs S.1 < 10 := nI_ltI (b := 10) (by omega) (by decide)
  have eP : fg_psc T 101 p = .ok (p + 1) := by
    unfold fg_psc
    rw [hp]
    exact if_pos hl
  have n2 : ¬ fg_let T p = 102 := by rw [hl]; decide
  refine b_TX_parseSignal_0 Sh ?_
  rw [D.1.1.2.2.2, t.2.1.2, c10]
  refine ⟨fun q => fg_use (r_TX_pass (c := 101) (e := .ok p) (by decide) t (fun u1 m1 t1 => ?_)), fun q => fg_use (r_TX_blame0 t (k := 3) (fun u1 m1 t1 => ?_))⟩
  · change fg_TE u1 T (fg_psc T 101 p) at t1
    rw [eP] at t1
    have t1 : fg_TS u1 T (p + 1) 0 (-1) := t1
    have D1 := D.sm m1 p5
    have eC : fg_cla T S p = match fg_sig T (fg_zf S.1) (p + 1) with
      | .error e => .error e
      | .ok a => .ok (fg_adS S a.1.1 a.1.2, a.2) := by
      rw [fg_cla, if_neg n2, if_pos hl, if_neg (by omega)]
      rfl
    rw [eC] at H
    refine fg_use (r_SH_start Sh q D1.1.1.2.2.2 (fun u2 m2 e4 e5 => ?_))
    have I2 : fg_IP u2 h S 0 (fun _ => 0) := by
      refine ⟨⟨⟨?_, fun e he => ?_, fun e he j hj => ?_⟩, fun g hg => ?_⟩, ?_, fun j hj => ?_⟩
      · have f := (m2.2 h (by simp [fg_pS4])).1
        exact ⟨(f 0).trans D1.1.1.1, (f 1).trans D1.1.1.2.1, (f 2).trans D1.1.1.2.2.1, (f 3).trans D1.1.1.2.2.2⟩
      · rw [e4, if_neg (by omega)]
        exact D1.1.2.1 e he
      · rw [e5, if_neg (by omega)]
        exact D1.1.2.2 e he j hj
      · exact ⟨((m2.2 (h + 1) (by simp [fg_pS4])).2 g).trans (D1.2 g hg).1, ((m2.2 (h + 2) (by simp [fg_pS4])).2 g).trans (D1.2 g hg).2.1, ((m2.2 (h + 3) (by simp [fg_pS4])).2 g).trans (D1.2 g hg).2.2⟩
      · rw [e4, if_pos rfl]
        rfl
      · rw [e5, if_pos (by omega), if_neg (by omega)]
    have t2 := t1.sm m2 p1.1 p1.2
    rw [I2.1.1.1.2.2.1]
    refine fg_use (r_TX_number (lo := 0) (hi := fg_zf S.1) (e := .ok (p + 1)) (by decide) (fg_hif z10) t2 (fun u4 x m4 t4 v4 => ?_))
    change fg_TE u4 T ((fg_nmb T 0 (fg_zf S.1) (p + 1)).map (fun q => q.2)) at t4
    change ∀ v q, fg_nmb T 0 (fg_zf S.1) (p + 1) = .ok (v, q) → x = nI v at v4
    have I4 := I2.sm m4 p5
    have M := ((m1.wk (fg_pTD (h := h))).tr (m2.wk fg_pS4D)).tr (m4.wk fg_pTD)
    cases hA : fg_nmb T 0 (fg_zf S.1) (p + 1) with
    | error e =>
      rw [hA] at t4
      refine fg_use (r_SH_addToE Sh (I4.ie (by omega) (by omega)) (fun u5 m5 I5 => ?_))
      refine l_SG_err (e := e) Sh (fun u m hu => H u m ?_) 3 1 u5 (by omega) (M.tr (m5.wk fg_pS4D)) (fg_TE.sm (e := .error e) t4 m5 p1.1 p1.2) I5
      rw [fg_sig, hA]
      exact hu
    | ok a =>
      rw [hA] at t4
      have t4 : fg_TS u4 T a.2 0 (-1) := t4
      rw [v4 a.1 a.2 hA]
      refine fg_use (l_IP_add Sh I4 q (by omega) (fun u5 m5 I5 => ?_))
      have I5' : fg_IP u5 h S 1 (fun _ => a.1) := ⟨I5.1, I5.2.1, fun j hj => by
        rw [I5.2.2 j hj]
        by_cases e : j < 0 + 1
        · rw [if_pos e, if_pos (by omega)]
          show nI (if j = 0 then a.1 else 0) = nI a.1
          rw [if_pos (by omega)]
        · rw [if_neg e, if_neg (by omega)]⟩
      refine l_SG_ok Sh ok q 3 1 _ a.2 u5 (by omega) (M.tr (m5.wk fg_pS4D)) I5' (t4.sm m5 p1.1 p1.2) (fun u m hu => H u m ?_)
      rw [fg_sig, hA]
      simp only
      cases hB : fg_sge T (fg_zf S.1) 3 1 (fun _ => a.1) a.2 with
      | error e =>
        rw [hB] at hu
        exact hu
      | ok b =>
        rw [hB] at hu
        exact hu
  · have z : fg_zs S.1 = 10 := by omega
    have e2 : fg_cla T S p = .error (3, p) := by rw [fg_cla, if_neg n2, if_pos hl, if_pos z]
    rw [e2] at H
    have te : fg_TE u1 T (.error (3, p)) := ⟨by simp, p, t1⟩
    have IE : fg_IE u1 h := ⟨fg_zs S.1, s10, ((m1.2 h (p5 h (by omega) (by omega))).1 3).trans D.1.1.2.2.2, fun x => absurd x (by omega)⟩
    refine fg_use (r_TX_pass (c := 101) (e := .error (3, p)) (by decide) te (fun u2 m2 t2 => fg_use (r_SH_startE Sh (IE.sm m2 p5) (fun u3 m3 I3 => ?_))))
    have t3 : fg_TE u3 T (.error (3, p)) := fg_TE.sm (e := .error (3, p)) t2 m3 p1.1 p1.2
    obtain ⟨hn3, p3, hp3⟩ := id t3
    refine fg_use (b_TX_parseNumber_0 ⟨fun x => absurd (hp3.2.2.1.symm.trans x) (nI_ne0 (by simp) (by simp)), fun _ => fg_use (r_SH_addToE Sh I3 (fun u4 m4 I4 => ?_))⟩)
    exact l_SG_err (e := (3, p)) Sh (fun u m hu => H u m hu) 3 1 u4 (by omega) ((((m1.wk fg_pTD).tr (m2.wk fg_pTD)).tr (m3.wk fg_pS4D)).tr (m4.wk fg_pS4D)) (fg_TE.sm (e := .error (3, p)) t3 m4 p1.1 p1.2) I4
end
