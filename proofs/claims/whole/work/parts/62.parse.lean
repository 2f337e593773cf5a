/-! WHAT THE TEXT SAYS; the class's clauses of lines and flags -/
abbrev fg_PS : Type := fg_Z × (Nat → Nat × Nat × Nat)
def fg_lin (T : fg_GT) (p : Nat) : fg_Ex (Nat × Nat × Nat) := match fg_nmb T 1 4 p with
  | .error e => .error e
  | .ok a => match fg_nmb T 0 4 a.2 with
    | .error e => .error e
    | .ok b => match fg_psc T 59 b.2 with
      | .error e => .error e
      | .ok q => .ok (a.1, b.1, q)
def fg_flg (T : fg_GT) (p : Nat) : fg_Ex ((Nat × Nat × Nat) × Nat) := match fg_nmb T 0 4 p with
  | .error e => .error e
  | .ok a => match fg_nmb T 0 5 a.2 with
    | .error e => .error e
    | .ok b => match fg_nmb T 0 5 b.2 with
      | .error e => .error e
      | .ok c => match fg_psc T 59 c.2 with
        | .error e => .error e
        | .ok q => .ok ((a.1, b.1, c.1), q)
def fg_sgl (T : fg_GT) (f : Nat) : Nat → Nat → (Nat → Nat) → Nat → fg_Ex (Nat × (Nat → Nat) × Nat)
  | 0, n, r, p => .ok (n, r, p)
  | m + 1, n, r, p => if fg_let T (fg_skp T p) = 44 then (match fg_nmb T 0 f (fg_skp T p + 1) with
    | .error e => .error e
    | .ok a => fg_sgl T f m (n + 1) (fun j => if j = n then a.1 else r j) a.2) else .ok (n, r, fg_skp T p)
def fg_sge (T : fg_GT) (f m n : Nat) (r : Nat → Nat) (p : Nat) : fg_Ex ((Nat × (Nat → Nat)) × Nat) := match fg_sgl T f m n r p with
  | .error e => .error e
  | .ok b => match fg_psc T 59 b.2.2 with
    | .error e => .error e
    | .ok q => .ok ((b.1, b.2.1), q)
def fg_sig (T : fg_GT) (f p : Nat) : fg_Ex ((Nat × (Nat → Nat)) × Nat) := match fg_nmb T 0 f p with
  | .error e => .error e
  | .ok a => fg_sge T f 3 1 (fun _ => a.1) a.2
def fg_adF (S : fg_PS) (k : Nat × Nat × Nat) : fg_PS := ((fg_zH S.1, fg_zN S.1, fg_zf S.1 + 1, fg_zs S.1, S.1.2.2.2.2.1, S.1.2.2.2.2.2), fun g => if g = fg_zf S.1 then k else S.2 g)
def fg_adS (S : fg_PS) (n : Nat) (r : Nat → Nat) : fg_PS := ((fg_zH S.1, fg_zN S.1, fg_zf S.1, fg_zs S.1 + 1, (fun e => if e = fg_zs S.1 then n else fg_zl S.1 e), fun e j => if e = fg_zs S.1 then r j else fg_zr S.1 e j), S.2)
def fg_cla (T : fg_GT) (S : fg_PS) (p : Nat) : fg_Ex (fg_PS × Nat) := if fg_let T p = 102 then (if fg_zf S.1 = 10 then .error (3, p) else match fg_flg T (p + 1) with
    | .error e => .error e
    | .ok a => .ok (fg_adF S a.1, a.2))
  else if fg_let T p = 101 then (if fg_zs S.1 = 10 then .error (3, p) else match fg_sig T (fg_zf S.1) (p + 1) with
    | .error e => .error e
    | .ok a => .ok (fg_adS S a.1.1 a.1.2, a.2))
  else if fg_let T p = 108 then .error (3, p) else .error (1, p)
def fg_all (T : fg_GT) : Nat → fg_PS → Nat → fg_Ex fg_PS
  | 0, S, _ => .ok S
  | m + 1, S, p => if fg_let T (fg_skp T p) = -1 then .ok S else match fg_cla T S (fg_skp T p) with
    | .error e => .error e
    | .ok a => fg_all T m a.1 a.2
def fg_S1 (a b : Nat) : fg_PS := ((a, b, 0, 0, (fun _ => 0), fun _ _ => 0), fun _ => (0, 0, 0))
def fg_lnE (T : fg_GT) (p : Nat) : fg_Ex (Nat × Nat × Nat) := if fg_let T p = 108 then fg_lin T (p + 1) else .error (1, p)
def fg_prs (T : fg_GT) : fg_Ex fg_PS := if fg_let T (fg_skp T 0) = -1 then .ok (fg_S1 0 0) else match fg_lnE T (fg_skp T 0) with
  | .error e => .error e
  | .ok a => fg_all T 240 (fg_S1 a.1 a.2.1) a.2.2
def fg_Sok (S : fg_PS) : Prop := fg_Zok S.1 ∧ ∀ g, g < fg_zf S.1 → (S.2 g).1 ≤ 3 ∧ (S.2 g).2.1 ≤ 4 ∧ (S.2 g).2.2 ≤ 4
theorem fg_nmb_in {T : fg_GT} {lo hi p : Nat} {a : Nat × Nat} (h : fg_nmb T lo hi p = .ok a) : lo ≤ a.1 ∧ a.1 < hi := by
  unfold fg_nmb at h
  split at h
  · cases h
  · split at h
    · cases h
    · split at h
      · rename_i q
        cases h
        exact q
      · cases h
theorem fg_S1_ok {a b : Nat} (h1 : 1 ≤ a) (h2 : a ≤ 3) (h3 : b ≤ 3) : fg_Sok (fg_S1 a b) := by
  refine ⟨⟨⟨h2, h3, Nat.zero_le _, Nat.zero_le _⟩, fun e he => absurd he (Nat.not_lt_zero _), fun e he => absurd he (Nat.not_lt_zero _), fun q => ?_⟩, fun g hg => absurd hg (Nat.not_lt_zero _)⟩
  have q : a = 0 := q
  omega
theorem fg_S1_ok0 : fg_Sok (fg_S1 0 0) := ⟨⟨⟨Nat.zero_le _, Nat.zero_le _, Nat.zero_le _, Nat.zero_le _⟩, fun e he => absurd he (Nat.not_lt_zero _), fun e he => absurd he (Nat.not_lt_zero _), fun q => ⟨rfl, rfl, rfl⟩⟩, fun g hg => absurd hg (Nat.not_lt_zero _)⟩
theorem fg_adF_ok {S : fg_PS} {k : Nat × Nat × Nat} (h : fg_Sok S) (hH : 1 ≤ fg_zH S.1) (hf : fg_zf S.1 < 10) (h1 : k.1 ≤ 3) (h2 : k.2.1 ≤ 4) (h3 : k.2.2 ≤ 4) : fg_Sok (fg_adF S k) := by
  obtain ⟨⟨⟨z1, z2, z3, z4⟩, z5, z6, z7⟩, z8⟩ := h
  refine ⟨⟨⟨z1, z2, by show fg_zf S.1 + 1 ≤ 10; omega, z4⟩, z5, fun e he j hj => ?_, fun q => ?_⟩, fun g hg => ?_⟩
  · have := z6 e he j hj
    show fg_zr S.1 e j < fg_zf S.1 + 1
    omega
  · have q : fg_zH S.1 = 0 := q
    omega
  · have hg : g < fg_zf S.1 + 1 := hg
    show (if g = fg_zf S.1 then k else S.2 g).1 ≤ 3 ∧ (if g = fg_zf S.1 then k else S.2 g).2.1 ≤ 4 ∧ (if g = fg_zf S.1 then k else S.2 g).2.2 ≤ 4
    by_cases e : g = fg_zf S.1
    · rw [if_pos e]
      exact ⟨h1, h2, h3⟩
    · rw [if_neg e]
      exact z8 g (by omega)
theorem fg_adS_ok {S : fg_PS} {n : Nat} {r : Nat → Nat} (h : fg_Sok S) (hH : 1 ≤ fg_zH S.1) (hs : fg_zs S.1 < 10) (h1 : 1 ≤ n) (h2 : n ≤ 4) (h3 : ∀ j, j < n → r j < fg_zf S.1) : fg_Sok (fg_adS S n r) := by
  obtain ⟨⟨⟨z1, z2, z3, z4⟩, z5, z6, z7⟩, z8⟩ := h
  refine ⟨⟨⟨z1, z2, z3, by show fg_zs S.1 + 1 ≤ 10; omega⟩, fun e he => ?_, fun e he j hj => ?_, fun q => ?_⟩, z8⟩
  · have he : e < fg_zs S.1 + 1 := he
    show 1 ≤ (if e = fg_zs S.1 then n else fg_zl S.1 e) ∧ (if e = fg_zs S.1 then n else fg_zl S.1 e) ≤ 4
    by_cases e1 : e = fg_zs S.1
    · rw [if_pos e1]
      exact ⟨h1, h2⟩
    · rw [if_neg e1]
      exact z5 e (by omega)
  · have he : e < fg_zs S.1 + 1 := he
    have hj : j < (if e = fg_zs S.1 then n else fg_zl S.1 e) := hj
    show (if e = fg_zs S.1 then r j else fg_zr S.1 e j) < fg_zf S.1
    by_cases e1 : e = fg_zs S.1
    · rw [if_pos e1] at hj ⊢
      exact h3 j hj
    · rw [if_neg e1] at hj ⊢
      exact z6 e (by omega) j hj
  · have q : fg_zH S.1 = 0 := q
    omega
/-- the class's draft -/
def fg_DS (σ : fg_St) (h : Nat) (S : fg_PS) : Prop := fg_ShX σ h S.1 ∧ ∀ g, g < fg_zf S.1 → fg_R σ (h + 1) g = nI (S.2 g).1 ∧ fg_R σ (h + 2) g = nI (S.2 g).2.1 ∧ fg_R σ (h + 3) g = nI (S.2 g).2.2
def fg_pD (h g : Nat) : Bool := g == 1 || (decide (h ≤ g) && decide (g ≤ h + 5))
section
variable {d : Nat} {σ u : fg_St} {Q : Int32 → fg_St → Prop} {T : fg_GT} {p n h : Nat} {wa : Int32} {S : fg_PS}
theorem fg_DS.sm {P : Nat → Bool} (D : fg_DS σ h S) (m : fg_sm P σ u) (hp : ∀ g, h ≤ g → g ≤ h + 5 → P g = false) : fg_DS u h S :=
  ⟨D.1.sm m (hp _ (by omega) (by omega)) (hp _ (by omega) (by omega)) (hp _ (by omega) (by omega)), fun g hg => ⟨((m.2 _ (hp _ (by omega) (by omega))).2 g).trans (D.2 g hg).1, ((m.2 _ (hp _ (by omega) (by omega))).2 g).trans (D.2 g hg).2.1, ((m.2 _ (hp _ (by omega) (by omega))).2 g).trans (D.2 g hg).2.2⟩⟩
theorem fg_pTD {h : Nat} : ∀ g, fg_pD h g = false → fg_pT g = false := by
  intro g hg
  simp only [fg_pD, Bool.or_eq_false_iff] at hg
  exact hg.1
theorem fg_pD_1 : fg_pD h 1 = true := rfl
theorem fg_pD_h {g : Nat} (h1 : h ≤ g) (h2 : g ≤ h + 5) : fg_pD h g = true := by
  simp [fg_pD, h1, h2]
theorem fg_TS.sm {P : Nat → Bool} (t : fg_TS σ T p n wa) (m : fg_sm P σ u) (h1 : P 1 = false) (h2 : P 2 = false) : fg_TS u T p n wa :=
  ⟨t.1.sm m h1 h2, ⟨t.2.1.1, ((m.2 1 h1).1 2).trans t.2.1.2⟩, ((m.2 1 h1).1 3).trans t.2.2.1, ((m.2 1 h1).1 4).trans t.2.2.2⟩
theorem fg_TE.ne {e : Nat × Nat} (t : fg_TE u T (.error e)) : ¬ fg_F u 1 3 = 0 := by
  obtain ⟨hn, p, hp⟩ := t
  exact fun x => absurd (hp.2.2.1.symm.trans x) (nI_ne0 (by omega) (by omega))
theorem fg_hic (n : Nat) (hn : n < 999) : ∀ v, v ≤ 999 → (nI v ≤ nI n ↔ v < n + 1) := fun v hv => by
  rw [nI_leI (by omega) (by omega)]
  omega
theorem fg_hif {z : Nat} (hz : z ≤ 10) : ∀ v, v ≤ 999 → (nI v ≤ nI z - 1 ↔ v < z) := fun v hv => by
  rw [fg_le', fg_sub1 (by omega), nI_toInt (by omega)]
  omega
theorem r_TX_parseLines (Sh : h = 3 ∨ h = 9) (t : fg_TS σ T p 0 (-1)) (hp : fg_skp T p = p) (H : ∀ u, fg_sm (fg_pD h) σ u → (match fg_lnE T p with
    | .error e => fg_TE u T (.error e)
    | .ok a => fg_TS u T a.2.2 0 (-1) ∧ (fg_F u h 0 = nI a.1 ∧ fg_F u h 1 = nI a.2.1 ∧ fg_F u h 2 = fg_F σ h 2 ∧ fg_F u h 3 = fg_F σ h 3)) → Q 0 u) : fg_Run (d + 2) 48 0 [some (.ref 1), some (.ref h), none, none] [] σ Q := by
  refine b_TX_parseLines_0 Sh (fg_use (r_TX_pass (c := 108) (e := .ok p) (by decide) t (fun u1 m1 h1 => fg_use (r_TX_number (lo := 1) (hi := 4) (y2 := 3) (by decide) (fg_hic 3 (by decide)) h1 (fun u2 x m2 h2 v2 => fg_use (r_TX_number (lo := 0) (hi := 4) (y2 := 3) (by decide) (fg_hic 3 (by decide)) h2 (fun u3 y m3 h3 v3 => fg_use (r_TX_pass (c := 59) (by decide) h3 (fun u4 m4 h4 => ?_)))))))))
  have M := (((m1.tr m2).tr m3).tr m4)
  have eP : fg_psc T 108 p = if fg_let T p = 108 then .ok (p + 1) else .error (1, p) := by
    unfold fg_psc
    rw [hp]
    rfl
  change fg_TE u4 T (((((((fg_psc T 108 p).bind (fg_nmb T 1 4)).map (fun q => q.2)).bind (fg_nmb T 0 4)).map (fun q => q.2)).bind (fg_psc T 59))) at h4
  change ∀ v q, (fg_psc T 108 p).bind (fg_nmb T 1 4) = .ok (v, q) → x = nI v at v2
  change ∀ v q, (((fg_psc T 108 p).bind (fg_nmb T 1 4)).map (fun q => q.2)).bind (fg_nmb T 0 4) = .ok (v, q) → y = nI v at v3
  rw [eP] at h4 v2 v3
  have err : ∀ e, fg_lnE T p = .error e → fg_TE u4 T (.error e) → ((¬ fg_F u4 1 3 = 0 → Q 0 u4) ∧ (fg_F u4 1 3 = 0 → Q 0 (fg_sF (fg_sF u4 h 0 x) h 1 y))) := fun e he te => ⟨fun _ => H u4 (M.wk fg_pTD) (by rw [he]; exact te), fun q => absurd q te.ne⟩
  by_cases l : fg_let T p = 108
  · rw [if_pos l] at h4 v2 v3
    have eL : fg_lnE T p = fg_lin T (p + 1) := if_pos l
    change fg_TE u4 T ((((((fg_nmb T 1 4 (p + 1)).map (fun q => q.2)).bind (fg_nmb T 0 4)).map (fun q => q.2)).bind (fg_psc T 59))) at h4
    change ∀ v q, fg_nmb T 1 4 (p + 1) = .ok (v, q) → x = nI v at v2
    change ∀ v q, ((fg_nmb T 1 4 (p + 1)).map (fun q => q.2)).bind (fg_nmb T 0 4) = .ok (v, q) → y = nI v at v3
    cases hA : fg_nmb T 1 4 (p + 1) with
    | error e =>
      rw [hA] at h4
      exact err e (by rw [eL, fg_lin, hA]) h4
    | ok a =>
      rw [hA] at h4 v3
      change fg_TE u4 T (((((fg_nmb T 0 4 a.2)).map (fun q => q.2)).bind (fg_psc T 59))) at h4
      change ∀ v q, fg_nmb T 0 4 a.2 = .ok (v, q) → y = nI v at v3
      have v2 := v2 a.1 a.2 hA
      cases hB : fg_nmb T 0 4 a.2 with
      | error e =>
        rw [hB] at h4
        exact err e (by rw [eL, fg_lin, hA]; simp only [hB]) h4
      | ok b =>
        rw [hB] at h4
        change fg_TE u4 T (fg_psc T 59 b.2) at h4
        have v3 := v3 b.1 b.2 hB
        cases hC : fg_psc T 59 b.2 with
        | error e =>
          rw [hC] at h4
          exact err e (by rw [eL, fg_lin, hA]; simp only [hB, hC]) h4
        | ok c =>
          rw [hC] at h4
          have t4 : fg_TS u4 T c 0 (-1) := h4
          refine ⟨fun q => absurd t4.2.2.1 q, fun _ => H _ ((M.wk fg_pTD).tr ((fg_sm_F (fg_pD_h (by omega) (by omega))).tr (fg_sm_F (fg_pD_h (by omega) (by omega))))) ?_⟩
          have eR : fg_lnE T p = .ok (a.1, b.1, c) := by rw [eL, fg_lin, hA]; simp only [hB, hC]
          rw [eR]
          have mm : fg_sm (fun g => decide (h ≤ g)) u4 (fg_sF (fg_sF u4 h 0 x) h 1 y) := (fg_sm_F (by simp)).tr (fg_sm_F (by simp))
          have k := (M.2 h (by simp [fg_pT]; omega)).1
          refine ⟨t4.sm mm (by simp; omega) (by simp; omega), ?_, ?_, ?_, ?_⟩
          · rw [fg_F_ne (by decide), fg_F_eq, v2]
          · rw [fg_F_eq, v3]
          · rw [fg_F_ne (by decide), fg_F_ne (by decide)]
            exact k 2
          · rw [fg_F_ne (by decide), fg_F_ne (by decide)]
            exact k 3
  · rw [if_neg l] at h4
    exact err (1, p) (if_neg l) h4
theorem r_SH_addFlag {a b c : Nat} (Sh : h = 3 ∨ h = 9) (D : fg_DS σ h S) (hf : fg_zf S.1 < 10) (H : ∀ u, fg_sm (fun g => decide (h ≤ g) && decide (g ≤ h + 5)) σ u → fg_DS u h (fg_adF S (a, b, c)) → Q 0 u) : fg_Run d 38 0 [some (.ref h), some (.int (nI a)), some (.int (nI b)), some (.int (nI c))] [] σ Q := by
  have e2 : fg_F σ h 2 = nI (fg_zf S.1) := D.1.1.2.2.1
  refine b_SH_addFlag_0 Sh ?_
  rw [e2, nI_clamp (by omega), nI_1]
  have vi : vp_in (nI (fg_zf S.1)) 10 := vp_in_nI hf (by decide)
  refine ⟨fun q => absurd q (nI_ge (b := 10) hf (by decide)), fun _ => ⟨vi, vi, vi, H _ ((((fg_sm_R (by simp)).tr (fg_sm_R (by simp))).tr (fg_sm_R (by simp))).tr (fg_sm_F (by simp))) ?_⟩⟩
  have rr : ∀ g j, fg_R (fg_sF (fg_sR (fg_sR (fg_sR σ (h + 1) (fg_zf S.1) (nI a)) (h + 2) (fg_zf S.1) (nI b)) (h + 3) (fg_zf S.1) (nI c)) h 2 (nI (fg_zf S.1 + 1))) g j = fg_R (fg_sR (fg_sR (fg_sR σ (h + 1) (fg_zf S.1) (nI a)) (h + 2) (fg_zf S.1) (nI b)) (h + 3) (fg_zf S.1) (nI c)) g j := fun _ _ => rfl
  refine ⟨⟨⟨?_, ?_, ?_, ?_⟩, fun e he => ?_, fun e he j hj => ?_⟩, fun g hg => ?_⟩
  · exact (fg_F_ne (by decide)).trans D.1.1.1
  · exact (fg_F_ne (by decide)).trans D.1.1.2.1
  · exact fg_F_eq
  · exact (fg_F_ne (by decide)).trans D.1.1.2.2.2
  · rw [rr, fg_R_ne (by omega), fg_R_ne (by omega), fg_R_ne (by omega)]
    exact D.1.2.1 e he
  · rw [rr, fg_R_ne (by omega), fg_R_ne (by omega), fg_R_ne (by omega)]
    exact D.1.2.2 e he j hj
  · have hg : g < fg_zf S.1 + 1 := hg
    show _ = nI (if g = fg_zf S.1 then (a, b, c) else S.2 g).1 ∧ _ = nI (if g = fg_zf S.1 then (a, b, c) else S.2 g).2.1 ∧ _ = nI (if g = fg_zf S.1 then (a, b, c) else S.2 g).2.2
    rw [rr, rr, rr, fg_R_ne (a := h + 1) (by omega), fg_R_ne (a := h + 1) (by omega), fg_R_eq, fg_R_ne (a := h + 2) (by omega), fg_R_eq, fg_R_eq]
    by_cases e : g = fg_zf S.1
    · rw [if_pos e, e, fg_ut_s, fg_ut_s, fg_ut_s]
      exact ⟨rfl, rfl, rfl⟩
    · rw [if_neg e, fg_ut_n e, fg_ut_n e, fg_ut_n e, fg_R_ne (by omega), fg_R_ne (by omega), fg_R_ne (by omega)]
      exact D.2 g (by omega)
/-- a flag's clause: from where its letter is to be passed -/
def fg_flE (T : fg_GT) (e : fg_Ex Nat) : fg_Ex ((Nat × Nat × Nat) × Nat) := match e.bind (fg_psc T 102) with
  | .error x => .error x
  | .ok q => fg_flg T q
theorem l_TX_flag {e : fg_Ex Nat} (Sh : h = 3 ∨ h = 9) (D : fg_DS σ h S) (hf : (∃ q, e = .ok q) → fg_zf S.1 < 10) (t : fg_TE σ T e) (H : ∀ u, fg_sm (fg_pD h) σ u → (match fg_flE T e with
    | .error x => fg_TE u T (.error x)
    | .ok a => fg_TS u T a.2 0 (-1) ∧ fg_DS u h (fg_adF S a.1)) → Q 0 u) : (∃ P, fg_Run (d + 1) 52 0 [some (.ref 1), some (.int 102)] [] σ P ∧ ∀ x1 u2, P x1 u2 → (∃ P, fg_Run (d + 1) 53 0 [some (.ref 1), some (.int 0), some (.int 3), none, none] [] u2 P ∧ ∀ x3 u4, P x3 u4 → (∃ P, fg_Run (d + 1) 53 0 [some (.ref 1), some (.int 0), some (.int 4), none, none] [] u4 P ∧ ∀ x5 u6, P x5 u6 → (∃ P, fg_Run (d + 1) 53 0 [some (.ref 1), some (.int 0), some (.int 4), none, none] [] u6 P ∧ ∀ x7 u8, P x7 u8 → (∃ P, fg_Run (d + 1) 52 0 [some (.ref 1), some (.int 59)] [] u8 P ∧ ∀ x9 u10, P x9 u10 → ((¬ (fg_F u10 1 3) = 0 → Q 0 u10) ∧ ((fg_F u10 1 3) = 0 → (∃ P, fg_Run (d + 1) 38 0 [some (.ref h), some (.int x3), some (.int x5), some (.int x7)] [] u10 P ∧ ∀ x11 u12, P x11 u12 → Q 0 u12)))))))) := by
  refine fg_use (r_TX_pass (c := 102) (by decide) t (fun u1 m1 h1 => fg_use (r_TX_number (lo := 0) (hi := 4) (y2 := 3) (by decide) (fg_hic 3 (by decide)) h1 (fun u2 x m2 h2 v2 => fg_use (r_TX_number (lo := 0) (hi := 5) (y2 := 4) (by decide) (fg_hic 4 (by decide)) h2 (fun u3 y m3 h3 v3 => fg_use (r_TX_number (lo := 0) (hi := 5) (y2 := 4) (by decide) (fg_hic 4 (by decide)) h3 (fun u4 w m4 h4 v4 => fg_use (r_TX_pass (c := 59) (by decide) h4 (fun u5 m5 h5 => ?_))))))))))
  have M := ((((m1.tr m2).tr m3).tr m4).tr m5)
  have err : ∀ x', fg_flE T e = .error x' → fg_TE u5 T (.error x') → ((¬ fg_F u5 1 3 = 0 → Q 0 u5) ∧ (fg_F u5 1 3 = 0 → (∃ P, fg_Run (d + 1) 38 0 [some (.ref h), some (.int x), some (.int y), some (.int w)] [] u5 P ∧ ∀ x11 u12, P x11 u12 → Q 0 u12))) := fun x' he te => ⟨fun _ => H u5 (M.wk fg_pTD) (by rw [he]; exact te), fun q => absurd q te.ne⟩
  cases hE : e.bind (fg_psc T 102) with
  | error x' =>
    rw [hE] at h5
    exact err x' (by rw [fg_flE, hE]) h5
  | ok q0 =>
    have hok : ∃ q, e = .ok q := by
      cases e with
      | ok q => exact ⟨q, rfl⟩
      | error x => cases hE
    rw [hE] at h5 v2 v3 v4
    have eL : fg_flE T e = fg_flg T q0 := by rw [fg_flE, hE]
    change fg_TE u5 T ((((((((fg_nmb T 0 4 q0).map (fun q => q.2)).bind (fg_nmb T 0 5)).map (fun q => q.2)).bind (fg_nmb T 0 5)).map (fun q => q.2)).bind (fg_psc T 59))) at h5
    change ∀ v q, fg_nmb T 0 4 q0 = .ok (v, q) → x = nI v at v2
    change ∀ v q, ((fg_nmb T 0 4 q0).map (fun q => q.2)).bind (fg_nmb T 0 5) = .ok (v, q) → y = nI v at v3
    change ∀ v q, ((((fg_nmb T 0 4 q0).map (fun q => q.2)).bind (fg_nmb T 0 5)).map (fun q => q.2)).bind (fg_nmb T 0 5) = .ok (v, q) → w = nI v at v4
    cases hA : fg_nmb T 0 4 q0 with
    | error e =>
      rw [hA] at h5
      exact err e (by rw [eL, fg_flg, hA]) h5
    | ok a =>
      rw [hA] at h5 v3 v4
      change fg_TE u5 T ((((((fg_nmb T 0 5 a.2).map (fun q => q.2)).bind (fg_nmb T 0 5)).map (fun q => q.2)).bind (fg_psc T 59))) at h5
      change ∀ v q, fg_nmb T 0 5 a.2 = .ok (v, q) → y = nI v at v3
      change ∀ v q, ((fg_nmb T 0 5 a.2).map (fun q => q.2)).bind (fg_nmb T 0 5) = .ok (v, q) → w = nI v at v4
      have v2 := v2 a.1 a.2 hA
      cases hB : fg_nmb T 0 5 a.2 with
      | error e =>
        rw [hB] at h5
        exact err e (by rw [eL, fg_flg, hA]; simp only [hB]) h5
      | ok b =>
        rw [hB] at h5 v4
        change fg_TE u5 T (((fg_nmb T 0 5 b.2).map (fun q => q.2)).bind (fg_psc T 59)) at h5
        change ∀ v q, fg_nmb T 0 5 b.2 = .ok (v, q) → w = nI v at v4
        have v3 := v3 b.1 b.2 hB
        cases hC : fg_nmb T 0 5 b.2 with
        | error e =>
          rw [hC] at h5
          exact err e (by rw [eL, fg_flg, hA]; simp only [hB, hC]) h5
        | ok c =>
          rw [hC] at h5
          change fg_TE u5 T (fg_psc T 59 c.2) at h5
          have v4 := v4 c.1 c.2 hC
          cases hG : fg_psc T 59 c.2 with
          | error e =>
            rw [hG] at h5
            exact err e (by rw [eL, fg_flg, hA]; simp only [hB, hC, hG]) h5
          | ok q =>
            rw [hG] at h5
            have t5 : fg_TS u5 T q 0 (-1) := h5
            have eR : fg_flE T e = .ok ((a.1, b.1, c.1), q) := by rw [eL, fg_flg, hA]; simp only [hB, hC, hG]
            rw [eR] at H
            rw [v2, v3, v4]
            refine ⟨fun q => absurd t5.2.2.1 q, fun _ => fg_use (r_SH_addFlag Sh (D.sm M (fun g h1 h2 => by simp [fg_pT]; omega)) (hf hok) (fun u6 m6 D6 => H u6 ((M.wk fg_pTD).tr (m6.wk (fun g hg => ?_))) ⟨t5.sm m6 (by simp; omega) (by simp; omega), D6⟩))⟩
            simp only [fg_pD, Bool.or_eq_false_iff] at hg
            exact hg.2
theorem r_TX_parseFlag (Sh : h = 3 ∨ h = 9) (D : fg_DS σ h S) (ok : fg_Sok S) (t : fg_TS σ T p 0 (-1)) (hp : fg_skp T p = p) (hl : fg_let T p = 102) (H : ∀ u, fg_sm (fg_pD h) σ u → (match fg_cla T S p with
    | .error x => fg_TE u T (.error x)
    | .ok a => fg_TS u T a.2 0 (-1) ∧ fg_DS u h a.1) → Q 0 u) : fg_Run (d + 2) 50 0 [some (.ref 1), some (.ref h), none, none, none] [] σ Q := by
  have z10 := ok.1.1.2.2.1
  have c10 : nI (fg_zf S.1) < 10 ↔ fg_zf S.1 < 10 := nI_ltI (b := 10) (by omega) (by decide)
  have eP : fg_psc T 102 p = .ok (p + 1) := by
    unfold fg_psc
    rw [hp]
    exact if_pos hl
  refine b_TX_parseFlag_0 Sh ?_
  rw [D.1.1.2.2.1, t.2.1.2, c10]
  refine ⟨fun q => l_TX_flag (e := .ok p) Sh D (fun _ => q) t (fun u m hu => H u m ?_), fun q => fg_use (r_TX_blame0 t (k := 3) (fun u1 m1 h1 => ?_))⟩
  · have e1 : fg_flE T (.ok p) = fg_flg T (p + 1) := by
      have e0 : (Except.ok p : fg_Ex Nat).bind (fg_psc T 102) = .ok (p + 1) := eP
      rw [fg_flE, e0]
    have e2 : fg_cla T S p = match fg_flg T (p + 1) with
      | .error e => .error e
      | .ok a => .ok (fg_adF S a.1, a.2) := by rw [fg_cla, if_pos hl, if_neg (by omega)]
    rw [e1] at hu
    rw [e2]
    cases hq : fg_flg T (p + 1) with
    | error x =>
      rw [hq] at hu
      exact hu
    | ok a =>
      rw [hq] at hu
      exact hu
  · have z : fg_zf S.1 = 10 := by omega
    have e2 : fg_cla T S p = .error (3, p) := by rw [fg_cla, if_pos hl, if_pos z]
    rw [e2] at H
    refine l_TX_flag (e := .error (3, p)) Sh (D.sm m1 (fun g h1 h2 => by simp [fg_pT]; omega)) (fun ⟨q, hq⟩ => by cases hq) ⟨by simp, p, h1⟩ (fun u m hu => H u ((m1.wk fg_pTD).tr m) hu)
end
