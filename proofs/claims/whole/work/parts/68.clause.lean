/-! THE REFERENCE READS THE CLAUSES -/
def fg_RS (σ : fg_St) (S : fg_PS) : Prop := (fg_F σ 187 14 = nI (fg_zH S.1) ∧ fg_F σ 187 15 = nI (fg_zN S.1) ∧ fg_F σ 187 16 = nI (fg_zf S.1) ∧ fg_F σ 187 18 = nI (fg_zs S.1)) ∧ (∀ g, g < fg_zf S.1 → fg_R σ 193 g = nI (100 * (S.2 g).1 + 10 * (S.2 g).2.1 + (S.2 g).2.2)) ∧ (∀ e, e < fg_zs S.1 → fg_R σ 194 e = nI (fg_zl S.1 e)) ∧ ∀ e, e < fg_zs S.1 → ∀ j, j < fg_zl S.1 e → fg_R σ 195 (4 * e + j) = nI (fg_zr S.1 e j)
def fg_pF8 (k : Nat) : Bool := decide (11 ≤ k) && decide (k ≤ 18)
def fg_pV (g : Nat) : Bool := decide (193 ≤ g) && decide (g ≤ 195)
def fg_s8 (σ u : fg_St) : Prop := fg_sm fg_pN σ u ∧ fg_sn fg_pF8 fg_pV σ u
/-- behind a clause's numbers: a fault, or the semicolon is next -/
def fg_PT {α : Type} (u : fg_St) (T : fg_GT) (x : Int32) (G : α → Prop) (E : fg_Ex (α × Nat)) : Prop := (¬ x = 0 → ∃ e, E = .error e ∧ x = nI e.1 ∧ fg_ME u T e) ∧ (x = 0 → ∃ a q, fg_MS u T q ∧ G a ∧ E = (match fg_psc T 59 q with
  | .error e => .error e
  | .ok q' => .ok (a, q')))
section
variable {d : Nat} {σ u τ : fg_St} {Q : Int32 → fg_St → Prop} {T : fg_GT} {p n : Nat} {S : fg_PS}
theorem fg_s8.rf : fg_s8 σ σ := ⟨fg_sm.rfl', fg_sn.rf⟩
theorem fg_s8.tr (a : fg_s8 σ τ) (b : fg_s8 τ u) : fg_s8 σ u := ⟨a.1.tr b.1, a.2.tr b.2⟩
theorem fg_s3.to8 (a : fg_s3 σ u) : fg_s8 σ u := ⟨a.1, a.2.wk (fun k hk => by simp [fg_pF8] at hk; simp [fg_pt3]; omega) (fun _ _ => rfl)⟩
theorem fg_s8_F {k : Nat} {x : Int32} (h : fg_pF8 k = true) : fg_s8 σ (fg_sF σ 187 k x) := ⟨fg_sm_F (by decide), fg_sn_F h⟩
theorem fg_s8_R {g k : Nat} {x : Int32} (h : fg_pV g = true) (hn : fg_pN g = true) : fg_s8 σ (fg_sR σ g k x) := ⟨fg_sm_R hn, fg_sn_R h⟩
theorem fg_RS.s3 (h : fg_RS σ S) (m : fg_s3 σ u) : fg_RS u S := ⟨⟨(m.2.1 14 rfl).trans h.1.1, (m.2.1 15 rfl).trans h.1.2.1, (m.2.1 16 rfl).trans h.1.2.2.1, (m.2.1 18 rfl).trans h.1.2.2.2⟩, fun g hg => (m.2.2 193 rfl g).trans (h.2.1 g hg), fun e he => (m.2.2 194 rfl e).trans (h.2.2.1 e he), fun e he j hj => (m.2.2 195 rfl _).trans (h.2.2.2 e he j hj)⟩
theorem fg_TxM.s8 (t : fg_TxM σ T) (m : fg_s8 σ u) : fg_TxM u T := t.sn m.2 rfl rfl
theorem l_MO_tail {α : Type} {x : Int32} {G : fg_St → α → Prop} {E : fg_Ex (α × Nat)} (hG : ∀ u u' a, fg_s3 u u' → G u a → G u' a) (h : fg_PT u T x (G u) E) (H : ∀ u' y, fg_s3 u u' → (match E with
    | .ok a => (y = 0 ∧ fg_MS u' T a.2) ∧ G u' a.1
    | .error e => y = nI e.1 ∧ fg_ME u' T e) → Q y u') : ((¬ x = 0 → Q x (fg_sF u 187 12 ((fg_F u 187 12) + 1))) ∧ (x = 0 → (∃ P, fg_Run d 117 0 [some (.ref 187)] [] u P ∧ ∀ x7 u8, P x7 u8 → ((x7 = 59 → Q x (fg_sF u8 187 12 ((fg_F u8 187 12) + 1))) ∧ (¬ (x7 = 59) → (∃ P, fg_Run d 118 0 [some (.ref 187), some (.int 1), some (.int (fg_F u8 187 12))] [] u8 P ∧ ∀ x9 u10, P x9 u10 → Q x9 u10)))))) := by
  refine ⟨fun q => ?_, fun q => ?_⟩
  · obtain ⟨e, hE, hx, hM⟩ := h.1 q
    rw [hE] at H
    exact H _ x (fg_s3_F (by decide)) ⟨hx, hM.mv⟩
  · obtain ⟨a, q0, hS, hg, hE⟩ := h.2 q
    rw [hE] at H
    refine fg_use (r_MO_here hS (fun u2 m2 h2 => ⟨fun e => ?_, fun e => ?_⟩))
    · rw [h2.2.1.2, nI_1, q]
      have eP : fg_psc T 59 q0 = .ok (fg_skp T q0 + 1) := if_pos e
      rw [eP] at H
      have hl := (fg_let_lt (c := 59) (by decide) e).1
      have m3 : fg_s3 u2 (fg_sF u2 187 12 (nI (fg_skp T q0 + 1))) := fg_s3_F (by decide)
      exact H _ 0 (m2.tr m3) ⟨⟨rfl, h2.mv (by omega)⟩, hG _ _ _ (m2.tr m3) hg⟩
    · have eP : fg_psc T 59 q0 = .error (1, fg_skp T q0) := if_neg e
      rw [eP] at H
      rw [h2.2.1.2]
      exact fg_use (r_MO_fails (k := 1) h2.1 (by decide) (fun u3 m3 h3 => H u3 _ (m2.tr m3) ⟨rfl, h3⟩))
theorem fg_NR_0 {x : Int32} {E : fg_Ex (Nat × Nat)} (h : fg_NR u T x E) : (x ≤ 0 → ∃ a, E = .ok a ∧ x = 0 ∧ fg_MS u T a.2 ∧ fg_F u 187 13 = nI a.1) ∧ (¬ x ≤ 0 → ∃ e, E = .error e ∧ ¬ x = 0 ∧ x = nI e.1 ∧ fg_ME u T e) := by
  cases E with
  | ok a =>
    obtain ⟨⟨h1, h2⟩, h3⟩ := h
    exact ⟨fun _ => ⟨a, rfl, h1, h2, h3⟩, fun q => absurd (by rw [h1]; decide) q⟩
  | error e =>
    obtain ⟨h1, h2⟩ := h
    have hn := h2.1
    exact ⟨fun q => absurd q (by rw [h1]; exact nI_nle (by omega) (by omega)), fun _ => ⟨e, rfl, by rw [h1]; exact nI_ne0 (by omega) (by omega), h1, h2⟩⟩
theorem fg_mhc (n : Nat) (hn : n < 999) : ∀ v : Nat, v ≤ 999 → ((v : Int) ≤ (nI n).toInt ↔ v < n + 1) := fun v hv => by
  rw [nI_toInt (by omega)]
  omega
theorem fg_mhf {z : Nat} (hz : z ≤ 10) : ∀ v : Nat, v ≤ 999 → ((v : Int) ≤ (nI z - 1).toInt ↔ v < z) := fun v hv => by
  rw [fg_sub1 (by omega)]
  omega
/-- the reading of the lines' clause: what it leaves -/
def fg_GL (u : fg_St) (f16 f18 : Int32) (a : Nat × Nat) : Prop := fg_F u 187 14 = nI a.1 ∧ fg_F u 187 15 = nI a.2 ∧ fg_F u 187 16 = f16 ∧ fg_F u 187 18 = f18
def fg_li2 (T : fg_GT) (p : Nat) : fg_Ex ((Nat × Nat) × Nat) := match fg_lin T p with
  | .error e => .error e
  | .ok a => .ok ((a.1, a.2.1), a.2.2)
theorem r_MO_takeLines (t : fg_MS σ T p) (H : ∀ u x, fg_s8 σ u → fg_PT u T x (fg_GL u (fg_F σ 187 16) (fg_F σ 187 18)) (fg_li2 T p) → Q x u) : fg_Run (d + 2) 120 0 [some (.ref 187), none] [] σ Q := by
  refine b_MO_takeLines_0 (fg_use (r_MO_number (lo := 1) (hi := 4) (y2 := 3) (by decide) (fg_mhc 3 (by decide)) t (fun u1 x m1 h1 => ⟨fun q => ?_, fun q => ?_⟩)))
  · obtain ⟨a, hA, rfl, s1, v1⟩ := (fg_NR_0 h1).1 q
    rw [v1]
    have m2 : fg_s8 u1 (fg_sF u1 187 14 (nI a.1)) := fg_s8_F (by decide)
    have s2 : fg_MS (fg_sF u1 187 14 (nI a.1)) T a.2 := ⟨s1.1, s1.2.1, s1.2.2⟩
    refine fg_use (r_MO_number (lo := 0) (hi := 4) (y2 := 3) (by decide) (fg_mhc 3 (by decide)) s2 (fun u3 y m3 h3 => ?_))
    have m4 : fg_s8 u3 (fg_sF u3 187 15 (fg_F u3 187 13)) := fg_s8_F (by decide)
    refine H _ y (((m1.to8.tr m2).tr m3.to8).tr m4) ⟨fun n0 => ?_, fun y0 => ?_⟩
    · cases hB : fg_nmb T 0 4 a.2 with
      | ok b =>
        rw [hB] at h3
        exact absurd h3.1.1 n0
      | error e =>
        rw [hB] at h3
        refine ⟨e, ?_, h3.1, ⟨h3.2.1, h3.2.2.1, h3.2.2.2⟩⟩
        rw [fg_li2, fg_lin, hA]
        simp only [hB]
    · cases hB : fg_nmb T 0 4 a.2 with
      | ok b =>
        rw [hB] at h3
        obtain ⟨⟨_, s3⟩, v3⟩ := h3
        refine ⟨(a.1, b.1), b.2, ⟨s3.1, s3.2.1, s3.2.2⟩, ⟨?_, ?_, ?_, ?_⟩, ?_⟩
        · exact m3.2.1 14 rfl
        · show fg_F u3 187 13 = nI b.1
          exact v3
        · exact (m3.2.1 16 rfl).trans (m1.2.1 16 rfl)
        · exact (m3.2.1 18 rfl).trans (m1.2.1 18 rfl)
        · rw [fg_li2, fg_lin, hA]
          simp only [hB]
          cases fg_psc T 59 b.2 <;> rfl
      | error e =>
        rw [hB] at h3
        have hn := h3.2.1
        exact absurd (h3.1.symm.trans y0) (nI_ne0 (by omega) (by omega))
  · obtain ⟨e, hA, n0, hx, hM⟩ := (fg_NR_0 h1).2 q
    have m2 : fg_s8 u1 (fg_sF (fg_sF u1 187 14 (fg_F u1 187 13)) 187 15 (fg_F u1 187 13)) := (fg_s8_F (by decide)).tr (fg_s8_F (by decide))
    refine H _ x (m1.to8.tr m2) ⟨fun _ => ⟨e, ?_, hx, hM.1, hM.2.1, hM.2.2⟩, fun x0 => absurd x0 n0⟩
    rw [fg_li2, fg_lin, hA]
theorem fg_RS.add {a b c : Nat} (h : fg_RS σ S) (hz : fg_zf S.1 < 10) : fg_RS (fg_sF (fg_sR σ 193 (fg_zf S.1) (nI (100 * a + 10 * b + c))) 187 16 (nI (fg_zf S.1 + 1))) (fg_adF S (a, b, c)) := by
  obtain ⟨⟨f1, f2, f3, f4⟩, g1, g2, g3⟩ := h
  refine ⟨⟨f1, f2, rfl, f4⟩, fun g hg => ?_, fun e he => g2 e he, fun e he j hj => g3 e he j hj⟩
  have hg : g < fg_zf S.1 + 1 := hg
  show fg_R (fg_sR σ 193 (fg_zf S.1) (nI (100 * a + 10 * b + c))) 193 g = nI (100 * (if g = fg_zf S.1 then (a, b, c) else S.2 g).1 + 10 * (if g = fg_zf S.1 then (a, b, c) else S.2 g).2.1 + (if g = fg_zf S.1 then (a, b, c) else S.2 g).2.2)
  rw [fg_R_eq]
  by_cases e : g = fg_zf S.1
  · rw [if_pos e, e, fg_ut_s]
  · rw [if_neg e, fg_ut_n e]
    exact g1 g (by omega)
theorem r_MO_takeFlag (t : fg_MS σ T p) (r : fg_RS σ S) (hz : fg_zf S.1 < 10) (H : ∀ u x, fg_s8 σ u → fg_PT u T x (fun k => fg_RS u (fg_adF S k)) (fg_flg T p) → Q x u) : fg_Run (d + 2) 121 0 [some (.ref 187), none, none, none] [] σ Q := by
  have ep : ∀ a b c : Nat, 100 * nI a + 10 * nI b + nI c = nI (100 * a + 10 * b + c) := fun a b c => by
    rw [show (100 : Int32) = nI 100 from rfl, show (10 : Int32) = nI 10 from rfl, pk_mul, pk_mul, nI_add, nI_add]
  have vi : vp_in (nI (fg_zf S.1)) 10 := vp_in_nI hz (by decide)
  have bad : ∀ (u : fg_St) (x y : Int32) (e : Nat × Nat), fg_s3 σ u → fg_flg T p = .error e → ¬ x = 0 → x = nI e.1 → fg_ME u T e → (vp_in (fg_F u 187 16) 10 ∧ Q x (fg_sF (fg_sR u 193 ((fg_F u 187 16).toNatClampNeg) y) 187 16 ((fg_F u 187 16) + 1))) := fun u x y e m hE n0 hx hM => by
    have r2 := r.s3 m
    rw [r2.1.2.2.1]
    refine ⟨vi, H _ x (m.to8.tr ((fg_s8_R (by decide) (by decide)).tr (fg_s8_F (by decide)))) ⟨fun _ => ⟨e, hE, hx, hM.1, hM.2.1, hM.2.2⟩, fun x0 => absurd x0 n0⟩⟩
  refine b_MO_takeFlag_0 (fg_use (r_MO_number (lo := 0) (hi := 4) (y2 := 3) (by decide) (fg_mhc 3 (by decide)) t (fun u1 x m1 h1 => ⟨fun q => ?_, fun q => ⟨fun q2 => absurd q2 q, fun _ => ?_⟩⟩)))
  · obtain ⟨a, hA, rfl, s1, v1⟩ := (fg_NR_0 h1).1 q
    refine fg_use (r_MO_number (lo := 0) (hi := 5) (y2 := 4) (by decide) (fg_mhc 4 (by decide)) s1 (fun u2 x2 m2 h2 => ⟨fun q2 => ?_, fun q2 => ?_⟩))
    · obtain ⟨b, hB, rfl, s2, v2⟩ := (fg_NR_0 h2).1 q2
      refine fg_use (r_MO_number (lo := 0) (hi := 5) (y2 := 4) (by decide) (fg_mhc 4 (by decide)) s2 (fun u3 x3 m3 h3 => ?_))
      have M := (m1.tr m2).tr m3
      by_cases q3 : x3 ≤ 0
      · obtain ⟨c, hC, rfl, s3, v3⟩ := (fg_NR_0 h3).1 q3
        have r3 := r.s3 M
        rw [r3.1.2.2.1, v1, v2, v3, ep, nI_clamp (by omega), nI_1]
        refine ⟨vi, H _ 0 (M.to8.tr ((fg_s8_R (by decide) (by decide)).tr (fg_s8_F (by decide)))) ⟨fun n0 => absurd rfl n0, fun _ => ⟨(a.1, b.1, c.1), c.2, ⟨s3.1, s3.2.1, s3.2.2⟩, r3.add hz, ?_⟩⟩⟩
        rw [fg_flg, hA]
        simp only [hB, hC]
        cases fg_psc T 59 c.2 <;> rfl
      · obtain ⟨e, hC, n0, hx, hM⟩ := (fg_NR_0 h3).2 q3
        exact bad u3 x3 _ e M (by rw [fg_flg, hA]; simp only [hB, hC]) n0 hx hM
    · obtain ⟨e, hB, n0, hx, hM⟩ := (fg_NR_0 h2).2 q2
      exact bad u2 x2 _ e (m1.tr m2) (by rw [fg_flg, hA]; simp only [hB]) n0 hx hM
  · obtain ⟨e, hA, n0, hx, hM⟩ := (fg_NR_0 h1).2 q
    exact bad u1 x _ e m1 (by rw [fg_flg, hA]) n0 hx hM
/-- a signal that is being read -/
def fg_JP (σ : fg_St) (S : fg_PS) (n : Nat) (r : Nat → Nat) : Prop := fg_RS σ S ∧ ∀ j, j < n → fg_R σ 195 (4 * fg_zs S.1 + j) = nI (r j)
theorem fg_JP.s3 {r : Nat → Nat} (h : fg_JP σ S n r) (m : fg_s3 σ u) : fg_JP u S n r := ⟨h.1.s3 m, fun j hj => (m.2.2 195 rfl _).trans (h.2 j hj)⟩
theorem fg_JP.add {r : Nat → Nat} {v : Nat} (ok : fg_Sok S) (h : fg_JP σ S n r) : fg_JP (fg_sR σ 195 (4 * fg_zs S.1 + n) (nI v)) S (n + 1) (fun j => if j = n then v else r j) := by
  obtain ⟨⟨f, g1, g2, g3⟩, h2⟩ := h
  refine ⟨⟨f, fun g hg => (fg_R_ne (by decide)).trans (g1 g hg), fun e he => (fg_R_ne (by decide)).trans (g2 e he), fun e he j hj => ?_⟩, fun j hj => ?_⟩
  · have := ok.1.2.1 e he
    rw [fg_R_eq, fg_ut_n (by omega)]
    exact g3 e he j hj
  · show _ = nI (if j = n then v else r j)
    rw [fg_R_eq]
    by_cases e : j = n
    · rw [if_pos e, e, fg_ut_s]
    · rw [if_neg e, fg_ut_n (by omega)]
      exact h2 j (by omega)
theorem fg_JP.fin {r : Nat → Nat} (h : fg_JP σ S n r) : fg_RS (fg_sF (fg_sR σ 194 (fg_zs S.1) (nI n)) 187 18 (nI (fg_zs S.1 + 1))) (fg_adS S n r) := by
  obtain ⟨⟨⟨f1, f2, f3, f4⟩, g1, g2, g3⟩, h2⟩ := h
  refine ⟨⟨f1, f2, f3, rfl⟩, fun g hg => g1 g hg, fun e he => ?_, fun e he j hj => ?_⟩
  · have he : e < fg_zs S.1 + 1 := he
    show fg_R (fg_sR σ 194 (fg_zs S.1) (nI n)) 194 e = nI (if e = fg_zs S.1 then n else fg_zl S.1 e)
    rw [fg_R_eq]
    by_cases q : e = fg_zs S.1
    · rw [if_pos q, q, fg_ut_s]
    · rw [if_neg q, fg_ut_n q]
      exact g2 e (by omega)
  · have he : e < fg_zs S.1 + 1 := he
    have hj : j < (if e = fg_zs S.1 then n else fg_zl S.1 e) := hj
    show fg_R σ 195 (4 * e + j) = nI (if e = fg_zs S.1 then r j else fg_zr S.1 e j)
    by_cases q : e = fg_zs S.1
    · rw [if_pos q] at hj ⊢
      rw [q]
      exact h2 j hj
    · rw [if_neg q] at hj ⊢
      exact g3 e (by omega) j hj
theorem fg_psc_i : fg_psc T n (fg_skp T p) = fg_psc T n p := by
  unfold fg_psc
  rw [fg_skp_i _ p rfl]
theorem l_MO_signal (ok : fg_Sok S) (hs : fg_zs S.1 < 10) : ∀ m n r p (τ : fg_St), n + m = 4 → fg_s8 σ τ → fg_MS τ T p → fg_JP τ S n r → (∀ u x, fg_s8 σ u → fg_PT u T x (fun k : Nat × (Nat → Nat) => fg_RS u (fg_adS S k.1 k.2)) (fg_sge T (fg_zf S.1) m n r p) → Q x u) → fg_Run (d + 2) 122 29 [some (.ref 187), some (.int 0), some (.int (nI n))] [] τ Q := by
  have z10 := ok.1.1.2.2.1
  have vi : vp_in (nI (fg_zs S.1)) 10 := vp_in_nI hs (by decide)
  intro m
  induction m with
  | zero =>
    intro n r p τ hn m1 t J H
    have hn : n = 4 := by omega
    subst hn
    refine b_MO_takeSignal_29 ⟨fun q => absurd rfl q, fun _ => fg_use (r_MO_here t (fun u2 m2 h2 => ⟨fun q => ?_, fun q => ⟨fun q4 => absurd rfl q4, fun _ => ?_⟩⟩))⟩
    · have J2 := J.s3 m2
      rw [J2.1.1.2.2.2, nI_clamp (by omega), nI_1]
      refine ⟨vi, H _ 0 ((m1.tr m2.to8).tr ((fg_s8_R (by decide) (by decide)).tr (fg_s8_F (by decide)))) ⟨fun x => absurd rfl x, fun _ => ⟨(4, r), fg_skp T p, ⟨h2.1, h2.2.1, h2.2.2⟩, J2.fin, ?_⟩⟩⟩
      rw [fg_sge, fg_sgl, fg_psc_i]
      dsimp only
      cases fg_psc T 59 p <;> rfl
    · rw [h2.2.1.2]
      refine fg_use (r_MO_fails (k := 1) h2.1 (by decide) (fun u3 m3 h3 => H u3 _ ((m1.tr m2.to8).tr m3.to8) ⟨fun _ => ⟨(1, fg_skp T p), ?_, rfl, h3⟩, fun x => absurd x (by decide)⟩))
      have eP : fg_psc T 59 p = .error (1, fg_skp T p) := if_neg (by rw [q]; decide)
      rw [fg_sge, fg_sgl]
      simp only [eP]
  | succ m ih =>
    intro n r p τ hn m1 t J H
    refine b_MO_takeSignal_29 ⟨fun q => absurd rfl q, fun _ => fg_use (r_MO_here t (fun u2 m2 h2 => ⟨fun q => ?_, fun q => ⟨fun q4 => ?_, fun q4 => ?_⟩⟩))⟩
    · have J2 := J.s3 m2
      rw [J2.1.1.2.2.2, nI_clamp (by omega), nI_1]
      refine ⟨vi, H _ 0 ((m1.tr m2.to8).tr ((fg_s8_R (by decide) (by decide)).tr (fg_s8_F (by decide)))) ⟨fun x => absurd rfl x, fun _ => ⟨(n, r), fg_skp T p, ⟨h2.1, h2.2.1, h2.2.2⟩, J2.fin, ?_⟩⟩⟩
      rw [fg_sge, fg_sgl, if_neg q]
      dsimp only
      cases fg_psc T 59 (fg_skp T p) <;> rfl
    · have J2 := J.s3 m2
      have hl := (fg_let_lt (c := 44) (by decide) q).1
      rw [h2.2.1.2, nI_1, J2.1.1.2.2.1]
      have m3 : fg_s3 u2 (fg_sF u2 187 12 (nI (fg_skp T p + 1))) := fg_s3_F (by decide)
      refine fg_use (r_MO_number (lo := 0) (hi := fg_zf S.1) (by decide) (fg_mhf z10) (h2.mv (p' := fg_skp T p + 1) (by omega)) (fun u4 x m4 h4 => ?_))
      have J4 := (J2.s3 m3).s3 m4
      rw [J4.1.1.2.2.2, fg_4e, nI_clamp (by omega), nI_1]
      refine ⟨vp_in_nI (by omega) (by decide), ?_⟩
      have M := ((m1.tr m2.to8).tr m3.to8).tr m4.to8
      by_cases q3 : x ≤ 0
      · obtain ⟨a, hA, rfl, s4, v4⟩ := (fg_NR_0 h4).1 q3
        rw [v4]
        refine ih (n + 1) _ a.2 _ (by omega) (M.tr (fg_s8_R (by decide) (by decide))) ⟨s4.1, s4.2.1, s4.2.2⟩ (J4.add ok) (fun u x mu hu => H u x mu ?_)
        rw [fg_sge, fg_sgl, if_pos q, hA]
        exact hu
      · obtain ⟨e, hA, n0, hx, hM⟩ := (fg_NR_0 h4).2 q3
        refine b_MO_takeSignal_29 ⟨fun _ => ?_, fun x0 => absurd x0 n0⟩
        have f18 : fg_F (fg_sR u4 195 (4 * fg_zs S.1 + n) (fg_F u4 187 13)) 187 18 = nI (fg_zs S.1) := J4.1.1.2.2.2
        rw [f18, nI_clamp (by omega)]
        refine ⟨vi, H _ x (M.tr (((fg_s8_R (by decide) (by decide)).tr (fg_s8_R (by decide) (by decide))).tr (fg_s8_F (by decide)))) ⟨fun _ => ⟨e, ?_, hx, hM.1, hM.2.1, hM.2.2⟩, fun x0 => absurd x0 n0⟩⟩
        rw [fg_sge, fg_sgl, if_pos q, hA]
    · have q4 : n = 4 := (nI_eq (b := 4) (by omega) (by decide)).mp q4
      omega
theorem r_MO_takeSignal (ok : fg_Sok S) (hs : fg_zs S.1 < 10) (t : fg_MS σ T p) (r : fg_RS σ S) (H : ∀ u x, fg_s8 σ u → fg_PT u T x (fun k : Nat × (Nat → Nat) => fg_RS u (fg_adS S k.1 k.2)) (fg_sig T (fg_zf S.1) p) → Q x u) : fg_Run (d + 2) 122 0 [some (.ref 187), none, none] [] σ Q := by
  have z10 := ok.1.1.2.2.1
  have vi : vp_in (nI (fg_zs S.1)) 10 := vp_in_nI hs (by decide)
  refine b_MO_takeSignal_0 ?_
  rw [r.1.2.2.1]
  refine fg_use (r_MO_number (lo := 0) (hi := fg_zf S.1) (by decide) (fg_mhf z10) t (fun u1 x m1 h1 => ?_))
  have r1 := r.s3 m1
  have e4 : 4 * nI (fg_zs S.1) = nI (4 * fg_zs S.1) := by rw [show (4 : Int32) = nI 4 from rfl, pk_mul]
  rw [r1.1.2.2.2, e4, nI_clamp (by omega)]
  refine ⟨vp_in_nI (by omega) (by decide), ?_⟩
  by_cases q3 : x ≤ 0
  · obtain ⟨a, hA, rfl, s1, v1⟩ := (fg_NR_0 h1).1 q3
    rw [v1]
    have J0 : fg_JP u1 S 0 (fun _ => 0) := ⟨r1, fun j hj => absurd hj (Nat.not_lt_zero _)⟩
    have J1 := J0.add ok (v := a.1)
    have J1' : fg_JP (fg_sR u1 195 (4 * fg_zs S.1) (nI a.1)) S 1 (fun _ => a.1) := ⟨J1.1, fun j hj => by
      have := J1.2 j hj
      have j0 : j = 0 := by omega
      subst j0
      exact this⟩
    refine l_MO_signal ok hs 3 1 _ a.2 _ (by omega) (m1.to8.tr (fg_s8_R (by decide) (by decide))) ⟨s1.1, s1.2.1, s1.2.2⟩ J1' (fun u x mu hu => H u x mu ?_)
    rw [fg_sig, hA]
    exact hu
  · obtain ⟨e, hA, n0, hx, hM⟩ := (fg_NR_0 h1).2 q3
    refine b_MO_takeSignal_29 ⟨fun _ => ?_, fun x0 => absurd x0 n0⟩
    have f18 : fg_F (fg_sR u1 195 (4 * fg_zs S.1) (fg_F u1 187 13)) 187 18 = nI (fg_zs S.1) := r1.1.2.2.2
    rw [f18, nI_clamp (by omega)]
    refine ⟨vi, H _ x (m1.to8.tr (((fg_s8_R (by decide) (by decide)).tr (fg_s8_R (by decide) (by decide))).tr (fg_s8_F (by decide)))) ⟨fun _ => ⟨e, ?_, hx, hM.1, hM.2.1, hM.2.2⟩, fun x0 => absurd x0 n0⟩⟩
    rw [fg_sig, hA]
end
