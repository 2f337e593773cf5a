/-! THE WHOLE WORLD AT THE LOOP'S START -/
def fc_b (a : Nat → Nat) (q0 : Nat) (q : Nat → Nat) (h : Nat) : Nat := if h < 187 then a h else if h = 187 then q0 else q (h - 187)
def fc_u (u : fg_St) : fg_St := (u.1, u.2.1, (fun h => if h < 187 then u.2.2.1 h else fun k => if h = 187 ∧ k = 11 then -1 else 0), fun h => if h < 187 then u.2.2.2 h else fun _ => 0)
def fc_zz : Nat → Nat → Int32 := fun _ _ => 0
theorem fc_kd : ∀ h, h < 187 → fg_kd h = fh_kd h := by decide +kernel
theorem fc_kds : ∀ h, h < 187 → fh_kd h < 15 := by decide +kernel
theorem fc_ptl : ∀ h, h < 187 → ∀ k, k < 13 → fh_rf (fh_kd h) k = true → fh_kd h < 11 → k < fh_nf.getD (fh_kd h) 0 → fh_pt (3, 9, fc_zz, fc_zz) h k < 187 := by decide +kernel
theorem fc_nfl : ∀ c, fh_nf.getD c 0 ≤ 37 := by
  intro c
  rcases Nat.lt_or_ge c 11 with h | h
  · revert c
    decide
  · rw [List.getD_eq_getElem?_getD, List.getElem?_eq_none (by exact h)]
    decide
theorem fc_nf9 : ∀ h, h < 187 → fh_kd h < 11 → fh_nf.getD (fh_kd h) 0 ≤ 13 := by decide +kernel
theorem fc_rf : fg_rf = fh_rf := by
  funext c k
  rfl
theorem fc_ra : ∀ h, h < 187 → (fh_kd h = 13 → h = 24) ∧ (fh_kd h = 14 → h = 25) := by decide +kernel
section
variable {Λ : fg_La} {a q : Nat → Nat} {q0 : Nat} {u : fg_St} {H : Heap} {A : Nat → Prop}
theorem fc_b_lt {h : Nat} (hh : h < 187) : fc_b a q0 q h = a h := if_pos hh
theorem fc_pt_eq {F R : Nat → Nat → Int32} {h k : Nat} (hh : h < 187) : fg_pt (fc_u (3, 9, F, R)) h k = fh_pt (3, 9, fc_zz, fc_zz) h k := by
  unfold fg_pt fh_pt
  rw [fc_kd h hh]
  rfl
theorem fc_pt_eq2 {F R : Nat → Nat → Int32} {h k : Nat} : fh_pt (3, 9, F, R) h k = fh_pt (3, 9, fc_zz, fc_zz) h k := rfl
theorem fc_low {F R : Nat → Nat → Int32} {h : Nat} (hh : h < 187) (g : va_at (fg_D Λ) vwCl (a h, fh_cell (a, Λ.2) (3, 9, F, R) h) H) : va_at (fg_D Λ) vwCl (fc_b a q0 q h, fg_cell (fc_b a q0 q, Λ.2) (fc_u (3, 9, F, R)) h) H := by
  rw [fc_b_lt hh]
  have eR : (fc_u (3, 9, F, R)).2.2.2 h = R h := if_pos hh
  have eF : (fc_u (3, 9, F, R)).2.2.1 h = F h := if_pos hh
  have ek := fc_kd h hh
  have hk := fc_kds h hh
  have hr := fc_ra h hh
  unfold fh_cell at g
  unfold fg_cell
  rw [ek]
  by_cases e1 : fh_kd h = 11
  · rw [if_pos e1] at g ⊢
    rw [eR]
    exact g
  rw [if_neg e1] at g ⊢
  by_cases e2 : fh_kd h = 12
  · rw [if_pos e2] at g ⊢
    rw [eR]
    exact g
  rw [if_neg e2] at g ⊢
  by_cases e3 : fh_kd h = 13
  · rw [if_pos e3] at g ⊢
    have h24 := hr.1 e3
    subst h24
    have g : H[a 24]? = some (vp_cell Λ.2.2.2.1 (16, .inr (.inr (.inr (.inr (fun j => some (a (59 + 8 * j)))))))) := g
    rw [fc_vq (g := fun j => some (fc_b a q0 q (59 + 8 * j))) (fun j hj => by rw [fc_b_lt (by omega)])] at g
    exact g
  rw [if_neg e3] at g ⊢
  by_cases e4 : fh_kd h = 14
  · rw [if_pos e4] at g ⊢
    have h25 := hr.2 e4
    subst h25
    have g : H[a 25]? = some (vp_cell Λ.2.2.2.2.1 (2, .inr (.inr (.inr (.inr (fun j => some (a (41 + 9 * j)))))))) := g
    rw [fc_vq (g := fun j => some (fc_b a q0 q (41 + 9 * j))) (fun j hj => by rw [fc_b_lt (by omega)])] at g
    exact g
  rw [if_neg e4] at g ⊢
  have hc : fh_kd h < 11 := by omega
  have e : (List.range (fg_nf.getD (fh_kd h) 0)).map (fg_fv (fc_b a q0 q) (fc_u (3, 9, F, R)) h (fh_kd h)) = (List.range (fh_nf.getD (fh_kd h) 0)).map (fh_fv a (3, 9, F, R) h (fh_kd h)) := by
    refine List.map_congr_left (fun k hk => ?_)
    have hk : k < fh_nf.getD (fh_kd h) 0 := List.mem_range.mp hk
    have h13 := fc_nf9 h hh hc
    unfold fg_fv fh_fv
    rw [fc_rf]
    cases er : fh_rf (fh_kd h) k with
    | true =>
      show Value.ref (fc_b a q0 q (fg_pt (fc_u (3, 9, F, R)) h k)) = Value.ref (a (fh_pt (3, 9, F, R) h k))
      rw [fc_pt_eq hh, fc_b_lt (fc_ptl h hh k (by omega) er hc hk)]
      rfl
    | false =>
      show Value.int ((fc_u (3, 9, F, R)).2.2.1 h k) = Value.int (F h k)
      rw [eF]
  rw [e]
  exact g
def fc_M (Λ : fg_La) (a : Nat → Nat) : va_W := [((a 187), .inr (10, [.int 0, .int 0, .int 0, .ref (a 188), .int 0, .ref (a 189), .ref (a 190), .ref (a 191), .int 0, .ref (a 192), .int 0, .int (-1), .int 0, .int 0, .int 0, .int 0, .int 0, .ref (a 193), .int 0, .ref (a 194), .ref (a 195), .ref (a 196), .ref (a 197), .ref (a 198), .ref (a 199), .ref (a 200), .int 0, .ref (a 201), .ref (a 202), .ref (a 203), .int 0, .ref (a 204), .int 0, .ref (a 205), .ref (a 206), .ref (a 207), .ref (a 208)])), (a 188, .inl (Λ.2.1, 10, .inl (fun _ => 0))), (a 189, .inl (Λ.2.1, 10, .inl (fun _ => 0))), (a 190, .inl (Λ.2.1, 40, .inl (fun _ => 0))), (a 191, .inl (Λ.2.1, 61, .inl (fun _ => 0))), (a 192, .inl (Λ.2.1, 240, .inl (fun _ => 0))), (a 193, .inl (Λ.2.1, 10, .inl (fun _ => 0))), (a 194, .inl (Λ.2.1, 10, .inl (fun _ => 0))), (a 195, .inl (Λ.2.1, 40, .inl (fun _ => 0))), (a 196, .inl (Λ.2.1, 4, .inl (fun _ => 0))), (a 197, .inl (Λ.2.2.1, 10, .inl (fun _ => 0))), (a 198, .inl (Λ.2.1, 40, .inl (fun _ => 0))), (a 199, .inl (Λ.2.2.1, 1024, .inl (fun _ => 0))), (a 200, .inl (Λ.2.1, 1024, .inl (fun _ => 0))), (a 201, .inl (Λ.2.1, 8, .inl (fun _ => 0))), (a 202, .inl (Λ.2.1, 8, .inl (fun _ => 0))), (a 203, .inl (Λ.2.1, 60, .inl (fun _ => 0))), (a 204, .inl (Λ.2.1, 976, .inl (fun _ => 0))), (a 205, .inl (Λ.2.1, 15, .inl (fun _ => 0))), (a 206, .inl (Λ.2.1, 15, .inl (fun _ => 0))), (a 207, .inl (Λ.2.1, 124, .inl (fun _ => 0))), (a 208, .inl (Λ.2.2.1, 2, .inl (fun _ => 0)))]
def fc_cM (Λ : fg_La) (b : Nat → Nat) (h : Nat) : va_E := fg_cell (b, Λ.2) (3, 9, (fun h k => if h = 187 ∧ k = 11 then -1 else 0), fc_zz) h
set_option maxRecDepth 100000 in
set_option maxHeartbeats 400000 in
theorem fc_M_eq (Λ : fg_La) (b : Nat → Nat) : fc_M Λ b = (List.range 22).map (fun j => (b (187 + j), fc_cM Λ b (187 + j))) := rfl
set_option maxRecDepth 100000 in
set_option maxHeartbeats 400000 in
theorem fc_M_W : fc_W10 Λ q0 q = fc_M Λ (fc_b a q0 q) := rfl
theorem fc_cM_eq {b : Nat → Nat} {h : Nat} (hh : 187 ≤ h) (h2 : h < 209) : fc_cM Λ b h = fg_cell (b, Λ.2) (fc_u u) h := by
  have eR : (fc_u u).2.2.2 h = fc_zz h := by show (if h < 187 then u.2.2.2 h else _) = _; rw [if_neg (by omega)]; rfl
  have eF : (fc_u u).2.2.1 h = fun k => if h = 187 ∧ k = 11 then -1 else 0 := by show (if h < 187 then u.2.2.1 h else _) = _; rw [if_neg (by omega)]
  have hk : ∀ h, h < 209 → 187 ≤ h → (fg_kd h = 11 ∨ fg_kd h = 12 ∨ fg_kd h = 10) := by decide +kernel
  unfold fc_cM
  rcases hk h h2 hh with e | e | e
  · rw [fg_cell_i e, fg_cell_i e, eR]
  · rw [fg_cell_z e, fg_cell_z e, eR]
  · rw [fg_cell_o e (by decide), fg_cell_o e (by decide)]
    refine congrArg (fun x => Sum.inr (10, x)) (List.map_congr_left (fun k _ => ?_))
    unfold fg_fv
    cases fg_rf 10 k with
    | true =>
      show Value.ref (b (fg_pt _ h k)) = Value.ref (b (fg_pt _ h k))
      unfold fg_pt
      rw [e]
      rfl
    | false =>
      show Value.int _ = Value.int ((fc_u u).2.2.1 h k)
      rw [eF]
theorem fc_top {j : Nat} (hj : j < 22) : (fc_W10 Λ q0 q)[j]? = some (fc_b a q0 q (187 + j), fg_cell (fc_b a q0 q, Λ.2) (fc_u u) (187 + j)) := by
  rw [fc_M_W (a := a), fc_M_eq, List.getElem?_map, List.getElem?_range hj, ← fc_cM_eq (by omega) (by omega)]
  rfl
theorem fc_all {F R : Nat → Nat → Int32} (hP : va_P (fg_D Λ) vwCl (fh_ws (a, Λ.2) (3, 9, F, R) ++ fc_W10 Λ q0 q) H) (hD : va_D A (fh_ws (a, Λ.2) (3, 9, F, R) ++ fc_W10 Λ q0 q)) : va_P (fg_D Λ) vwCl (fg_ws (fc_b a q0 q, Λ.2) (fc_u (3, 9, F, R))) H ∧ fg_inj (fc_b a q0 q, Λ.2) ∧ ∀ h, h < 209 → A (fc_b a q0 q h) := by
  have hl : (fh_ws (a, Λ.2) (3, 9, F, R)).length = 187 := by
    unfold fh_ws
    rw [List.length_map, List.length_range]
  have at' : ∀ h, h < 209 → ∃ e, (fh_ws (a, Λ.2) (3, 9, F, R) ++ fc_W10 Λ q0 q)[h]? = some (fc_b a q0 q h, e) ∧ (va_at (fg_D Λ) vwCl (fc_b a q0 q h, e) H → va_at (fg_D Λ) vwCl (fc_b a q0 q h, fg_cell (fc_b a q0 q, Λ.2) (fc_u (3, 9, F, R)) h) H) := by
    intro h hh
    rcases Nat.lt_or_ge h 187 with hq | hq
    · refine ⟨fh_cell (a, Λ.2) (3, 9, F, R) h, ?_, fun g => ?_⟩
      · rw [List.getElem?_append_left (by omega), fh_ws_at hq, fc_b_lt hq]
      · rw [fc_b_lt hq] at g
        exact fc_low hq g
    · refine ⟨_, ?_, fun g => g⟩
      rw [List.getElem?_append_right (by omega), hl, fc_top (a := a) (u := (3, 9, F, R)) (by omega), show 187 + (h - 187) = h by omega]
  refine ⟨fun k r hk => ?_, fun i j hi hj e => ?_, fun h hh => ?_⟩
  · have hk2 : k < 209 := by
      have := (List.getElem?_eq_some_iff.mp hk).1
      unfold fg_ws at this
      rw [List.length_map, List.length_range] at this
      exact this
    rw [fg_ws_at hk2] at hk
    cases hk
    obtain ⟨e, g1, g2⟩ := at' k hk2
    exact g2 (hP k _ g1)
  · obtain ⟨e1, g1, -⟩ := at' i hi
    obtain ⟨e2, g2, -⟩ := at' j hj
    exact hD.1 i j _ _ g1 g2 e
  · obtain ⟨e1, g1, -⟩ := at' h hh
    exact hD.2 h _ g1
end
/-- nothing yet -/
def fc_P0 : fg_GP := (0, fc_zz)
def fc_I0 : fg_GI := ((fun _ => false), fc_zz, fun _ => 0)
def fc_T0 : fg_GT := (0, fun _ => 0)
def fc_R0 : fg_GR := (0, (fun _ => 0), fun _ => 0)
def fc_B0 : fg_GB := (0, (fun _ => 0), fun _ => 0)
theorem fc_first {u : fg_St} (m : fg_sm (fg_pH 15) fc_s0 u) (k : fg_DkX u 15 (fg_S1 0 0).1 (fg_w0 (fg_S1 0 0))) : fg_CI (fc_u u) fg_z0 fg_wz fc_P0 fc_I0 fc_T0 (-1) 0 fc_R0 fc_B0 ∧ fg_J (fc_u u) fg_z0 fg_wz fc_P0 fc_I0 fc_T0 (-1) 0 fc_R0 fc_B0 := by
  have eF : ∀ h k, h < 187 → fg_pH 15 h = false → fg_F (fc_u u) h k = fg_F fc_s0 h k := fun h k hh hp => by
    show (if h < 187 then u.2.2.1 h else _) k = _
    rw [if_pos hh]
    exact (m.2 h hp).1 k
  have eR : ∀ h k, h < 187 → fg_R (fc_u u) h k = fg_R u h k := fun h k hh => by
    show (if h < 187 then u.2.2.2 h else _) k = _
    rw [if_pos hh]
  have eF2 : ∀ h k, h < 187 → fg_F (fc_u u) h k = fg_F u h k := fun h k hh => by
    show (if h < 187 then u.2.2.1 h else _) k = _
    rw [if_pos hh]
  have u1 : (fc_u u).1 = 3 := m.1.1
  have u2 : (fc_u u).2.1 = 9 := m.1.2
  have nz : ∀ (g : Nat) {X : Prop}, g < 0 → X := fun g X h => absurd h (Nat.not_lt_zero _)
  have D : fg_DkX (fc_u u) 15 fg_z0 fg_wz := by
    obtain ⟨k1, k2, k3, k4, k5, k6, k7⟩ := k
    refine ⟨fun g hg => nz g hg, fun g hg => nz g hg, (eF2 15 7 (by decide)).trans k3, (eF2 15 8 (by decide)).trans k4, ⟨(eF2 15 9 (by decide)).trans k5.1, (eF2 15 10 (by decide)).trans k5.2.1, (eF2 15 11 (by decide)).trans k5.2.2⟩, fun h hh => (eR 21 h (by decide)).trans (k6 h hh), fun q hq => (eR 22 q (by decide)).trans (k7 q hq)⟩
  have W : fg_Wk fg_z0 fg_wz := fg_w0_Wk fg_S1_ok0
  have Z : fg_Zok fg_z0 := fg_S1_ok0.1
  refine ⟨⟨by rw [u1, u2], ⟨Or.inl u1, Z, ?_, D, W⟩, ⟨Nat.zero_le _, 0, by decide, eF 23 1 (by decide) (by decide), eF 23 2 (by decide) (by decide), fun j hj => nz j hj⟩, fun i hi => ⟨?_, fun q => absurd (show false = true from q) (by decide)⟩, ⟨Nat.zero_le _, eF 1 1 (by decide) (by decide), fun i hi => nz i hi⟩, eF 0 11 (by decide) (by decide), ⟨by decide, eF 0 12 (by decide) (by decide)⟩, ⟨⟨eF 26 4 (by decide) (by decide), Nat.zero_le _⟩, fun i hi => nz i hi⟩, ⟨Nat.zero_le _, eF 26 5 (by decide) (by decide)⟩, fun i hi => nz i hi⟩, Or.inr ⟨⟨rfl, rfl⟩, ⟨rfl, Z, ⟨⟨rfl, rfl, rfl, rfl⟩, fun e he => nz e he, fun e he => nz e he⟩, fun g hg => nz g hg, fun g hg => nz g hg⟩, ⟨rfl, rfl⟩, fun i hi => ⟨rfl, fun q => absurd (show false = true from q) (by decide)⟩, ⟨Nat.zero_le _, rfl, fun i hi => nz i hi⟩, rfl, ⟨by decide, rfl⟩, ⟨rfl, rfl⟩, ⟨rfl, rfl⟩⟩⟩
  · rw [u1]
    exact ⟨⟨eF 3 0 (by decide) (by decide), eF 3 1 (by decide) (by decide), eF 3 2 (by decide) (by decide), eF 3 3 (by decide) (by decide)⟩, fun e he => nz e he, fun e he => nz e he⟩
  · refine (eF (41 + 9 * i) 2 (by omega) (fg_pH_no (by omega))).trans ?_
    show (if ((41 + 9 * i) = 0 ∧ 2 = 11) ∨ ((41 + 9 * i) = 1 ∧ 2 = 4) then (-1 : Int32) else 0) = 0
    rw [if_neg (by omega)]
