/-! THE ABSTRACT MACHINE SPEAKS OF THE REAL ONE -/
def fg_cv (ad : Nat → Nat) : Value → Value
  | .ref h => .ref (ad h)
  | v => v
theorem fg_cv_cat (ad : Nat → Nat) (v : Value) : (fg_cv ad v).category = v.category := by cases v <;> rfl
def fg_fv (ad : Nat → Nat) (σ : fg_St) (h c k : Nat) : Value := match fg_rf c k with
  | true => .ref (ad (fg_pt σ h k))
  | false => .int (fg_F σ h k)
/-- where the cells lie, and the classes' numbers -/
abbrev fg_La : Type := (Nat → Nat) × ClassId × ClassId × ClassId × ClassId × (Nat → ClassId) × (Nat → Nat → Nat)
def fg_cell (Λ : fg_La) (σ : fg_St) (h : Nat) : va_E :=
  if fg_kd h = 11 then .inl (Λ.2.1, fg_ln h, .inl (σ.2.2.2 h))
  else if fg_kd h = 12 then .inl (Λ.2.2.1, fg_ln h, .inl (σ.2.2.2 h))
  else if fg_kd h = 13 then .inl (Λ.2.2.2.1, fg_ln h, .inr (.inr (.inr (.inr (fun j => some (Λ.1 (fg_ra h j)))))))
  else if fg_kd h = 14 then .inl (Λ.2.2.2.2.1, fg_ln h, .inr (.inr (.inr (.inr (fun j => some (Λ.1 (fg_ra h j)))))))
  else .inr (fg_kd h, (List.range (fg_nf.getD (fg_kd h) 0)).map (fg_fv Λ.1 σ h (fg_kd h)))
def fg_ws (Λ : fg_La) (σ : fg_St) : va_W := (List.range 209).map (fun h => (Λ.1 h, fg_cell Λ σ h))
def fg_tys (Λ : fg_La) : List (ClassId × FieldType) := [(Λ.2.1, .int), (Λ.2.2.1, .boolean), (Λ.2.2.2.1, .object RX0), (Λ.2.2.2.2.1, .object RX1)]
def fg_D (Λ : fg_La) : va_G := (Λ.2.2.2.2.2.1, Λ.2.2.2.2.2.2)
def fg_A (Λ : fg_La) (q : Nat) : Prop := ∃ h, h < 209 ∧ q = Λ.1 h
def fg_inj (Λ : fg_La) : Prop := ∀ i j, i < 209 → j < 209 → Λ.1 i = Λ.1 j → i = j
theorem fg_kd_lt {h c : Nat} (e : fg_kd h = c) (hc : c < 15) : h < 209 := by
  rcases Nat.lt_or_ge h 209 with q | q
  · exact q
  · have h2 : fg_kd h = 99 := by
      unfold fg_kd
      rw [List.getD_eq_getElem?_getD, List.getElem?_eq_none (show fg_kl.length ≤ h from q)]
      rfl
    omega
theorem fg_ws_at {Λ : fg_La} {σ : fg_St} {h : Nat} (hh : h < 209) : (fg_ws Λ σ)[h]? = some (Λ.1 h, fg_cell Λ σ h) := by
  unfold fg_ws
  rw [List.getElem?_map, List.getElem?_range hh]
  rfl
theorem fg_ws_D {Λ : fg_La} (hi : fg_inj Λ) (σ : fg_St) : va_D (fg_A Λ) (fg_ws Λ σ) := by
  have key : ∀ (i : Nat) (p : Nat × va_E), (fg_ws Λ σ)[i]? = some p → i < 209 ∧ p.1 = Λ.1 i := by
    intro i p h
    have hl : i < 209 := by
      have := (List.getElem?_eq_some_iff.mp h).1
      simpa [fg_ws] using this
    rw [fg_ws_at hl] at h
    exact ⟨hl, by rw [← Option.some.inj h]⟩
  refine ⟨fun i j p q h1 h2 e => ?_, fun k q h => ?_⟩
  · obtain ⟨a1, a2⟩ := key i p h1
    obtain ⟨b1, b2⟩ := key j q h2
    exact hi i j a1 b1 (by rw [← a2, ← b2, e])
  · obtain ⟨a1, a2⟩ := key k q h
    exact ⟨k, a1, a2⟩
theorem fg_ws_set {Λ : fg_La} {σ σ' : fg_St} {h : Nat} {e : va_E} (he : e = fg_cell Λ σ' h) (ho : ∀ g, g < 209 → g ≠ h → fg_cell Λ σ' g = fg_cell Λ σ g) : (fg_ws Λ σ).set h (Λ.1 h, e) = fg_ws Λ σ' := by
  subst he
  apply List.ext_getElem?
  intro k
  rw [List.getElem?_set]
  by_cases hk : h = k
  · subst hk
    by_cases hl : h < 209
    · rw [if_pos rfl, if_pos (by simpa [fg_ws] using hl), fg_ws_at hl]
    · rw [if_pos rfl, if_neg (by simpa [fg_ws] using hl), List.getElem?_eq_none (by simp [fg_ws]; omega)]
  · rw [if_neg hk]
    by_cases hl : k < 209
    · rw [fg_ws_at hl, fg_ws_at hl, ho k hl (fun e => hk e.symm)]
    · rw [List.getElem?_eq_none (by simp [fg_ws]; omega), List.getElem?_eq_none (by simp [fg_ws]; omega)]
theorem fg_cell_o {Λ : fg_La} {σ : fg_St} {h c : Nat} (e : fg_kd h = c) (hc : c < 11) : fg_cell Λ σ h = .inr (c, (List.range (fg_nf.getD c 0)).map (fg_fv Λ.1 σ h c)) := by
  unfold fg_cell
  rw [e, if_neg (by omega), if_neg (by omega), if_neg (by omega), if_neg (by omega)]
theorem fg_cell_i {Λ : fg_La} {σ : fg_St} {h : Nat} (e : fg_kd h = 11) : fg_cell Λ σ h = .inl (Λ.2.1, fg_ln h, .inl (σ.2.2.2 h)) := by
  unfold fg_cell
  rw [if_pos e]
theorem fg_cell_z {Λ : fg_La} {σ : fg_St} {h : Nat} (e : fg_kd h = 12) : fg_cell Λ σ h = .inl (Λ.2.2.1, fg_ln h, .inl (σ.2.2.2 h)) := by
  unfold fg_cell
  rw [if_neg (by omega), if_pos e]
theorem fg_cell_d {Λ : fg_La} {σ : fg_St} {h : Nat} (e : fg_kd h = 13) : fg_cell Λ σ h = .inl (Λ.2.2.2.1, fg_ln h, .inr (.inr (.inr (.inr (fun j => some (Λ.1 (fg_ra h j))))))) := by
  unfold fg_cell
  rw [if_neg (by omega), if_neg (by omega), if_pos e]
theorem fg_cell_m {Λ : fg_La} {σ : fg_St} {h : Nat} (e : fg_kd h = 14) : fg_cell Λ σ h = .inl (Λ.2.2.2.2.1, fg_ln h, .inr (.inr (.inr (.inr (fun j => some (Λ.1 (fg_ra h j))))))) := by
  unfold fg_cell
  rw [if_neg (by omega), if_neg (by omega), if_neg (by omega), if_pos e]
theorem fg_pt_F (σ : fg_St) (f : Nat → Nat → Int32) (r : Nat → Nat → Int32) (h k : Nat) : fg_pt (σ.1, σ.2.1, f, r) h k = fg_pt σ h k := rfl
/-- an int field written: the cells behind it -/
theorem fg_cell_sF {Λ : fg_La} {σ : fg_St} {h c k : Nat} {x : Int32} (e : fg_kd h = c) (hc : c < 11) (hr : fg_rf c k = false) : fg_cell Λ (fg_sF σ h k x) h = .inr (c, ((List.range (fg_nf.getD c 0)).map (fg_fv Λ.1 σ h c)).set k (.int x)) := by
  rw [fg_cell_o e hc]
  congr 2
  apply List.ext_getElem?
  intro j
  rw [List.getElem?_set]
  simp only [List.getElem?_map, List.length_map, List.length_range]
  by_cases hj : k = j
  · subst hj
    rw [if_pos rfl]
    by_cases hl : k < fg_nf.getD c 0
    · rw [if_pos hl, List.getElem?_range hl]
      simp only [Option.map_some, fg_fv, hr]
      show some (Value.int (fg_uf _ _ _ _ h k)) = _
      simp [fg_uf]
    · rw [if_neg hl, List.getElem?_eq_none (by rw [List.length_range]; exact Nat.le_of_not_lt hl)]
      rfl
  · rw [if_neg hj]
    cases hq : (List.range (fg_nf.getD c 0))[j]? with
    | none => rfl
    | some z =>
      have hz : z = j := by
        have := List.getElem?_eq_some_iff.mp hq
        obtain ⟨h1, h2⟩ := this
        simpa using h2.symm
      subst hz
      simp only [Option.map_some]
      congr 1
      unfold fg_fv
      cases fg_rf c z
      · show Value.int (fg_uf _ _ _ _ h z) = _
        simp [fg_uf, Ne.symm hj]
      · rfl
theorem fg_cell_sFo {Λ : fg_La} {σ : fg_St} {h k : Nat} {x : Int32} (g : Nat) (hg : g ≠ h) : fg_cell Λ (fg_sF σ h k x) g = fg_cell Λ σ g := by
  unfold fg_cell
  have : fg_fv Λ.1 (fg_sF σ h k x) g (fg_kd g) = fg_fv Λ.1 σ g (fg_kd g) := by
    funext j
    unfold fg_fv
    cases fg_rf (fg_kd g) j
    · show Value.int (fg_uf _ _ _ _ g j) = _
      simp [fg_uf, hg]
    · rfl
  rw [this]
theorem fg_cell_sRo {Λ : fg_La} {σ : fg_St} {r : Nat → Nat → Int32} {h : Nat} (hr : ∀ a, a ≠ h → r a = σ.2.2.2 a) (g : Nat) (hg : g ≠ h) : fg_cell Λ (σ.1, σ.2.1, σ.2.2.1, r) g = fg_cell Λ σ g := by
  have : fg_fv Λ.1 (σ.1, σ.2.1, σ.2.2.1, r) g (fg_kd g) = fg_fv Λ.1 σ g (fg_kd g) := by
    funext j
    unfold fg_fv
    cases fg_rf (fg_kd g) j <;> rfl
  unfold fg_cell
  rw [this]
  show (if _ then Sum.inl (_, _, Sum.inl (r g)) else if _ then Sum.inl (_, _, Sum.inl (r g)) else _) = _
  rw [hr g hg]
theorem fg_up_upd (r : Nat → Nat → Int32) (h j : Nat) (x : Int32) : fg_up r h j x h = upd (r h) j x := by
  funext b
  simp [fg_up, upd]
theorem fg_up_ne (r : Nat → Nat → Int32) (h j : Nat) (x : Int32) {a : Nat} (ha : a ≠ h) : fg_up r h j x a = r a := by
  funext b
  simp [fg_up, ha]
theorem fg_kd9 : ∀ h, h < 209 → fg_kd h = 9 → h = 0 := by decide +kernel
/-! words -/
def fg_T : List Jvm.Cond := lw_tbl.filter goodWord
theorem fg_w_in {w : Nat} {c : Jvm.Cond} (h : fg_w w c = true) (hg : goodWord c = true) : c ∈ fg_T := List.mem_filter.mpr ⟨List.mem_of_getElem? (of_decide_eq_true h), hg⟩
theorem fg_T_good : fg_T.all goodWord = true := List.all_eq_true.mpr fun w h => (List.mem_filter.mp h).2
set_option maxRecDepth 100000 in
theorem fg_lays : ∀ q ∈ vwCl, ∀ w ∈ u_ws q.1 q.2.1 q.2.2, w ∈ fg_T := by decide +kernel
theorem fg_clok : ∀ (c : Nat) (q : vw_C), vwCl[c]? = some q → c < 11 ∧ q.2.2 = fg_nf.getD c 0 := by
  intro c q h
  match c, h with
  | 0, h | 1, h | 2, h | 3, h | 4, h | 5, h | 6, h | 7, h | 8, h | 9, h | 10, h => cases h; exact ⟨by decide, rfl⟩
  | c + 11, h => simp [vwCl] at h
theorem fg_clty : ∀ (c : Nat) (q : vw_C), vwCl[c]? = some q → ∃ ty : Nat → FieldType, (∀ k, k < q.2.2 → parseFieldDescriptor (q.2.1 k).2.2.1 = some (ty k)) ∧ ∀ a, a < q.2.2 → ∀ b, b < q.2.2 → a ≠ b → (q.2.1 a).2.1 ≠ (q.2.1 b).2.1 := by
  intro c q h
  match c, h with
  | 0, h => cases h; exact ⟨tyX0, tyX0_ok, nmX0⟩
  | 1, h => cases h; exact ⟨tyX1, tyX1_ok, nmX1⟩
  | 2, h => cases h; exact ⟨tyX2, tyX2_ok, nmX2⟩
  | 3, h => cases h; exact ⟨tyX3, tyX3_ok, nmX3⟩
  | 4, h => cases h; exact ⟨tyX4, tyX4_ok, nmX4⟩
  | 5, h => cases h; exact ⟨tyX5, tyX5_ok, nmX5⟩
  | 6, h => cases h; exact ⟨tyX6, tyX6_ok, nmX6⟩
  | 7, h => cases h; exact ⟨tyX7, tyX7_ok, nmX7⟩
  | 8, h => cases h; exact ⟨tyX8, tyX8_ok, nmX8⟩
  | 9, h => cases h; exact ⟨tyX9, tyX9_ok, nmX9⟩
  | 10, h => cases h; exact ⟨tyX10, tyX10_ok, nmX10⟩
  | c + 11, h => simp [vwCl] at h
/-! locals -/
def fg_LV (ad : Nat → Nat) (ls : Array Slot) (ml : Nat) (L : List (Option Value)) : Prop := L.length = ml ∧ ls.size = ml ∧ lv_wf ls ∧ ∀ (k : Nat) (v : Value), L[k]? = some (some v) → ls[k]? = some (.val (fg_cv ad v))
def fg_as (ad : Nat → Nat) (L : List (Option Value)) : List (Nat × Value) := (List.range L.length).filterMap fun k => match L[k]? with
  | some (some v) => some (k, fg_cv ad v)
  | _ => none
theorem fg_as_mem {ad : Nat → Nat} {L : List (Option Value)} {q : Nat × Value} : q ∈ fg_as ad L ↔ ∃ v, L[q.1]? = some (some v) ∧ q.2 = fg_cv ad v := by
  unfold fg_as
  rw [List.mem_filterMap]
  constructor
  · rintro ⟨k, hk, h⟩
    split at h
    · rename_i v e
      cases h
      exact ⟨v, e, rfl⟩
    · cases h
  · rintro ⟨v, h1, h2⟩
    refine ⟨q.1, List.mem_range.mpr (List.getElem?_eq_some_iff.mp h1).1, ?_⟩
    rw [h1]
    show some (q.1, fg_cv ad v) = some q
    rw [← h2]
theorem fg_LV.has {ad : Nat → Nat} {ls : Array Slot} {ml : Nat} {L : List (Option Value)} (h : fg_LV ad ls ml L) : lv_has ls ml (fg_as ad L) := ⟨h.2.1, h.2.2.1, fun q hq => by
  obtain ⟨v, h1, h2⟩ := fg_as_mem.mp hq
  rw [h2]
  exact h.2.2.2 _ _ h1⟩
theorem fg_lgb_no {L : List (Option Value)} {k : Nat} (h : fg_lgb L (k + 1) = false) {v : Value} (e : L[k]? = some (some v)) : ¬ v.category = 2 := by
  intro e2
  unfold fg_lgb at h
  simp only [e, e2] at h
  cases h
theorem fg_LV.put1 {ad : Nat → Nat} {ls' : Array Slot} {ml : Nat} {L : List (Option Value)} (hlen : L.length = ml) {a : Nat} {v : Value} (hv : v.category = 1) (hg : fg_lgb L a = false) (h : lv_has ls' ml ((a, fg_cv ad v) :: (fg_as ad L).filter (fun q => !(q.1 == a) && !(q.1 + 1 == a && q.2.category == 2)))) : fg_LV ad ls' ml (L.set a (some v)) := by
  refine ⟨by simpa using hlen, h.1, h.2.1, fun k w hk => ?_⟩
  rw [List.getElem?_set] at hk
  by_cases e : a = k
  · subst e
    rw [if_pos rfl] at hk
    split at hk
    · cases hk
      exact h.2.2 (a, fg_cv ad v) List.mem_cons_self
    · cases hk
  · rw [if_neg e] at hk
    refine h.2.2 (k, fg_cv ad w) (List.mem_cons_of_mem _ (List.mem_filter.mpr ⟨fg_as_mem.mpr ⟨w, hk, rfl⟩, ?_⟩))
    have h1 : (k == a) = false := by simpa using Ne.symm e
    simp only [h1, Bool.not_false, Bool.true_and, fg_cv_cat]
    by_cases e2 : k + 1 = a
    · subst e2
      simp [fg_lgb_no hg hk]
    · simp [e2]
theorem fg_LV.put2 {ad : Nat → Nat} {ls' : Array Slot} {ml : Nat} {L : List (Option Value)} (hlen : L.length = ml) {a : Nat} {v : Value} (hv : v.category = 2) (hg : fg_lgb L a = false) (h : lv_has ls' ml ((a, fg_cv ad v) :: (fg_as ad L).filter (fun q => !(q.1 == a) && (!(q.1 == a + 1) && !(q.1 + 1 == a && q.2.category == 2))))) : fg_LV ad ls' ml ((L.set a (some v)).set (a + 1) none) := by
  refine ⟨by simpa using hlen, h.1, h.2.1, fun k w hk => ?_⟩
  rw [List.getElem?_set] at hk
  by_cases e0 : a + 1 = k
  · rw [if_pos e0] at hk
    split at hk <;> cases hk
  rw [if_neg e0, List.getElem?_set] at hk
  by_cases e : a = k
  · subst e
    rw [if_pos rfl] at hk
    split at hk
    · cases hk
      exact h.2.2 (a, fg_cv ad v) List.mem_cons_self
    · cases hk
  · rw [if_neg e] at hk
    refine h.2.2 (k, fg_cv ad w) (List.mem_cons_of_mem _ (List.mem_filter.mpr ⟨fg_as_mem.mpr ⟨w, hk, rfl⟩, ?_⟩))
    have h1 : (k == a) = false := by simpa using Ne.symm e
    have h2 : (k == a + 1) = false := by simpa using Ne.symm e0
    simp only [h1, h2, Bool.not_false, Bool.true_and, fg_cv_cat]
    by_cases e2 : k + 1 = a
    · subst e2
      simp [fg_lgb_no hg hk]
    · simp [e2]
