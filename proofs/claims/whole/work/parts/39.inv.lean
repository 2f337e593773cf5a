/-! ONE VALUE FOR BOTH SIDES: what the class holds, what the reference holds -/
def fg_isr (a : Int32) (lo hi : Nat) : Bool := decide ((lo : Int) ≤ a.toInt ∧ a.toInt ≤ (hi : Int))
theorem fg_isr_lo {a : Int32} {lo hi : Nat} (hl : lo < 2 ^ 31) (h : a < nI lo) : fg_isr a lo hi = false := by
  rw [fg_lt, nI_toInt hl] at h
  exact decide_eq_false (by omega)
theorem fg_isr_hi {a : Int32} {lo hi : Nat} (hh : hi < 2 ^ 31) (h : ¬ a ≤ nI hi) : fg_isr a lo hi = false := by
  rw [fg_le', nI_toInt hh] at h
  exact decide_eq_false (by omega)
theorem fg_isr_gt {a : Int32} {lo hi : Nat} (hh : hi < 2 ^ 31) (h : nI hi < a) : fg_isr a lo hi = false := by
  rw [fg_lt, nI_toInt hh] at h
  exact decide_eq_false (by omega)
theorem fg_isr_ok {a : Int32} {lo hi : Nat} (hl : lo < 2 ^ 31) (hh : hi < 2 ^ 31) (h1 : ¬ a < nI lo) (h2 : a ≤ nI hi) : fg_isr a lo hi = true := by
  rw [fg_lt, nI_toInt hl] at h1
  rw [fg_le', nI_toInt hh] at h2
  exact decide_eq_true (by omega)
theorem fg_isr_t {a : Int32} {lo hi : Nat} (h : fg_isr a lo hi = true) (hh : hi < 2 ^ 31) : ∃ j, lo ≤ j ∧ j ≤ hi ∧ a = nI j := by
  obtain ⟨h1, h2⟩ := of_decide_eq_true h
  refine ⟨a.toInt.toNat, by omega, by omega, ?_⟩
  rw [fg_eq, nI_toInt (by omega)]
  omega
theorem fg_isr_nI {j lo hi : Nat} (h1 : lo ≤ j) (h2 : j ≤ hi) (hh : hi < 2 ^ 31) : fg_isr (nI j) lo hi = true := by
  unfold fg_isr
  rw [nI_toInt (by omega)]
  exact decide_eq_true (by omega)
theorem r_MO_inr {d : Nat} {σ : fg_St} {Q : Int32 → fg_St → Prop} {a : Int32} {c0 c1 : Int64} {lo hi : Nat} (h0 : c0.toInt = lo) (h1 : c1.toInt = hi) (H : Q (fg_b (fg_isr a lo hi)) σ) : fg_Run d 110 0 [some (.long a.toInt64), none, some (.long c0), none, some (.long c1), none] [] σ Q := by
  refine r_MO_in ?_
  rw [fg_i64, h0, h1]
  exact H
theorem fg_bt {p : Bool} {A B : Prop} (t : p = true → A) (f : p = false → B) : (¬ fg_b p = 0 → A) ∧ (fg_b p = 0 → B) := by
  cases p
  · exact ⟨fun q => absurd rfl q, fun _ => f rfl⟩
  · exact ⟨fun _ => t rfl, fun q => absurd q (by decide)⟩
theorem fg_bt' {p : Bool} {A B : Prop} (t : p = true → A) (f : p = false → B) : (fg_b p = 0 → B) ∧ (¬ fg_b p = 0 → A) := ⟨(fg_bt t f).2, (fg_bt t f).1⟩
theorem fg_b01 (p : Bool) : fg_b p = 0 ∨ fg_b p = 1 := by cases p <;> simp [fg_b]
abbrev fg_GP : Type := Nat × (Nat → Nat → Int32)
abbrev fg_GI : Type := (Nat → Bool) × (Nat → Nat → Int32) × (Nat → Nat)
abbrev fg_GT : Type := Nat × (Nat → Nat)
abbrev fg_GR : Type := Nat × (Nat → Nat) × (Nat → Nat)
abbrev fg_GB : Type := Nat × (Nat → Nat) × (Nat → Int32)
/-- the past: how many, the decks' rows -/
def fg_PaX (σ : fg_St) (z : fg_Z) (P : fg_GP) : Prop := P.1 ≤ 16 ∧ ∃ f : Nat, f < 16 ∧ fg_F σ 23 1 = nI f ∧ fg_F σ 23 2 = nI P.1 ∧ ∀ j, j < P.1 → fg_DkX σ (59 + 8 * ((f + j) % 16)) z (P.2 j) ∧ fg_Wk z (P.2 j)
def fg_PaM (σ : fg_St) (z : fg_Z) (P : fg_GP) : Prop := P.1 ≤ 16 ∧ fg_F σ 187 30 = nI P.1 ∧ ∀ j, j < P.1 → (∀ k, k < 61 → fg_R σ 204 (61 * j + k) = P.2 j k) ∧ fg_Wk z (P.2 j) ∧ fg_Pt z (P.2 j)
/-- the images: which are kept, their decks' rows, their seeds -/
def fg_ImX (σ : fg_St) (z : fg_Z) (I : fg_GI) : Prop := ∀ i, i < 2 → fg_F σ (41 + 9 * i) 2 = fg_b (I.1 i) ∧ (I.1 i = true → fg_DkX σ (42 + 9 * i) z (I.2.1 i) ∧ fg_Wk z (I.2.1 i) ∧ fg_F σ (41 + 9 * i) 1 = nI (I.2.2 i) ∧ I.2.2 i < 2 ^ 31)
def fg_ImM (σ : fg_St) (z : fg_Z) (I : fg_GI) : Prop := ∀ i, i < 2 → fg_R σ 208 i = fg_b (I.1 i) ∧ (I.1 i = true → (∀ k, k < 61 → fg_R σ 207 (62 * i + k) = I.2.1 i k) ∧ fg_R σ 207 (62 * i + 61) = nI (I.2.2 i) ∧ I.2.2 i < 2 ^ 31 ∧ fg_Wk z (I.2.1 i) ∧ fg_Pt z (I.2.1 i))
def fg_TxX (σ : fg_St) (T : fg_GT) : Prop := T.1 ≤ 240 ∧ fg_F σ 1 1 = nI T.1 ∧ ∀ i, i < T.1 → fg_R σ 2 i = nI (T.2 i) ∧ T.2 i ≤ 255
def fg_TxM (σ : fg_St) (T : fg_GT) : Prop := T.1 ≤ 240 ∧ fg_F σ 187 10 = nI T.1 ∧ ∀ i, i < T.1 → fg_R σ 192 i = nI (T.2 i) ∧ T.2 i ≤ 255
def fg_BkX (σ : fg_St) (z : fg_Z) (B : fg_GB) : Prop := (B.1 ≤ 15 ∧ fg_F σ 26 5 = nI B.1) ∧ ∀ i, i < B.1 → fg_R σ 29 i = nI (B.2.1 i) ∧ B.2.1 i < fg_zH z ∧ fg_R σ 30 i = B.2.2 i
def fg_BkM (σ : fg_St) (z : fg_Z) (B : fg_GB) : Prop := (B.1 ≤ 15 ∧ fg_F σ 187 32 = nI B.1) ∧ ∀ i, i < B.1 → fg_R σ 205 i = nI (B.2.1 i) ∧ B.2.1 i < fg_zH z ∧ fg_R σ 206 i = B.2.2 i
/-- the class -/
def fg_CI (σ : fg_St) (z : fg_Z) (w : Nat → Int32) (P : fg_GP) (I : fg_GI) (T : fg_GT) (v : Int32) (s : Nat) (R : fg_GR) (B : fg_GB) : Prop := σ.2.1 = 12 - σ.1 ∧ fg_XI σ z w ∧ fg_PaX σ z P ∧ fg_ImX σ z I ∧ fg_TxX σ T ∧ fg_F σ 0 11 = v ∧ (s < 2 ^ 31 ∧ fg_F σ 0 12 = nI s) ∧ fg_RdX σ z R.1 R.2.1 R.2.2 ∧ fg_BkX σ z B
/-- the reference -/
def fg_RI (σ : fg_St) (z : fg_Z) (w : Nat → Int32) (P : fg_GP) (I : fg_GI) (T : fg_GT) (v : Int32) (s : Nat) (R : fg_GR) (B : fg_GB) : Prop := fg_R σ 191 = w ∧ (fg_MI σ z ∧ fg_Wk z w) ∧ fg_PaM σ z P ∧ fg_ImM σ z I ∧ fg_TxM σ T ∧ fg_F σ 187 11 = v ∧ (s < 2 ^ 31 ∧ fg_F σ 187 8 = nI s) ∧ fg_RdM σ z R.1 R.2.1 R.2.2 ∧ fg_BkM σ z B
def fg_pC (h : Nat) : Bool := decide (h < 187)
def fg_pN (h : Nat) : Bool := decide (187 ≤ h)
theorem fg_pXC : ∀ g, fg_pC g = false → fg_pX g = false := by
  intro g h
  have h : ¬ g < 187 := of_decide_eq_false h
  simp [fg_pX]
  omega
theorem fg_pMN : ∀ g, fg_pN g = false → fg_pM g = false := by
  intro g h
  have h : ¬ 187 ≤ g := of_decide_eq_false h
  simp [fg_pM]
  omega
section
variable {p : Nat → Bool} {σ u : fg_St} {z : fg_Z} {w : Nat → Int32} {P : fg_GP} {I : fg_GI} {T : fg_GT} {v : Int32} {s : Nat} {R : fg_GR} {B : fg_GB}
theorem fg_XI.smg (h : fg_XI σ z w) (m : fg_sm p σ u) (hp : ∀ g, 3 ≤ g → g < 23 → p g = false) : fg_XI u z w := by
  obtain ⟨h1, h2, h3, h4, h5⟩ := h
  refine ⟨by rw [m.1.1]; exact h1, h2, by rw [m.1.1]; exact h3.sm m (hp _ (by omega) (by omega)) (hp _ (by omega) (by omega)) (hp _ (by omega) (by omega)), h4.sm m (hp _ (by omega) (by omega)) (fun k hk => hp _ (by omega) (by omega)), h5⟩
theorem fg_PaX.sm (h : fg_PaX σ z P) (m : fg_sm p σ u) (h0 : p 23 = false) (h1 : ∀ g, 59 ≤ g → g < 187 → p g = false) : fg_PaX u z P := by
  obtain ⟨a1, f, a2, a3, a4, a5⟩ := h
  exact ⟨a1, f, a2, ((m.2 23 h0).1 1).trans a3, ((m.2 23 h0).1 2).trans a4, fun j hj => ⟨(a5 j hj).1.sm m (h1 _ (by omega) (by omega)) (fun k hk => h1 _ (by omega) (by omega)), (a5 j hj).2⟩⟩
theorem fg_ImX.sm (h : fg_ImX σ z I) (m : fg_sm p σ u) (h1 : ∀ g, 41 ≤ g → g < 59 → p g = false) : fg_ImX u z I := fun i hi =>
  ⟨((m.2 _ (h1 _ (by omega) (by omega))).1 2).trans (h i hi).1, fun q => ⟨((h i hi).2 q).1.sm m (h1 _ (by omega) (by omega)) (fun k hk => h1 _ (by omega) (by omega)), ((h i hi).2 q).2.1, ((m.2 _ (h1 _ (by omega) (by omega))).1 1).trans ((h i hi).2 q).2.2.1, ((h i hi).2 q).2.2.2⟩⟩
theorem fg_TxX.sm (h : fg_TxX σ T) (m : fg_sm p σ u) (h1 : p 1 = false) (h2 : p 2 = false) : fg_TxX u T := ⟨h.1, ((m.2 1 h1).1 1).trans h.2.1, fun i hi => ⟨((m.2 2 h2).2 i).trans (h.2.2 i hi).1, (h.2.2 i hi).2⟩⟩
theorem fg_BkX.sm (h : fg_BkX σ z B) (m : fg_sm p σ u) (h1 : p 26 = false) (h2 : p 29 = false) (h3 : p 30 = false) : fg_BkX u z B := ⟨⟨h.1.1, ((m.2 26 h1).1 5).trans h.1.2⟩, fun i hi => ⟨((m.2 29 h2).2 i).trans (h.2 i hi).1, (h.2 i hi).2.1, ((m.2 30 h3).2 i).trans (h.2 i hi).2.2⟩⟩
theorem fg_CI.sm (h : fg_CI σ z w P I T v s R B) (m : fg_sm p σ u) (hp : ∀ g, g < 187 → fg_pX g = false → p g = false) : fg_CI u z w P I T v s R B := by
  have hq : ∀ g, g < 187 → (g < 31 ∨ 41 ≤ g) → p g = false := fun g h1 h2 => hp g h1 (by simp [fg_pX]; omega)
  obtain ⟨a1, a2, a3, a4, a5, a6, a7, a8, a9⟩ := h
  exact ⟨by rw [m.1.1, m.1.2]; exact a1, a2.smg m (fun g _ _ => hq g (by omega) (by omega)), a3.sm m (hq _ (by omega) (by omega)) (fun g _ _ => hq g (by omega) (by omega)), a4.sm m (fun g _ _ => hq g (by omega) (by omega)), a5.sm m (hq _ (by omega) (by omega)) (hq _ (by omega) (by omega)), ((m.2 0 (hq _ (by omega) (by omega))).1 11).trans a6, ⟨a7.1, ((m.2 0 (hq _ (by omega) (by omega))).1 12).trans a7.2⟩, a8.sm m (hq _ (by omega) (by omega)) (hq _ (by omega) (by omega)) (hq _ (by omega) (by omega)), a9.sm m (hq _ (by omega) (by omega)) (hq _ (by omega) (by omega)) (hq _ (by omega) (by omega))⟩
theorem fg_CI.x (h : fg_CI σ z w P I T v s R B) (m : fg_sm fg_pX σ u) : fg_CI u z w P I T v s R B := h.sm m (fun _ _ q => q)
theorem fg_CI.n (h : fg_CI σ z w P I T v s R B) (m : fg_sm fg_pN σ u) : fg_CI u z w P I T v s R B := h.sm m (fun g h1 _ => decide_eq_false (by omega))
theorem fg_CI.tx (h : fg_CI σ z w P I T v s R B) (m : fg_sm p σ u) (hp : ∀ g, g < 187 → fg_pX g = false → (¬ g = 1 ∧ ¬ g = 2) → p g = false) {T' : fg_GT} (hT : fg_TxX u T') : fg_CI u z w P I T' v s R B := by
  have hq : ∀ g, g < 187 → ((g < 31 ∨ 41 ≤ g) ∧ (¬ g = 1 ∧ ¬ g = 2)) → p g = false := fun g h1 h2 => hp g h1 (by simp [fg_pX]; omega) h2.2
  obtain ⟨a1, a2, a3, a4, a5, a6, a7, a8, a9⟩ := h
  exact ⟨by rw [m.1.1, m.1.2]; exact a1, a2.smg m (fun g _ _ => hq g (by omega) (by omega)), a3.sm m (hq _ (by omega) (by omega)) (fun g _ _ => hq g (by omega) (by omega)), a4.sm m (fun g _ _ => hq g (by omega) (by omega)), hT, ((m.2 0 (hq _ (by omega) (by omega))).1 11).trans a6, ⟨a7.1, ((m.2 0 (hq _ (by omega) (by omega))).1 12).trans a7.2⟩, a8.sm m (hq _ (by omega) (by omega)) (hq _ (by omega) (by omega)) (hq _ (by omega) (by omega)), a9.sm m (hq _ (by omega) (by omega)) (hq _ (by omega) (by omega)) (hq _ (by omega) (by omega))⟩
theorem fg_CI.fs (h : fg_CI σ z w P I T v s R B) (m : fg_sm p σ u) (hp : ∀ g, g < 187 → fg_pX g = false → (¬ g = 0) → p g = false) {v' : Int32} {s' : Nat} (h1 : fg_F u 0 11 = v') (h2 : s' < 2 ^ 31 ∧ fg_F u 0 12 = nI s') : fg_CI u z w P I T v' s' R B := by
  have hq : ∀ g, g < 187 → ((g < 31 ∨ 41 ≤ g) ∧ (¬ g = 0)) → p g = false := fun g h1 h2 => hp g h1 (by simp [fg_pX]; omega) h2.2
  obtain ⟨a1, a2, a3, a4, a5, a6, a7, a8, a9⟩ := h
  exact ⟨by rw [m.1.1, m.1.2]; exact a1, a2.smg m (fun g _ _ => hq g (by omega) (by omega)), a3.sm m (hq _ (by omega) (by omega)) (fun g _ _ => hq g (by omega) (by omega)), a4.sm m (fun g _ _ => hq g (by omega) (by omega)), a5.sm m (hq _ (by omega) (by omega)) (hq _ (by omega) (by omega)), h1, h2, a8.sm m (hq _ (by omega) (by omega)) (hq _ (by omega) (by omega)) (hq _ (by omega) (by omega)), a9.sm m (hq _ (by omega) (by omega)) (hq _ (by omega) (by omega)) (hq _ (by omega) (by omega))⟩
theorem fg_CI.lg (h : fg_CI σ z w P I T v s R B) (m : fg_sm p σ u) (hp : ∀ g, g < 187 → fg_pX g = false → (¬ (26 ≤ g ∧ g ≤ 30)) → p g = false) {R' : fg_GR} {B' : fg_GB} (h1 : fg_RdX u z R'.1 R'.2.1 R'.2.2) (h2 : fg_BkX u z B') : fg_CI u z w P I T v s R' B' := by
  have hq : ∀ g, g < 187 → ((g < 31 ∨ 41 ≤ g) ∧ (¬ (26 ≤ g ∧ g ≤ 30))) → p g = false := fun g h1 h2 => hp g h1 (by simp [fg_pX]; omega) h2.2
  obtain ⟨a1, a2, a3, a4, a5, a6, a7, a8, a9⟩ := h
  exact ⟨by rw [m.1.1, m.1.2]; exact a1, a2.smg m (fun g _ _ => hq g (by omega) (by omega)), a3.sm m (hq _ (by omega) (by omega)) (fun g _ _ => hq g (by omega) (by omega)), a4.sm m (fun g _ _ => hq g (by omega) (by omega)), a5.sm m (hq _ (by omega) (by omega)) (hq _ (by omega) (by omega)), ((m.2 0 (hq _ (by omega) (by omega))).1 11).trans a6, ⟨a7.1, ((m.2 0 (hq _ (by omega) (by omega))).1 12).trans a7.2⟩, h1, h2⟩
theorem fg_CI.dk (h : fg_CI σ z w P I T v s R B) (m : fg_sm p σ u) (hp : ∀ g, g < 187 → fg_pX g = false → (¬ (15 ≤ g ∧ g ≤ 22)) → p g = false) {w' : Nat → Int32} (h1 : fg_DkX u 15 z w') (h2 : fg_Wk z w') : fg_CI u z w' P I T v s R B := by
  have hq : ∀ g, g < 187 → ((g < 31 ∨ 41 ≤ g) ∧ (¬ (15 ≤ g ∧ g ≤ 22))) → p g = false := fun g h1 h2 => hp g h1 (by simp [fg_pX]; omega) h2.2
  obtain ⟨a1, a2, a3, a4, a5, a6, a7, a8, a9⟩ := h
  exact ⟨by rw [m.1.1, m.1.2]; exact a1, ⟨by rw [m.1.1]; exact a2.1, a2.2.1, by rw [m.1.1]; exact a2.2.2.1.sm m (hq _ (by have := a2.1; omega) (by have := a2.1; omega)) (hq _ (by have := a2.1; omega) (by have := a2.1; omega)) (hq _ (by have := a2.1; omega) (by have := a2.1; omega)), h1, h2⟩, a3.sm m (hq _ (by omega) (by omega)) (fun g _ _ => hq g (by omega) (by omega)), a4.sm m (fun g _ _ => hq g (by omega) (by omega)), a5.sm m (hq _ (by omega) (by omega)) (hq _ (by omega) (by omega)), ((m.2 0 (hq _ (by omega) (by omega))).1 11).trans a6, ⟨a7.1, ((m.2 0 (hq _ (by omega) (by omega))).1 12).trans a7.2⟩, a8.sm m (hq _ (by omega) (by omega)) (hq _ (by omega) (by omega)) (hq _ (by omega) (by omega)), a9.sm m (hq _ (by omega) (by omega)) (hq _ (by omega) (by omega)) (hq _ (by omega) (by omega))⟩
theorem fg_CI.pa (h : fg_CI σ z w P I T v s R B) (m : fg_sm p σ u) (hp : ∀ g, g < 187 → fg_pX g = false → (¬ (g = 23 ∨ 59 ≤ g)) → p g = false) {P' : fg_GP} (h1 : fg_PaX u z P') : fg_CI u z w P' I T v s R B := by
  have hq : ∀ g, g < 187 → ((g < 31 ∨ 41 ≤ g) ∧ (¬ (g = 23 ∨ 59 ≤ g))) → p g = false := fun g h1 h2 => hp g h1 (by simp [fg_pX]; omega) h2.2
  obtain ⟨a1, a2, a3, a4, a5, a6, a7, a8, a9⟩ := h
  exact ⟨by rw [m.1.1, m.1.2]; exact a1, a2.smg m (fun g _ _ => hq g (by omega) (by omega)), h1, a4.sm m (fun g _ _ => hq g (by omega) (by omega)), a5.sm m (hq _ (by omega) (by omega)) (hq _ (by omega) (by omega)), ((m.2 0 (hq _ (by omega) (by omega))).1 11).trans a6, ⟨a7.1, ((m.2 0 (hq _ (by omega) (by omega))).1 12).trans a7.2⟩, a8.sm m (hq _ (by omega) (by omega)) (hq _ (by omega) (by omega)) (hq _ (by omega) (by omega)), a9.sm m (hq _ (by omega) (by omega)) (hq _ (by omega) (by omega)) (hq _ (by omega) (by omega))⟩
theorem fg_CI.im (h : fg_CI σ z w P I T v s R B) (m : fg_sm p σ u) (hp : ∀ g, g < 187 → fg_pX g = false → (¬ (41 ≤ g ∧ g ≤ 58)) → p g = false) {I' : fg_GI} (h1 : fg_ImX u z I') : fg_CI u z w P I' T v s R B := by
  have hq : ∀ g, g < 187 → ((g < 31 ∨ 41 ≤ g) ∧ (¬ (41 ≤ g ∧ g ≤ 58))) → p g = false := fun g h1 h2 => hp g h1 (by simp [fg_pX]; omega) h2.2
  obtain ⟨a1, a2, a3, a4, a5, a6, a7, a8, a9⟩ := h
  exact ⟨by rw [m.1.1, m.1.2]; exact a1, a2.smg m (fun g _ _ => hq g (by omega) (by omega)), a3.sm m (hq _ (by omega) (by omega)) (fun g _ _ => hq g (by omega) (by omega)), h1, a5.sm m (hq _ (by omega) (by omega)) (hq _ (by omega) (by omega)), ((m.2 0 (hq _ (by omega) (by omega))).1 11).trans a6, ⟨a7.1, ((m.2 0 (hq _ (by omega) (by omega))).1 12).trans a7.2⟩, a8.sm m (hq _ (by omega) (by omega)) (hq _ (by omega) (by omega)) (hq _ (by omega) (by omega)), a9.sm m (hq _ (by omega) (by omega)) (hq _ (by omega) (by omega)) (hq _ (by omega) (by omega))⟩
/-- alike but at the fields f of the reference and the rows r -/
def fg_sn (f r : Nat → Bool) (σ u : fg_St) : Prop := (∀ k, f k = false → fg_F u 187 k = fg_F σ 187 k) ∧ ∀ h, r h = false → ∀ k, fg_R u h k = fg_R σ h k
def fg_no (_ : Nat) : Bool := false
theorem fg_sm.sn (m : fg_sm p σ u) (h : p 187 = false) : fg_sn fg_no p σ u := ⟨fun k _ => (m.2 187 h).1 k, fun g hg => (m.2 g hg).2⟩
theorem fg_sn.tr {f r : Nat → Bool} {τ : fg_St} (a : fg_sn f r σ τ) (b : fg_sn f r τ u) : fg_sn f r σ u := ⟨fun k hk => (b.1 k hk).trans (a.1 k hk), fun g hg k => (b.2 g hg k).trans (a.2 g hg k)⟩
theorem fg_sn.wk {f r f' r' : Nat → Bool} (a : fg_sn f r σ u) (h1 : ∀ k, f' k = false → f k = false) (h2 : ∀ k, r' k = false → r k = false) : fg_sn f' r' σ u := ⟨fun k hk => a.1 k (h1 k hk), fun g hg => a.2 g (h2 g hg)⟩
theorem fg_sn.rf {f r : Nat → Bool} : fg_sn f r σ σ := ⟨fun _ _ => rfl, fun _ _ _ => rfl⟩
theorem fg_sn_F {f r : Nat → Bool} {k : Nat} {x : Int32} (h : f k = true) : fg_sn f r σ (fg_sF σ 187 k x) := ⟨fun j hj => by
  have : j ≠ k := fun e => by rw [e, h] at hj; cases hj
  rw [fg_F_sF, if_neg (fun q => this q.1)], fun _ _ _ => rfl⟩
theorem fg_sn_R {f r : Nat → Bool} {g k : Nat} {x : Int32} (h : r g = true) : fg_sn f r σ (fg_sR σ g k x) := ⟨fun _ _ => rfl, fun a ha j => by
  have : a ≠ g := fun e => by rw [e, h] at ha; cases ha
  rw [fg_R_sR, if_neg (fun q => this q.1)]⟩
section
variable {f r : Nat → Bool}
theorem fg_PaM.sn (h : fg_PaM σ z P) (m : fg_sn f r σ u) (h0 : f 30 = false) (h1 : r 204 = false) : fg_PaM u z P := ⟨h.1, (m.1 30 h0).trans h.2.1, fun j hj => ⟨fun k hk => (m.2 204 h1 _).trans ((h.2.2 j hj).1 k hk), (h.2.2 j hj).2⟩⟩
theorem fg_ImM.sn (h : fg_ImM σ z I) (m : fg_sn f r σ u) (h0 : r 207 = false) (h1 : r 208 = false) : fg_ImM u z I := fun i hi => ⟨(m.2 208 h1 i).trans (h i hi).1, fun q => ⟨fun k hk => (m.2 207 h0 _).trans (((h i hi).2 q).1 k hk), (m.2 207 h0 _).trans ((h i hi).2 q).2.1, ((h i hi).2 q).2.2⟩⟩
theorem fg_TxM.sn (h : fg_TxM σ T) (m : fg_sn f r σ u) (h1 : f 10 = false) (h2 : r 192 = false) : fg_TxM u T := ⟨h.1, (m.1 10 h1).trans h.2.1, fun i hi => ⟨(m.2 192 h2 i).trans (h.2.2 i hi).1, (h.2.2 i hi).2⟩⟩
theorem fg_RdM.sn (h : fg_RdM σ z R.1 R.2.1 R.2.2) (m : fg_sn f r σ u) (h1 : f 26 = false) (h2 : r 201 = false) (h3 : r 202 = false) : fg_RdM u z R.1 R.2.1 R.2.2 := ⟨⟨(m.1 26 h1).trans h.1.1, h.1.2⟩, fun i hi => ⟨(m.2 201 h2 i).trans (h.2 i hi).1, (h.2 i hi).2.1, (m.2 202 h3 i).trans (h.2 i hi).2.2.1, (h.2 i hi).2.2.2⟩⟩
theorem fg_BkM.sn (h : fg_BkM σ z B) (m : fg_sn f r σ u) (h1 : f 32 = false) (h2 : r 205 = false) (h3 : r 206 = false) : fg_BkM u z B := ⟨⟨h.1.1, (m.1 32 h1).trans h.1.2⟩, fun i hi => ⟨(m.2 205 h2 i).trans (h.2 i hi).1, (h.2 i hi).2.1, (m.2 206 h3 i).trans (h.2 i hi).2.2⟩⟩
theorem fg_ShM.sn (h : fg_ShM σ z) (m : fg_sn f r σ u) (h0 : f 0 = false) (h1 : f 1 = false) (h2 : f 2 = false) (h4 : f 4 = false) (h5 : r 189 = false) (h6 : r 190 = false) : fg_ShM u z := ⟨⟨(m.1 0 h0).trans h.1.1, (m.1 1 h1).trans h.1.2.1, (m.1 2 h2).trans h.1.2.2.1, (m.1 4 h4).trans h.1.2.2.2⟩, fun e he => (m.2 189 h5 e).trans (h.2.1 e he), fun e he j hj => (m.2 190 h6 _).trans (h.2.2 e he j hj)⟩
theorem fg_MI.sn (h : fg_MI σ z) (m : fg_sn f r σ u) (h0 : f 0 = false) (h1 : f 1 = false) (h2 : f 2 = false) (h4 : f 4 = false) (h5 : r 189 = false) (h6 : r 190 = false) (h7 : r 191 = false) : fg_MI u z := by
  obtain ⟨a1, a2, a3, a4⟩ := h
  have e2 : fg_R u 191 = fg_R σ 191 := funext (m.2 191 h7)
  exact ⟨a1, a2.sn m h0 h1 h2 h4 h5 h6, by rw [e2]; exact a3, by rw [e2]; exact a4⟩
end
theorem fg_RI.sm (h : fg_RI σ z w P I T v s R B) (m : fg_sm p σ u) (hp : ∀ g, 187 ≤ g → fg_pM g = false → p g = false) : fg_RI u z w P I T v s R B := by
  obtain ⟨a1, a2, a3, a4, a5, a6, a7, a8, a9⟩ := h
  have n := m.sn (hp 187 (by omega) (by decide))
  exact ⟨(funext (n.2 191 (hp _ (by omega) (by decide)))).trans a1, ⟨a2.1.sn n rfl rfl rfl rfl (hp _ (by omega) (by decide)) (hp _ (by omega) (by decide)) (hp _ (by omega) (by decide)), a2.2⟩, a3.sn n rfl (hp _ (by omega) (by decide)), a4.sn n (hp _ (by omega) (by decide)) (hp _ (by omega) (by decide)), a5.sn n rfl (hp _ (by omega) (by decide)), (n.1 11 rfl).trans a6, ⟨a7.1, (n.1 8 rfl).trans a7.2⟩, a8.sn n rfl (hp _ (by omega) (by decide)) (hp _ (by omega) (by decide)), a9.sn n rfl (hp _ (by omega) (by decide)) (hp _ (by omega) (by decide))⟩
theorem fg_RI.m (h : fg_RI σ z w P I T v s R B) (m : fg_sm fg_pM σ u) : fg_RI u z w P I T v s R B := h.sm m (fun _ _ q => q)
theorem fg_RI.c (h : fg_RI σ z w P I T v s R B) (m : fg_sm fg_pC σ u) : fg_RI u z w P I T v s R B := h.sm m (fun g h1 _ => decide_eq_false (by omega))
end
