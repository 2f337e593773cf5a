/-! THE TEXT: what it says, letter by letter; the class reads it -/
def fg_sk (T : fg_GT) : Nat → Nat → Nat
  | 0, p => p
  | m + 1, p => if T.2 p = 32 then fg_sk T m (p + 1) else p
/-- blanks passed -/
def fg_skp (T : fg_GT) (p : Nat) : Nat := fg_sk T (T.1 - p) p
def fg_let (T : fg_GT) (p : Nat) : Int32 := if p < T.1 then nI (T.2 p) else -1
def fg_dge (T : fg_GT) : Nat → Nat → Nat
  | 0, p => p
  | m + 1, p => if 48 ≤ T.2 p ∧ T.2 p ≤ 57 then fg_dge T m (p + 1) else p
/-- figures passed -/
def fg_dgp (T : fg_GT) (p : Nat) : Nat := fg_dge T (T.1 - p) p
def fg_val (T : fg_GT) (p : Nat) : Nat → Nat
  | 0 => 0
  | k + 1 => fg_val T p k * 10 + (T.2 (p + k) - 48)
abbrev fg_Ex (α : Type) : Type := Except (Nat × Nat) α
/-- a letter passed, a number taken: a fault is its number and its place -/
def fg_psc (T : fg_GT) (c p : Nat) : fg_Ex Nat := if fg_let T (fg_skp T p) = nI c then .ok (fg_skp T p + 1) else .error (1, fg_skp T p)
def fg_nmb (T : fg_GT) (lo hi p : Nat) : fg_Ex (Nat × Nat) := if fg_dgp T (fg_skp T p) = fg_skp T p then .error (1, fg_skp T p) else if 3 < fg_dgp T (fg_skp T p) - fg_skp T p then .error (2, fg_skp T p) else if lo ≤ fg_val T (fg_skp T p) (fg_dgp T (fg_skp T p) - fg_skp T p) ∧ fg_val T (fg_skp T p) (fg_dgp T (fg_skp T p) - fg_skp T p) < hi then .ok (fg_val T (fg_skp T p) (fg_dgp T (fg_skp T p) - fg_skp T p), fg_dgp T (fg_skp T p)) else .error (2, fg_skp T p)
section
variable {T : fg_GT} {p : Nat}
theorem fg_skp_ge (h : T.1 ≤ p) : fg_skp T p = p := by
  unfold fg_skp
  rw [show T.1 - p = 0 by omega]
  rfl
theorem fg_skp_b (h : p < T.1) (e : T.2 p = 32) : fg_skp T p = fg_skp T (p + 1) := by
  unfold fg_skp
  rw [show T.1 - p = (T.1 - (p + 1)) + 1 by omega, fg_sk, if_pos e]
theorem fg_skp_n (h : p < T.1) (e : ¬ T.2 p = 32) : fg_skp T p = p := by
  unfold fg_skp
  rw [show T.1 - p = (T.1 - (p + 1)) + 1 by omega, fg_sk, if_neg e]
theorem fg_skp_le : ∀ m p, T.1 - p = m → p ≤ T.1 → p ≤ fg_skp T p ∧ fg_skp T p ≤ T.1 := by
  intro m
  induction m with
  | zero =>
    intro p hm hp
    rw [fg_skp_ge (by omega)]
    omega
  | succ m ih =>
    intro p hm hp
    by_cases e : T.2 p = 32
    · rw [fg_skp_b (by omega) e]
      have := ih (p + 1) (by omega) (by omega)
      omega
    · rw [fg_skp_n (by omega) e]
      omega
theorem fg_skp_i : ∀ m p, T.1 - p = m → fg_skp T (fg_skp T p) = fg_skp T p := by
  intro m
  induction m with
  | zero =>
    intro p hm
    rw [fg_skp_ge (p := p) (by omega), fg_skp_ge (by omega)]
  | succ m ih =>
    intro p hm
    by_cases e : T.2 p = 32
    · rw [fg_skp_b (p := p) (by omega) e]
      exact ih (p + 1) (by omega)
    · rw [fg_skp_n (p := p) (by omega) e, fg_skp_n (by omega) e]
theorem fg_dgp_ge (h : T.1 ≤ p) : fg_dgp T p = p := by
  unfold fg_dgp
  rw [show T.1 - p = 0 by omega]
  rfl
theorem fg_dgp_b (h : p < T.1) (e : 48 ≤ T.2 p ∧ T.2 p ≤ 57) : fg_dgp T p = fg_dgp T (p + 1) := by
  unfold fg_dgp
  rw [show T.1 - p = (T.1 - (p + 1)) + 1 by omega, fg_dge, if_pos e]
theorem fg_dgp_n (h : p < T.1) (e : ¬ (48 ≤ T.2 p ∧ T.2 p ≤ 57)) : fg_dgp T p = p := by
  unfold fg_dgp
  rw [show T.1 - p = (T.1 - (p + 1)) + 1 by omega, fg_dge, if_neg e]
theorem fg_dgp_le : ∀ m p, T.1 - p = m → p ≤ T.1 → p ≤ fg_dgp T p ∧ fg_dgp T p ≤ T.1 := by
  intro m
  induction m with
  | zero =>
    intro p hm hp
    rw [fg_dgp_ge (by omega)]
    omega
  | succ m ih =>
    intro p hm hp
    by_cases e : 48 ≤ T.2 p ∧ T.2 p ≤ 57
    · rw [fg_dgp_b (by omega) e]
      have := ih (p + 1) (by omega) (by omega)
      omega
    · rw [fg_dgp_n (by omega) e]
      omega
theorem fg_let_lt {c : Nat} (hc : c < 2 ^ 31) (h : fg_let T p = nI c) : p < T.1 ∧ nI (T.2 p) = nI c := by
  unfold fg_let at h
  split at h
  · rename_i q
    exact ⟨q, h⟩
  · exact absurd h.symm (fg_nm1 hc)
end
/-- the text's state in the class: where it stands, which fault, where -/
def fg_TS (σ : fg_St) (T : fg_GT) (p n : Nat) (wa : Int32) : Prop := fg_TxX σ T ∧ (p ≤ T.1 ∧ fg_F σ 1 2 = nI p) ∧ fg_F σ 1 3 = nI n ∧ fg_F σ 1 4 = wa
def fg_pT (g : Nat) : Bool := g == 1
def fg_TE (σ : fg_St) (T : fg_GT) : fg_Ex Nat → Prop
  | .ok p => fg_TS σ T p 0 (-1)
  | .error e => (1 ≤ e.1 ∧ e.1 ≤ 3) ∧ ∃ p, fg_TS σ T p e.1 (nI e.2)
section
variable {d : Nat} {σ : fg_St} {Q : Int32 → fg_St → Prop} {T : fg_GT} {p n : Nat} {wa : Int32}
theorem fg_TS.mv (h : fg_TS σ T p n wa) {p' : Nat} (hp : p' ≤ T.1) : fg_TS (fg_sF σ 1 2 (nI p')) T p' n wa := ⟨h.1, ⟨hp, rfl⟩, h.2.2.1, h.2.2.2⟩
theorem fg_TS.bl (h : fg_TS σ T p n wa) {n' q : Nat} : fg_TS (fg_sF (fg_sF σ 1 3 (nI n')) 1 4 (nI q)) T p n' (nI q) := ⟨h.1, h.2.1, rfl, rfl⟩
theorem l_TX_next : ∀ m p (σ : fg_St), T.1 - p = m → fg_TS σ T p n wa → (∀ u, fg_sm fg_pT σ u → fg_TS u T (fg_skp T p) n wa → Q (fg_let T (fg_skp T p)) u) → fg_Run d 46 0 [some (.ref 1)] [] σ Q := by
  intro m
  induction m with
  | zero =>
    intro p σ hm h H
    obtain ⟨⟨t1, t2, t3⟩, ⟨hp, e2⟩, e3, e4⟩ := id h
    rw [fg_skp_ge (by omega)] at H
    have H := H σ fg_sm.rfl' h
    rw [fg_let, if_neg (by omega)] at H
    refine b_TX_nextLetter_0 ?_
    rw [t2, e2]
    have c : nI T.1 ≤ nI p := nI_le (by omega) (by omega)
    exact ⟨fun _ => ⟨fun _ => H, fun q => absurd c q⟩, fun q => absurd c q⟩
  | succ m ih =>
    intro p σ hm h H
    obtain ⟨⟨t1, t2, t3⟩, ⟨hp, e2⟩, e3, e4⟩ := id h
    have hl : p < T.1 := by omega
    have c : ¬ nI T.1 ≤ nI p := nI_ge (by omega) (by omega)
    have vi : vp_in (nI p) 240 := vp_in_nI (by omega) (by decide)
    have c32 : nI (T.2 p) = 32 ↔ T.2 p = 32 := nI_eq (b := 32) (by have := (t3 p hl).2; omega) (by decide)
    refine b_TX_nextLetter_0 ?_
    rw [t2, e2, nI_clamp (by omega), (t3 p hl).1, nI_1, c32]
    refine ⟨fun q => absurd q c, fun _ => ⟨vi, fun q => ⟨fun q => absurd q c, fun _ => ⟨vi, ?_⟩⟩, fun q => ih (p + 1) _ (by omega) (h.mv (by omega)) (fun u mu hu => ?_)⟩⟩
    · rw [fg_skp_n hl q] at H
      have H := H σ fg_sm.rfl' h
      rw [fg_let, if_pos hl] at H
      exact H
    · rw [fg_skp_b hl q] at H
      exact H u ((fg_sm_F (by decide)).tr mu) hu
theorem r_TX_next (h : fg_TS σ T p n wa) (H : ∀ u, fg_sm fg_pT σ u → fg_TS u T (fg_skp T p) n wa → Q (fg_let T (fg_skp T p)) u) : fg_Run d 46 0 [some (.ref 1)] [] σ Q := l_TX_next _ p σ rfl h H
theorem r_TX_blame0 {q k : Nat} (h : fg_TS σ T p 0 wa) (H : ∀ u, fg_sm fg_pT σ u → fg_TS u T p k (nI q) → Q 0 u) : fg_Run d 47 0 [some (.ref 1), some (.int (nI k)), some (.int (nI q))] [] σ Q := by
  refine b_TX_blame_0 ⟨fun x => absurd h.2.2.1 x, fun _ => H _ ((fg_sm_F (by decide)).tr (fg_sm_F (by decide))) h.bl⟩
theorem r_TX_blameE {a b : Int32} (h : fg_TS σ T p n wa) (hn : 1 ≤ n ∧ n ≤ 3) (H : Q 0 σ) : fg_Run d 47 0 [some (.ref 1), some (.int a), some (.int b)] [] σ Q := by
  refine b_TX_blame_0 ⟨fun _ => H, fun x => absurd (h.2.2.1.symm.trans x) (nI_ne0 (by omega) (by omega))⟩
theorem r_TX_pass {c : Nat} {e : fg_Ex Nat} (hc : c < 256) (h : fg_TE σ T e) (H : ∀ u, fg_sm fg_pT σ u → fg_TE u T (e.bind (fg_psc T c)) → Q 0 u) : fg_Run (d + 1) 52 0 [some (.ref 1), some (.int (nI c))] [] σ Q := by
  cases e with
  | ok p =>
    have h : fg_TS σ T p 0 (-1) := h
    refine b_TX_pass_0 ⟨fun _ => fg_use (r_TX_next h (fun u m hu => ⟨fun q => ?_, fun q => ?_⟩)), fun q => absurd h.2.2.1 q⟩
    · rw [hu.2.1.2]
      refine fg_use (r_TX_blame0 hu (k := 1) (fun u2 m2 h2 => H u2 (m.tr m2) ?_))
      show fg_TE u2 T (fg_psc T c p)
      rw [fg_psc, if_neg q]
      exact ⟨by simp, _, h2⟩
    · rw [hu.2.1.2, nI_1]
      refine H _ (m.tr (fg_sm_F (by decide))) ?_
      show fg_TE _ T (fg_psc T c p)
      rw [fg_psc, if_pos q]
      exact hu.mv (fg_let_lt (by omega) q).1
  | error e =>
    obtain ⟨hn, p, hp⟩ := h
    exact b_TX_pass_0 ⟨fun x => absurd (hp.2.2.1.symm.trans x) (nI_ne0 (by omega) (by omega)), fun _ => H σ fg_sm.rfl' ⟨hn, p, hp⟩⟩
theorem fg_val_b : ∀ k, (∀ i, i < k → T.2 (p + i) ≤ 57) → fg_val T p k < 10 ^ k := by
  intro k
  induction k with
  | zero => intro _; simp [fg_val]
  | succ k ih =>
    intro h
    have i1 := ih (fun i hi => h i (by omega))
    have i2 := h k (by omega)
    rw [fg_val, Nat.pow_succ]
    omega
theorem l_TX_number {lo hi f : Nat} {y2 : Int32} (hf : f ≤ T.1) (hlo : lo < 256) (hhi : ∀ v, v ≤ 999 → (nI v ≤ y2 ↔ v < hi)) (H : ∀ u x, fg_sm fg_pT σ u → (if fg_dgp T f = f then fg_TE u T (.error (1, f)) else if 3 < fg_dgp T f - f then fg_TE u T (.error (2, f)) else if lo ≤ fg_val T f (fg_dgp T f - f) ∧ fg_val T f (fg_dgp T f - f) < hi then (fg_TS u T (fg_dgp T f) 0 (-1) ∧ x = nI (fg_val T f (fg_dgp T f - f))) else fg_TE u T (.error (2, f))) → Q x u) : ∀ m a (τ : fg_St), T.1 - a = m → fg_sm fg_pT σ τ → fg_TS τ T a 0 (-1) → f ≤ a → fg_dgp T a = fg_dgp T f → (∀ i, f ≤ i → i < a → T.2 i ≤ 57) → fg_Run (d + 1) 53 22 [some (.ref 1), some (.int (nI lo)), some (.int y2), some (.int (nI f)), some (.int (nI (fg_val T f (if a - f < 3 then a - f else 3))))] [] τ Q := by
  have fin : ∀ a (τ : fg_St), fg_sm fg_pT σ τ → fg_TS τ T a 0 (-1) → f ≤ a → fg_dgp T f = a → (∀ i, f ≤ i → i < a → T.2 i ≤ 57) → ((¬ (nI a) = nI f → ((3 < (nI a - nI f) → (∃ P, fg_Run d 47 0 [some (.ref 1), some (.int 2), some (.int (nI f))] [] τ P ∧ ∀ x1 u2, P x1 u2 → Q (nI (fg_val T f (if a - f < 3 then a - f else 3))) u2)) ∧ (¬ (3 < (nI a - nI f)) → ((nI (fg_val T f (if a - f < 3 then a - f else 3)) < nI lo → (∃ P, fg_Run d 47 0 [some (.ref 1), some (.int 2), some (.int (nI f))] [] τ P ∧ ∀ x3 u4, P x3 u4 → Q (nI (fg_val T f (if a - f < 3 then a - f else 3))) u4)) ∧ (¬ (nI (fg_val T f (if a - f < 3 then a - f else 3)) < nI lo) → ((nI (fg_val T f (if a - f < 3 then a - f else 3)) ≤ y2 → Q (nI (fg_val T f (if a - f < 3 then a - f else 3))) τ) ∧ (¬ (nI (fg_val T f (if a - f < 3 then a - f else 3)) ≤ y2) → (∃ P, fg_Run d 47 0 [some (.ref 1), some (.int 2), some (.int (nI f))] [] τ P ∧ ∀ x5 u6, P x5 u6 → Q (nI (fg_val T f (if a - f < 3 then a - f else 3))) u6)))))))) ∧ ((nI a) = nI f → (∃ P, fg_Run d 47 0 [some (.ref 1), some (.int 1), some (.int (nI f))] [] τ P ∧ ∀ x7 u8, P x7 u8 → Q (nI (fg_val T f (if a - f < 3 then a - f else 3))) u8))) := by
    intro a τ m1 hS hfa ed dig
    obtain ⟨⟨t1, t2, t3⟩, ⟨hp, e2⟩, e3, e4⟩ := id hS
    have ea : nI a = nI f ↔ a = f := nI_eq (by omega) (by omega)
    have es : nI a - nI f = nI (a - f) := pk_sub hfa
    have c3 : 3 < nI (a - f) ↔ 3 < a - f := nI_ltI (a := 3) (by decide) (by omega)
    rw [ea, es, c3]
    rw [ed] at H
    refine ⟨fun n1 => ⟨fun q => fg_use (r_TX_blame0 hS (k := 2) (fun u m2 h2 => H u _ (m1.tr m2) ?_)), fun q => ?_⟩, fun q => fg_use (r_TX_blame0 hS (k := 1) (fun u m2 h2 => H u _ (m1.tr m2) ?_))⟩
    · rw [if_neg n1, if_pos q]
      exact ⟨by simp, a, h2⟩
    · have ek : (if a - f < 3 then a - f else 3) = a - f := by
        split <;> omega
      rw [ek]
      have vb := fg_val_b (T := T) (p := f) (a - f) (fun i hi => dig (f + i) (by omega) (by omega))
      have v1 : fg_val T f (a - f) ≤ 999 := by
        have : 10 ^ (a - f) ≤ 10 ^ 3 := Nat.pow_le_pow_right (by decide) (by omega)
        omega
      have cl : nI (fg_val T f (a - f)) < nI lo ↔ fg_val T f (a - f) < lo := nI_ltI (by omega) (by omega)
      rw [cl, hhi _ v1]
      refine ⟨fun q2 => fg_use (r_TX_blame0 hS (k := 2) (fun u m2 h2 => H u _ (m1.tr m2) ?_)), fun q2 => ⟨fun q4 => H τ _ m1 ?_, fun q4 => fg_use (r_TX_blame0 hS (k := 2) (fun u m2 h2 => H u _ (m1.tr m2) ?_))⟩⟩
      · rw [if_neg n1, if_neg q, if_neg (by omega)]
        exact ⟨by simp, a, h2⟩
      · rw [if_neg n1, if_neg q, if_pos (by omega)]
        exact ⟨hS, rfl⟩
      · rw [if_neg n1, if_neg q, if_neg (by omega)]
        exact ⟨by simp, a, h2⟩
    · rw [if_pos q]
      exact ⟨by simp, a, h2⟩
  intro m
  induction m with
  | zero =>
    intro a τ hm m1 hS hfa ed dig
    obtain ⟨⟨t1, t2, t3⟩, ⟨hp, e2⟩, e3, e4⟩ := id hS
    have c : nI T.1 ≤ nI a := nI_le (by omega) (by omega)
    refine b_TX_parseNumber_22 ?_
    rw [t2, e2]
    refine ⟨fun _ => fin a τ m1 hS hfa ?_ dig, fun q => absurd c q⟩
    rw [← ed]
    exact fg_dgp_ge (by omega)
  | succ m ih =>
    intro a τ hm m1 hS hfa ed dig
    obtain ⟨⟨t1, t2, t3⟩, ⟨hp, e2⟩, e3, e4⟩ := id hS
    have hl : a < T.1 := by omega
    have c : ¬ nI T.1 ≤ nI a := nI_ge (by omega) (by omega)
    have vi : vp_in (nI a) 240 := vp_in_nI (by omega) (by decide)
    have tb := (t3 a hl).2
    have c48 : nI (T.2 a) < 48 ↔ T.2 a < 48 := nI_ltI (b := 48) (by omega) (by decide)
    have c57 : 57 < nI (T.2 a) ↔ 57 < T.2 a := nI_ltI (a := 57) (by decide) (by omega)
    have es : nI a - nI f = nI (a - f) := pk_sub hfa
    have c3 : 3 ≤ nI (a - f) ↔ 3 ≤ a - f := nI_leI (a := 3) (by decide) (by omega)
    refine b_TX_parseNumber_22 ?_
    rw [t2, e2, nI_clamp (by omega), (t3 a hl).1, c48, c57]
    refine ⟨fun q => absurd q c, fun _ => ⟨vi, fun q => fin a τ m1 hS hfa ?_ dig, fun q => ⟨vi, fun q2 => fin a τ m1 hS hfa ?_ dig, fun q2 => ?_⟩⟩⟩
    · rw [← ed]
      exact fg_dgp_n hl (by omega)
    · rw [← ed]
      exact fg_dgp_n hl (by omega)
    · have ih := ih (a + 1) _ (by omega) (m1.tr (fg_sm_F (by decide))) (hS.mv (p' := a + 1) (by omega)) (by omega) (by rw [← ed]; exact (fg_dgp_b hl (by omega)).symm) (fun i h1 h2 => by
        by_cases e : i = a
        · rw [e]; omega
        · exact dig i h1 (by omega))
      rw [es, c3, nI_1]
      refine ⟨fun q3 => ?_, fun q3 => ⟨vi, ?_⟩⟩
      · rw [if_neg (by omega)] at ih ⊢
        exact ih
      · rw [if_pos (by omega)]
        have vb := fg_val_b (T := T) (p := f) (a - f) (fun i hi => dig (f + i) (by omega) (by omega))
        have ev : nI (fg_val T f (a - f)) * 10 + nI (T.2 a) - 48 = nI (fg_val T f (if a + 1 - f < 3 then a + 1 - f else 3)) := by
          have e1 : (if a + 1 - f < 3 then a + 1 - f else 3) = (a - f) + 1 := by
            split <;> omega
          rw [e1, fg_val, show f + (a - f) = a by omega, show (10 : Int32) = nI 10 from rfl, show (48 : Int32) = nI 48 from rfl, pk_mul, nI_add, pk_sub (by omega)]
          congr 1
          omega
        rw [ev]
        exact ih
theorem r_TX_number {lo hi : Nat} {y2 : Int32} {e : fg_Ex Nat} (hlo : lo < 256) (hhi : ∀ v, v ≤ 999 → (nI v ≤ y2 ↔ v < hi)) (h : fg_TE σ T e) (H : ∀ u x, fg_sm fg_pT σ u → fg_TE u T ((e.bind (fg_nmb T lo hi)).map (fun q => q.2)) → (∀ v q, e.bind (fg_nmb T lo hi) = .ok (v, q) → x = nI v) → Q x u) : fg_Run (d + 1) 53 0 [some (.ref 1), some (.int (nI lo)), some (.int y2), none, none] [] σ Q := by
  cases e with
  | ok p =>
    have h : fg_TS σ T p 0 (-1) := h
    refine b_TX_parseNumber_0 ⟨fun _ => fg_use (r_TX_next h (fun u m hu => ?_)), fun q => absurd h.2.2.1 q⟩
    rw [hu.2.1.2]
    have hb := fg_skp_le _ p rfl h.2.1.1
    have go := l_TX_number (d := d) (σ := u) (Q := Q) (T := T) (lo := lo) (hi := hi) (f := fg_skp T p) (y2 := y2) hb.2 hlo hhi (fun u2 x m2 h2 => by
      refine H u2 x (m.tr m2) ?_ ?_
      · show fg_TE u2 T ((fg_nmb T lo hi p).map (fun q => q.2))
        unfold fg_nmb
        split at h2
        · rename_i q1
          rw [if_pos q1]
          exact h2
        · rename_i q1
          rw [if_neg q1]
          split at h2
          · rename_i q2
            rw [if_pos q2]
            exact h2
          · rename_i q2
            rw [if_neg q2]
            split at h2
            · rename_i q3
              rw [if_pos q3]
              exact h2.1
            · rename_i q3
              rw [if_neg q3]
              exact h2
      · intro v q hq
        have hq : fg_nmb T lo hi p = .ok (v, q) := hq
        unfold fg_nmb at hq
        split at h2
        · rename_i q1
          rw [if_pos q1] at hq
          cases hq
        · rename_i q1
          rw [if_neg q1] at hq
          split at h2
          · rename_i q2
            rw [if_pos q2] at hq
            cases hq
          · rename_i q2
            rw [if_neg q2] at hq
            split at h2
            · rename_i q3
              rw [if_pos q3] at hq
              cases hq
              exact h2.2
            · rename_i q3
              rw [if_neg q3] at hq
              cases hq) _ (fg_skp T p) u rfl fg_sm.rfl' hu (Nat.le_refl _) rfl (fun i h1 h2 => absurd h1 (by omega))
    rw [show fg_skp T p - fg_skp T p = 0 by omega, if_pos (by decide)] at go
    exact go
  | error e =>
    obtain ⟨hn, p, hp⟩ := h
    exact b_TX_parseNumber_0 ⟨fun x => absurd (hp.2.2.1.symm.trans x) (nI_ne0 (by omega) (by omega)), fun _ => H σ 0 fg_sm.rfl' ⟨hn, p, hp⟩ (fun v q hq => by cases hq)⟩
end
