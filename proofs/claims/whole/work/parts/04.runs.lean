/-! WHAT RUNS: rules -/
/-- the second knows all locals of the first, and what it knows more is no long -/
def fg_le (L L' : List (Option Value)) : Prop := L.length = L'.length ∧ ∀ k : Nat, L'[k]? = L[k]? ∨ (L[k]? = some none ∧ ∀ v, L'[k]? = some (some v) → v.category = 1)
theorem fg_le.refl (L : List (Option Value)) : fg_le L L := ⟨rfl, fun _ => Or.inl rfl⟩
theorem fg_le.set {L L' : List (Option Value)} (h : fg_le L L') (a : Nat) (v : Option Value) : fg_le (L.set a v) (L'.set a v) := by
  refine ⟨by simp [h.1], fun k => ?_⟩
  by_cases hk : a = k
  · subst hk
    left
    simp [List.getElem?_set, h.1]
  · rcases h.2 k with e | ⟨e1, e2⟩
    · left
      simp [List.getElem?_set, hk, e]
    · right
      refine ⟨by simp [List.getElem?_set, hk, e1], fun x hx => e2 x (by simpa [List.getElem?_set, hk] using hx)⟩
theorem fg_le.lgb {L L' : List (Option Value)} (h : fg_le L L') {a : Nat} (q : fg_lgb L a = false) : fg_lgb L' a = false := by
  unfold fg_lgb at q ⊢
  cases a with
  | zero => rfl
  | succ k =>
    simp only at q ⊢
    rcases h.2 k with e | ⟨e1, e2⟩
    · rw [e]; exact q
    · split
      · rename_i x hx
        rw [e2 x hx]
        rfl
      · rfl
theorem fg_sw_mono {x : Int32} {T T' : Nat → Prop} {df : Nat} (h : ∀ t, T t → T' t) : ∀ (ts : List Nat) (k : Nat), fg_sw x T df k ts → fg_sw x T' df k ts := by
  intro ts
  induction ts with
  | nil => intro k q; exact h _ q
  | cons t ts ih => intro k q; exact ⟨fun e => h _ (q.1 e), fun e => ih _ (q.2 e)⟩
theorem fg_call_mono {S S' : fg_P} (h : ∀ d i pc L st σ Q, S d i pc L st σ Q → S' d i pc L st σ Q) {d a : Nat} {As r : List Value} {σ : fg_St} {K K' : Nat → Int32 → fg_St → Prop} (hK : ∀ d x u, K d x u → K' d x u) (q : fg_call S d a As r σ K) : fg_call S' d a As r σ K' := by
  unfold fg_call at q ⊢
  split at q
  · cases d with
    | zero => exact q
    | succ d =>
      obtain ⟨P, h1, h2⟩ := q
      exact ⟨P, h _ _ _ _ _ _ _ h1, fun x u hp => hK _ _ _ (h2 x u hp)⟩
  · exact q.elim
theorem fg_st1_mono {L L' : List (Option Value)} {a : Nat} {P P' : Prop} (hL : fg_le L L') (h : P → P') (q : fg_st1 L a P) : fg_st1 L' a P' := by
  unfold fg_st1 at q ⊢
  split at q
  · rename_i e
    simp only [Bool.and_eq_true, Bool.not_eq_true'] at e
    rw [← hL.1, e.1, hL.lgb e.2]
    exact h q
  · exact q.elim
theorem fg_st2_mono {L L' : List (Option Value)} {a : Nat} {P P' : Prop} (hL : fg_le L L') (h : P → P') (q : fg_st2 L a P) : fg_st2 L' a P' := by
  unfold fg_st2 at q ⊢
  split at q
  · rename_i e
    simp only [Bool.and_eq_true, Bool.not_eq_true'] at e
    rw [← hL.1, e.1, hL.lgb e.2]
    exact h q
  · exact q.elim
theorem fg_m1_mono {d : Nat} {r : List Value} {P P' : Prop} (h : P → P') (q : fg_m1 d r P) : fg_m1 d r P' := by
  unfold fg_m1 at q ⊢
  split at q
  · cases d with
    | zero => exact q
    | succ d => exact h q
  · exact q.elim
theorem fg_le.at {L L' : List (Option Value)} (h : fg_le L L') {a : Nat} {v : Value} (q : L[a]? = some (some v)) : L'[a]? = some (some v) := by
  rcases h.2 a with e | ⟨e1, e2⟩
  · rw [e]; exact q
  · rw [e1] at q; cases q
set_option maxHeartbeats 4000000 in
theorem fg_op_mono {S S' : fg_P} {Q Q' : Int32 → fg_St → Prop} (h : ∀ d i pc L L' st σ, fg_le L L' → S d i pc L st σ Q → S' d i pc L' st σ Q') (hc : ∀ d i pc L st σ P, S d i pc L st σ P → S' d i pc L st σ P) (hQ : ∀ x u, Q x u → Q' x u) {d i np a b : Nat} {v : Int32} {L L' : List (Option Value)} (hL : fg_le L L') {st : List Value} {σ : fg_St} {op : Nat} (q : fg_op S d i np a b v L st σ Q op) : fg_op S' d i np a b v L' st σ Q' op := by
  unfold fg_op at q ⊢
  split at q
  case h_3 =>
    split at q
    · rename_i e
      rw [hL.at e]
      exact h _ _ _ _ _ _ _ hL q
    · exact q.elim
  case h_4 =>
    split at q
    · rename_i e
      rw [hL.at e]
      exact h _ _ _ _ _ _ _ hL q
    · exact q.elim
  case h_5 =>
    split at q
    · rename_i e
      rw [hL.at e]
      exact h _ _ _ _ _ _ _ hL q
    · exact q.elim
  case h_6 =>
    split at q
    · exact fg_st1_mono hL (h _ _ _ _ _ _ _ (hL.set _ _)) q
    · exact q.elim
  case h_7 =>
    split at q
    · exact fg_st1_mono hL (h _ _ _ _ _ _ _ (hL.set _ _)) q
    · exact q.elim
  case h_8 =>
    split at q
    · exact fg_st2_mono hL (h _ _ _ _ _ _ _ ((hL.set _ _).set _ _)) q
    · exact q.elim
  case h_9 =>
    split at q
    · rename_i e
      rw [hL.at e]
      exact fg_st1_mono hL (h _ _ _ _ _ _ _ (hL.set _ _)) q
    · exact q.elim
  case h_26 =>
    split at q
    · split at q
      · exact fg_sw_mono (fun t => h _ _ _ _ _ _ _ hL) _ _ q
      · exact q.elim
    · exact q.elim
  case h_31 =>
    split at q
    · refine ⟨q.1, ?_⟩
      have q := q.2
      split at q <;> first | exact h _ _ _ _ _ _ _ hL q | exact q.elim
    · exact q.elim
  case h_38 =>
    split at q
    · exact ⟨q.1, fg_call_mono hc (fun d x u => h _ _ _ _ _ _ _ hL) q.2⟩
    · exact q.elim
  case h_39 =>
    split at q
    · exact ⟨q.1, fg_call_mono hc (fun d x u => h _ _ _ _ _ _ _ hL) q.2⟩
    · exact q.elim
  case h_40 =>
    split at q
    · exact fg_call_mono hc (fun d x u => h _ _ _ _ _ _ _ hL) q
    · exact q.elim
  case h_41 =>
    split at q
    · exact fg_call_mono hc (fun d x u => h _ _ _ _ _ _ _ hL) q
    · exact q.elim
  case h_42 =>
    split at q
    · exact fg_call_mono hc (fun d x u => h _ _ _ _ _ _ _ hL) q
    · exact q.elim
  case h_43 =>
    split at q
    · split at q
      · exact q.elim
      · obtain ⟨q1, q2, q3, q4, q5, q6⟩ := q
        exact ⟨q1, q2, q3, q4, q5, h _ _ _ _ _ _ _ hL q6⟩
    · exact q.elim
  case h_44 =>
    split at q
    · exact hQ _ _ q
    · exact q.elim
  case h_45 =>
    split at q
    · exact ⟨q.1, hQ _ _ q.2⟩
    · exact q.elim
  case h_46 =>
    split at q
    · exact hQ _ _ q
    · exact q.elim
  all_goals first
    | exact h _ _ _ _ _ _ _ hL q
    | exact q
    | (split at q
       all_goals first
         | exact q.elim
         | exact h _ _ _ _ _ _ _ hL q
         | exact ⟨q.1, h _ _ _ _ _ _ _ hL q.2⟩
         | exact ⟨q.1, q.2.1, h _ _ _ _ _ _ _ hL q.2.2⟩
         | exact ⟨q.1, q.2.1, q.2.2.1, h _ _ _ _ _ _ _ hL q.2.2.2⟩
         | exact ⟨fun c => h _ _ _ _ _ _ _ hL (q.1 c), fun c => h _ _ _ _ _ _ _ hL (q.2 c)⟩
         | exact fg_m1_mono (h _ _ _ _ _ _ _ hL) q)
theorem fg_G_mono3 {S S' : fg_P} {Q Q' : Int32 → fg_St → Prop} (h : ∀ d i pc L L' st σ, fg_le L L' → S d i pc L st σ Q → S' d i pc L' st σ Q') (hc : ∀ d i pc L st σ P, S d i pc L st σ P → S' d i pc L st σ P) (hQ : ∀ x u, Q x u → Q' x u) {d i pc : Nat} {L L' : List (Option Value)} (hL : fg_le L L') {st : List Value} {σ : fg_St} (q : fg_G S d i pc L st σ Q) : fg_G S' d i pc L' st σ Q' := by
  unfold fg_G at q ⊢
  split at q
  · exact q.elim
  · exact fg_op_mono h hc hQ hL q
theorem fg_op_lift {S S' : fg_P} (h : ∀ d i pc L st σ Q, S d i pc L st σ Q → S' d i pc L st σ Q) {d i np a b : Nat} {v : Int32} {L : List (Option Value)} {st : List Value} {σ : fg_St} {Q : Int32 → fg_St → Prop} {op : Nat} (q : fg_op S d i np a b v L st σ Q op) : fg_op S' d i np a b v L st σ Q op := by
  unfold fg_op at q ⊢
  split at q
  case h_6 =>
    split at q
    · exact fg_st1_mono (fg_le.refl L) (h _ _ _ _ _ _ _) q
    · exact q.elim
  case h_7 =>
    split at q
    · exact fg_st1_mono (fg_le.refl L) (h _ _ _ _ _ _ _) q
    · exact q.elim
  case h_8 =>
    split at q
    · exact fg_st2_mono (fg_le.refl L) (h _ _ _ _ _ _ _) q
    · exact q.elim
  case h_9 =>
    split at q
    · exact fg_st1_mono (fg_le.refl L) (h _ _ _ _ _ _ _) q
    · exact q.elim
  case h_26 =>
    split at q
    · split at q
      · exact fg_sw_mono (fun t => h _ _ _ _ _ _ _) _ _ q
      · exact q.elim
    · exact q.elim
  case h_31 =>
    split at q
    · refine ⟨q.1, ?_⟩
      have q := q.2
      split at q <;> first | exact h _ _ _ _ _ _ _ q | exact q.elim
    · exact q.elim
  case h_38 =>
    split at q
    · exact ⟨q.1, fg_call_mono h (fun d x u => h _ _ _ _ _ _ _) q.2⟩
    · exact q.elim
  case h_39 =>
    split at q
    · exact ⟨q.1, fg_call_mono h (fun d x u => h _ _ _ _ _ _ _) q.2⟩
    · exact q.elim
  case h_40 =>
    split at q
    · exact fg_call_mono h (fun d x u => h _ _ _ _ _ _ _) q
    · exact q.elim
  case h_41 =>
    split at q
    · exact fg_call_mono h (fun d x u => h _ _ _ _ _ _ _) q
    · exact q.elim
  case h_42 =>
    split at q
    · exact fg_call_mono h (fun d x u => h _ _ _ _ _ _ _) q
    · exact q.elim
  case h_43 =>
    split at q
    · split at q
      · exact q.elim
      · obtain ⟨q1, q2, q3, q4, q5, q6⟩ := q
        exact ⟨q1, q2, q3, q4, q5, h _ _ _ _ _ _ _ q6⟩
    · exact q.elim
  all_goals first
    | exact h _ _ _ _ _ _ _ q
    | exact q
    | (split at q
       all_goals first
         | exact q.elim
         | exact h _ _ _ _ _ _ _ q
         | exact q
         | exact ⟨q.1, h _ _ _ _ _ _ _ q.2⟩
         | exact ⟨q.1, q.2.1, h _ _ _ _ _ _ _ q.2.2⟩
         | exact ⟨q.1, q.2.1, q.2.2.1, h _ _ _ _ _ _ _ q.2.2.2⟩
         | exact ⟨fun c => h _ _ _ _ _ _ _ (q.1 c), fun c => h _ _ _ _ _ _ _ (q.2 c)⟩
         | exact fg_m1_mono (h _ _ _ _ _ _ _) q)
theorem fg_G_mono {S S' : fg_P} (h : ∀ d i pc L st σ Q, S d i pc L st σ Q → S' d i pc L st σ Q) {d i pc : Nat} {L : List (Option Value)} {st : List Value} {σ : fg_St} {Q : Int32 → fg_St → Prop} (q : fg_G S d i pc L st σ Q) : fg_G S' d i pc L st σ Q := by
  unfold fg_G at q ⊢
  split at q
  · exact q.elim
  · exact fg_op_lift h q
theorem fg_Run.intro {d i pc : Nat} {L : List (Option Value)} {st : List Value} {σ : fg_St} {Q : Int32 → fg_St → Prop} (q : fg_G fg_Run d i pc L st σ Q) : fg_Run d i pc L st σ Q :=
  fun S hS => hS _ _ _ _ _ _ _ (fg_G_mono (fun _ _ _ _ _ _ _ r => r S hS) q)
/-- more known locals, a weaker end -/
theorem fg_Run.more {d i pc : Nat} {L L' : List (Option Value)} {st : List Value} {σ : fg_St} {Q Q' : Int32 → fg_St → Prop} (hL : fg_le L L') (h : ∀ x u, Q x u → Q' x u) (q : fg_Run d i pc L st σ Q) : fg_Run d i pc L' st σ Q' := by
  have k := q (fun d i pc L st σ Q => ∀ L' Q', fg_le L L' → (∀ x u, Q x u → Q' x u) → fg_Run d i pc L' st σ Q') (fun d i pc L st σ Q g L' Q' hL h => by
    refine fg_Run.intro (fg_G_mono3 (Q := Q) (fun d i pc L L' st σ hl s => s _ _ hl h) (fun d i pc L st σ P s => s _ _ (fg_le.refl L) (fun _ _ z => z)) h hL g))
  exact k L' Q' hL h
theorem fg_Run.weaken {d i pc : Nat} {L : List (Option Value)} {st : List Value} {σ : fg_St} {Q Q' : Int32 → fg_St → Prop} (h : ∀ x u, Q x u → Q' x u) (q : fg_Run d i pc L st σ Q) : fg_Run d i pc L st σ Q' := q.more (fg_le.refl L) h
/-- locals forgotten, place by place -/
def fg_nl : Option Value → Prop
  | some (.long _) => False
  | some (.double _) => False
  | _ => True
def fg_leR : List (Option Value) → List (Option Value) → Prop
  | [], [] => True
  | none :: t, o :: t' => fg_nl o ∧ fg_leR t t'
  | some v :: t, o :: t' => o = some v ∧ fg_leR t t'
  | _, _ => False
theorem fg_leR.le : ∀ {L L' : List (Option Value)}, fg_leR L L' → fg_le L L' := by
  intro L
  induction L with
  | nil =>
    intro L' h
    cases L' with
    | nil => exact fg_le.refl _
    | cons _ _ => exact h.elim
  | cons a t ih =>
    intro L' h
    cases L' with
    | nil => cases a <;> exact h.elim
    | cons o t' =>
      cases a with
      | none =>
        obtain ⟨h1, h2⟩ := h
        have h3 := ih h2
        refine ⟨by simp [h3.1], fun k => ?_⟩
        cases k with
        | zero =>
          right
          refine ⟨rfl, fun x e => ?_⟩
          have e : o = some x := by simpa using e
          subst e
          cases x <;> first | rfl | exact h1.elim
        | succ k => simpa using h3.2 k
      | some v =>
        obtain ⟨h1, h2⟩ := h
        have h3 := ih h2
        subst h1
        refine ⟨by simp [h3.1], fun k => ?_⟩
        cases k with
        | zero => left; rfl
        | succ k => simpa using h3.2 k
theorem fg_Run.drop {d i pc : Nat} {L L' : List (Option Value)} {st : List Value} {σ : fg_St} {Q : Int32 → fg_St → Prop} (hL : fg_leR L L') (q : fg_Run d i pc L st σ Q) : fg_Run d i pc L' st σ Q := q.more hL.le (fun _ _ z => z)
def fg_mem : List Nat → Nat → Bool
  | [], _ => false
  | a :: t, q => match Nat.beq a q with
    | true => true
    | false => fg_mem t q
/-- n steps at most, to the next cut -/
def fg_B (S : fg_P) (cuts : List Nat) : Nat → fg_P
  | 0 => S
  | n + 1 => fun d i pc L st σ Q => match fg_mem cuts pc with
    | true => S d i pc L st σ Q
    | false => fg_G (fg_B S cuts n) d i pc L st σ Q
theorem fg_B_run (cuts : List Nat) : ∀ (n d i pc : Nat) (L : List (Option Value)) (st : List Value) (σ : fg_St) (Q : Int32 → fg_St → Prop), fg_B fg_Run cuts n d i pc L st σ Q → fg_Run d i pc L st σ Q := by
  intro n
  induction n with
  | zero => intro d i pc L st σ Q q; exact q
  | succ n ih =>
    intro d i pc L st σ Q q
    unfold fg_B at q
    split at q
    · exact q
    · exact fg_Run.intro (fg_G_mono ih q)
/-- a stretch of code: n steps at most, to the next cut (0 is one: a call's beginning) -/
theorem fg_blk (cuts : List Nat) (n : Nat) {d i pc : Nat} {L : List (Option Value)} {st : List Value} {σ : fg_St} {Q : Int32 → fg_St → Prop} (q : fg_G (fg_B fg_Run cuts n) d i pc L st σ Q) : fg_Run d i pc L st σ Q :=
  fg_Run.intro (fg_G_mono (fg_B_run cuts n) q)
theorem fg_cls {h c a : Nat} (e : fg_kd h = c) (r : (fg_mt[a]?.map fun m => m.1.cls) = (vwCl[c]?.map fun q => q.1)) : (fg_mt[a]?.map fun m => m.1.cls) = (vwCl[fg_kd h]?.map fun q => q.1) := by rw [e]; exact r
/-- rows copied -/
abbrev fg_cp (σ : fg_St) (h t sp dp n : Nat) : fg_St := (σ.1, σ.2.1, σ.2.2.1, va_up σ.2.2.2 t (va_cpy (σ.2.2.2 h) (σ.2.2.2 t) sp dp n))
theorem fg_vin {j : Int32} {n : Nat} (h1 : decide (j < 0) = false) (h2 : decide (n ≤ j.toNatClampNeg) = false) : vp_in j n := fun h => h.elim (of_decide_eq_false h1) (of_decide_eq_false h2)
/-- the decks but the one now -/
def fg_dks : List Nat := [42, 51, 59, 67, 75, 83, 91, 99, 107, 115, 123, 131, 139, 147, 155, 163, 171, 179]
theorem fg_nng : ¬ (0 : Int32) < 0 ∧ ¬ (0 : Int32) < 0 ∧ ¬ (10 : Int32) < 0 := ⟨by decide, by decide, by decide⟩
