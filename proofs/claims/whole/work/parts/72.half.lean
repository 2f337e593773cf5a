/-! THE ABSTRACT MACHINE OVER THE CLASS'S CELLS ALONE (laid by wip/whole/clone.py) -/
def fh_kl : List Nat := [9, 7, 11, 6, 11, 11, 11, 11, 11, 6, 11, 11, 11, 11, 11, 0, 11, 11, 11, 11, 11, 11, 11, 4, 13, 14, 3, 11, 11, 11, 11, 2, 11, 8, 11, 11, 11, 5, 12, 11, 11, 1, 0, 11, 11, 11, 11, 11, 11, 11, 1, 0, 11, 11, 11, 11, 11, 11, 11, 0, 11, 11, 11, 11, 11, 11, 11, 0, 11, 11, 11, 11, 11, 11, 11, 0, 11, 11, 11, 11, 11, 11, 11, 0, 11, 11, 11, 11, 11, 11, 11, 0, 11, 11, 11, 11, 11, 11, 11, 0, 11, 11, 11, 11, 11, 11, 11, 0, 11, 11, 11, 11, 11, 11, 11, 0, 11, 11, 11, 11, 11, 11, 11, 0, 11, 11, 11, 11, 11, 11, 11, 0, 11, 11, 11, 11, 11, 11, 11, 0, 11, 11, 11, 11, 11, 11, 11, 0, 11, 11, 11, 11, 11, 11, 11, 0, 11, 11, 11, 11, 11, 11, 11, 0, 11, 11, 11, 11, 11, 11, 11, 0, 11, 11, 11, 11, 11, 11, 11, 0, 11, 11, 11, 11, 11, 11, 11]
def fh_kd (h : Nat) : Nat := fh_kl.getD h 99
def fh_pt (σ : fg_St) (h k : Nat) : Nat := match fh_kd h with
  | 0 => h + 1 + k
  | 1 => h + 1
  | 2 => h + 1
  | 3 => h + 1 + k
  | 4 => h + 1
  | 5 => h + 1 + k
  | 6 => h + k - 3
  | 7 => h + 1
  | 8 => h + 1 + k
  | 9 => (match k with
    | 0 => 1
    | 1 => σ.1
    | 2 => σ.2.1
    | 3 => 15
    | 4 => 23
    | 5 => 25
    | 6 => 26
    | 7 => 31
    | 8 => 33
    | 9 => 37
    | _ => 40)
  | _ => fg_mp.getD k 0
def fh_ra (h j : Nat) : Nat := if h = 24 then 59 + 8 * j else 41 + 9 * j
def fh_rf (c k : Nat) : Bool := match c with
  | 0 => Nat.blt k 7
  | 1 => Nat.beq k 0
  | 2 => Nat.beq k 2
  | 3 => Nat.blt k 4
  | 4 => Nat.beq k 0
  | 5 => true
  | 6 => Nat.ble 4 k
  | 7 => Nat.beq k 0
  | 8 => Nat.blt k 3
  | 9 => Nat.blt k 11
  | _ => Nat.blt 0 (fg_mp.getD k 0)
def fh_nf : List Nat := [12, 3, 3, 6, 3, 2, 9, 5, 4, 13, 37]
def fh_bin (b : Nat) (x y : Int32) : Int32 := match b with
  | 0 => x + y
  | 1 => x - y
  | 2 => x * y
  | 3 => x &&& y
  | 4 => x ||| y
  | 5 => x ^^^ y
  | 6 => x <<< (y &&& 31)
  | 7 => x >>> (y &&& 31)
  | _ => (x.toUInt32 >>> (y.toUInt32 &&& Int32.toUInt32 31)).toInt32
def fh_lbin (b : Nat) (x y : Int64) : Int64 := match b with
  | 0 => x + y
  | 1 => x * y
  | _ => x &&& y
def fh_cnd (b : Nat) (x y : Int32) : Prop := match b with
  | 0 => x = y
  | 1 => ¬ x = y
  | 2 => x < y
  | 3 => y ≤ x
  | 4 => y < x
  | _ => x ≤ y
def fh_look : List fg_I → Nat → Option (Nat × Nat × Nat × Nat × Int32 × Nat)
  | [], _ => none
  | (q, r) :: t, pc => match Nat.beq q pc with
    | true => some r
    | false => fh_look t pc
abbrev fh_P : Type := Nat → Nat → Nat → List (Option Value) → List Value → fg_St → (Int32 → fg_St → Prop) → Prop
def fh_lgb (L : List (Option Value)) (a : Nat) : Bool := match a with
  | 0 => false
  | k + 1 => match L[k]? with
    | some (some v) => Nat.beq v.category 2
    | _ => false
def fh_st1 (L : List (Option Value)) (a : Nat) (P : Prop) : Prop := match Nat.blt a L.length && !(fh_lgb L a) with
  | true => P
  | false => False
def fh_st2 (L : List (Option Value)) (a : Nat) (P : Prop) : Prop := match Nat.blt (a + 1) L.length && !(fh_lgb L a) with
  | true => P
  | false => False
def fh_sw (x : Int32) (T : Nat → Prop) (df : Nat) : Nat → List Nat → Prop
  | _, [] => T df
  | k, t :: ts => (x = Int32.ofNat k → T t) ∧ (¬ x = Int32.ofNat k → fh_sw x T df (k + 1) ts)
def fh_pop : Nat → List Value → List Value → Option (List Value × List Value)
  | 0, acc, st => some (acc, st)
  | n + 1, acc, v :: st => fh_pop n (v :: acc) st
  | _ + 1, _, [] => none
def fh_fl : List Value → List (Option Value)
  | [] => []
  | v :: r => match Nat.beq v.category 2 with
    | true => some v :: none :: fh_fl r
    | false => some v :: fh_fl r
def fh_ent (ml : Nat) (vs : List Value) : List (Option Value) := fh_fl vs ++ List.replicate (ml - (fh_fl vs).length) none
def fh_cat (st : List Value) : Nat := (st.map fun v => v.category).sum
def fh_ml (i : Nat) : Nat := match fg_mt[i]? with
  | some m => m.2.2.1
  | none => 0
def fh_call (S : fh_P) (d a : Nat) (As : List Value) (r : List Value) (σ : fg_St) (K : Nat → Int32 → fg_St → Prop) : Prop := match Nat.ble (fh_cat r) 8 && Nat.ble (fh_fl As).length (fh_ml a) with
  | true => (match d with
    | 0 => False
    | d' + 1 => ∃ P : Int32 → fg_St → Prop, S d' a 0 (fh_ent (fh_ml a) As) [] σ P ∧ ∀ (x : Int32) (u : fg_St), P x u → K (d' + 1) x u)
  | false => False
def fh_m1 (d : Nat) (r : List Value) (P : Prop) : Prop := match Nat.ble (fh_cat r) 8 with
  | true => (match d with
    | 0 => False
    | _ + 1 => P)
  | false => False
def fh_op (S : fh_P) (d i np a b : Nat) (v : Int32) (L : List (Option Value)) (st : List Value) (σ : fg_St) (Q : Int32 → fg_St → Prop) (op : Nat) : Prop := match op with
  | 0 => S d i np L (.int v :: st) σ Q
  | 1 => S d i np L (.long (Int64.ofNat a) :: st) σ Q
  | 2 => (match L[a]? with
    | some (some (.int x)) => S d i np L (.int x :: st) σ Q
    | _ => False)
  | 3 => (match L[a]? with
    | some (some (.ref x)) => S d i np L (.ref x :: st) σ Q
    | _ => False)
  | 4 => (match L[a]? with
    | some (some (.long x)) => S d i np L (.long x :: st) σ Q
    | _ => False)
  | 5 => (match st with
    | .int x :: r => fh_st1 L a (S d i np (L.set a (some (.int x))) r σ Q)
    | _ => False)
  | 6 => (match st with
    | .ref x :: r => fh_st1 L a (S d i np (L.set a (some (.ref x))) r σ Q)
    | _ => False)
  | 7 => (match st with
    | .long x :: r => fh_st2 L a (S d i np ((L.set a (some (.long x))).set (a + 1) none) r σ Q)
    | _ => False)
  | 8 => (match L[a]? with
    | some (some (.int x)) => fh_st1 L a (S d i np (L.set a (some (.int (x + v)))) st σ Q)
    | _ => False)
  | 9 => (match st with
    | .int y :: .int x :: r => S d i np L (.int (fh_bin b x y) :: r) σ Q
    | _ => False)
  | 10 => (match st with
    | .int y :: .int x :: r => ¬ y = 0 ∧ S d i np L (.int (x / y) :: r) σ Q
    | _ => False)
  | 11 => (match st with
    | .int y :: .int x :: r => ¬ y = 0 ∧ S d i np L (.int (x - x / y * y) :: r) σ Q
    | _ => False)
  | 12 => (match st with
    | .int x :: r => S d i np L (.int (-x) :: r) σ Q
    | _ => False)
  | 13 => (match st with
    | .int x :: r => S d i np L (.long x.toInt64 :: r) σ Q
    | _ => False)
  | 14 => (match st with
    | .long x :: r => S d i np L (.int x.toInt32 :: r) σ Q
    | _ => False)
  | 15 => (match st with
    | .long y :: .long x :: r => S d i np L (.long (fh_lbin b x y) :: r) σ Q
    | _ => False)
  | 16 => (match st with
    | .long y :: .long x :: r => ¬ y = 0 ∧ S d i np L (.long (x / y) :: r) σ Q
    | _ => False)
  | 17 => (match st with
    | .long y :: .long x :: r => ¬ y = 0 ∧ S d i np L (.long (x - x / y * y) :: r) σ Q
    | _ => False)
  | 18 => (match st with
    | .long y :: .long x :: r => S d i np L (.int (lg_cmp x y) :: r) σ Q
    | _ => False)
  | 19 => (match st with
    | .int x :: r => S d i np L (.int x :: .int x :: r) σ Q
    | .ref x :: r => S d i np L (.ref x :: .ref x :: r) σ Q
    | _ => False)
  | 20 => (match st with
    | .int _ :: r => S d i np L r σ Q
    | .ref _ :: r => S d i np L r σ Q
    | _ => False)
  | 21 => (match st with
    | .int x :: .ref y :: r => S d i np L (.int x :: .ref y :: .int x :: .ref y :: r) σ Q
    | _ => False)
  | 22 => S d i a L st σ Q
  | 23 => (match st with
    | .int x :: r => (fh_cnd b x 0 → S d i a L r σ Q) ∧ (¬ fh_cnd b x 0 → S d i np L r σ Q)
    | _ => False)
  | 24 => (match st with
    | .int y :: .int x :: r => (fh_cnd b x y → S d i a L r σ Q) ∧ (¬ fh_cnd b x y → S d i np L r σ Q)
    | _ => False)
  | 25 => (match st with
    | .int x :: r => (match fg_swt[a]? with
      | some q => fh_sw x (fun t => S d i t L r σ Q) q.2 0 q.1
      | none => False)
    | _ => False)
  | 26 => (match st with
    | .ref h :: r => fh_kd h = a ∧ S d i np L (.int (fg_F σ h b) :: r) σ Q
    | _ => False)
  | 27 => (match st with
    | .ref h :: r => fh_kd h = a ∧ S d i np L (.ref (fh_pt σ h b) :: r) σ Q
    | _ => False)
  | 28 => (match st with
    | .int x :: .ref h :: r => fh_kd h = a ∧ S d i np L r (fg_sF σ h b x) Q
    | _ => False)
  | 29 => (match st with
    | .int x :: .ref h :: r => fh_kd h = a ∧ (x = 0 ∨ x = 1) ∧ S d i np L r (fg_sF σ h b x) Q
    | _ => False)
  | 30 => (match st with
    | .ref y :: .ref h :: r => h = 0 ∧ (match b with
      | 1 => S d i np L r (y, σ.2.1, σ.2.2) Q
      | 2 => S d i np L r (σ.1, y, σ.2.2) Q
      | _ => False)
    | _ => False)
  | 31 => (match st with
    | .int j :: .ref h :: r => fh_kd h = 11 ∧ vp_in j (fg_ln h) ∧ S d i np L (.int (fg_R σ h j.toNatClampNeg) :: r) σ Q
    | _ => False)
  | 32 => (match st with
    | .int x :: .int j :: .ref h :: r => fh_kd h = 11 ∧ vp_in j (fg_ln h) ∧ S d i np L r (fg_sR σ h j.toNatClampNeg x) Q
    | _ => False)
  | 33 => (match st with
    | .int j :: .ref h :: r => fh_kd h = 12 ∧ vp_in j (fg_ln h) ∧ S d i np L (.int (fg_R σ h j.toNatClampNeg) :: r) σ Q
    | _ => False)
  | 34 => (match st with
    | .int x :: .int j :: .ref h :: r => fh_kd h = 12 ∧ vp_in j (fg_ln h) ∧ (x = 0 ∨ x = 1) ∧ S d i np L r (fg_sR σ h j.toNatClampNeg x) Q
    | _ => False)
  | 35 => (match st with
    | .int j :: .ref h :: r => (fh_kd h = 13 ∨ fh_kd h = 14) ∧ vp_in j (fg_ln h) ∧ S d i np L (.ref (fh_ra h j.toNatClampNeg) :: r) σ Q
    | _ => False)
  | 36 => (match st with
    | .ref h :: r => (11 ≤ fh_kd h ∧ fh_kd h ≤ 14) ∧ S d i np L (.int (Int32.ofNat (fg_ln h)) :: r) σ Q
    | _ => False)
  | 37 => (match fh_pop b [] st with
    | some (As, .ref h :: r) => (fg_mt[a]?.map fun m => m.1.cls) = (vwCl[fh_kd h]?.map fun q => q.1) ∧ fh_call S d a (.ref h :: As) r σ (fun d x u => S d i np L (.int x :: r) u Q)
    | _ => False)
  | 38 => (match fh_pop b [] st with
    | some (As, .ref h :: r) => (fg_mt[a]?.map fun m => m.1.cls) = (vwCl[fh_kd h]?.map fun q => q.1) ∧ fh_call S d a (.ref h :: As) r σ (fun d _ u => S d i np L r u Q)
    | _ => False)
  | 39 => (match fh_pop b [] st with
    | some (As, r) => fh_call S d a As r σ (fun d x u => S d i np L (.int x :: r) u Q)
    | _ => False)
  | 40 => (match fh_pop b [] st with
    | some (As, r) => fh_call S d a As r σ (fun d _ u => S d i np L r u Q)
    | _ => False)
  | 41 => (match fh_pop b [] st with
    | some (As, r) => fh_call S d a As r σ (fun d x u => S d i np L (.int x :: r) u Q)
    | _ => False)
  | 42 => (match st with
    | .int n :: .int dp :: .ref t :: .int sp :: .ref h :: [] => (match d with
      | 0 => False
      | d' + 1 => fh_kd h = 11 ∧ fh_kd t = 11 ∧ (¬ sp < 0 ∧ ¬ dp < 0 ∧ ¬ n < 0) ∧ sp.toNatClampNeg + n.toNatClampNeg ≤ fg_ln h ∧ dp.toNatClampNeg + n.toNatClampNeg ≤ fg_ln t ∧ S (d' + 1) i np L [] (σ.1, σ.2.1, σ.2.2.1, va_up σ.2.2.2 t (va_cpy (σ.2.2.2 h) (σ.2.2.2 t) sp.toNatClampNeg dp.toNatClampNeg n.toNatClampNeg)) Q)
    | _ => False)
  | 43 => (match st with
    | [.int x] => Q x σ
    | _ => False)
  | 44 => (match st with
    | [.int x] => (x = 0 ∨ x = 1) ∧ Q x σ
    | _ => False)
  | 45 => (match st with
    | [] => Q 0 σ
    | _ => False)
  | 46 => (match st with
    | .int y :: .int x :: r => fh_m1 d r (S d i np L (.int (if y < x then y else x) :: r) σ Q)
    | _ => False)
  | 47 => (match st with
    | .int y :: .int x :: r => fh_m1 d r (S d i np L (.int (if x < y then y else x) :: r) σ Q)
    | _ => False)
  | _ => False
def fh_G (S : fh_P) : fh_P := fun d i pc L st σ Q => match fh_look (fg_cd.getD i []) pc with
  | none => False
  | some q => fh_op S d i q.1 q.2.2.1 q.2.2.2.1 q.2.2.2.2.1 L st σ Q q.2.1
def fh_Run : fh_P := fun d i pc L st σ Q => ∀ S : fh_P, (∀ d i pc L st σ Q, fh_G S d i pc L st σ Q → S d i pc L st σ Q) → S d i pc L st σ Q

/-! WHAT RUNS: rules -/
def fh_le (L L' : List (Option Value)) : Prop := L.length = L'.length ∧ ∀ k : Nat, L'[k]? = L[k]? ∨ (L[k]? = some none ∧ ∀ v, L'[k]? = some (some v) → v.category = 1)
theorem fh_le.refl (L : List (Option Value)) : fh_le L L := ⟨rfl, fun _ => Or.inl rfl⟩
theorem fh_le.set {L L' : List (Option Value)} (h : fh_le L L') (a : Nat) (v : Option Value) : fh_le (L.set a v) (L'.set a v) := by
  refine ⟨by simp [h.1], fun k => ?_⟩
  by_cases hk : a = k
  · subst hk
    left
    simp [List.getElem?_set, h.1]
  · rcases h.2 k with e | ⟨e1, e2⟩
    · left
      simp [List.getElem?_set, hk, e]
    · right
      refine ⟨by simp [List.getElem?_set, hk, e1], fun x hx => e2 x (by simpa [List.getElem?_set, hk] using hx)⟩
theorem fh_le.lgb {L L' : List (Option Value)} (h : fh_le L L') {a : Nat} (q : fh_lgb L a = false) : fh_lgb L' a = false := by
  unfold fh_lgb at q ⊢
  cases a with
  | zero => rfl
  | succ k =>
    simp only at q ⊢
    rcases h.2 k with e | ⟨e1, e2⟩
    · rw [e]; exact q
    · split
      · rename_i x hx
        rw [e2 x hx]
        rfl
      · rfl
theorem fh_sw_mono {x : Int32} {T T' : Nat → Prop} {df : Nat} (h : ∀ t, T t → T' t) : ∀ (ts : List Nat) (k : Nat), fh_sw x T df k ts → fh_sw x T' df k ts := by
  intro ts
  induction ts with
  | nil => intro k q; exact h _ q
  | cons t ts ih => intro k q; exact ⟨fun e => h _ (q.1 e), fun e => ih _ (q.2 e)⟩
theorem fh_call_mono {S S' : fh_P} (h : ∀ d i pc L st σ Q, S d i pc L st σ Q → S' d i pc L st σ Q) {d a : Nat} {As r : List Value} {σ : fg_St} {K K' : Nat → Int32 → fg_St → Prop} (hK : ∀ d x u, K d x u → K' d x u) (q : fh_call S d a As r σ K) : fh_call S' d a As r σ K' := by
  unfold fh_call at q ⊢
  split at q
  · cases d with
    | zero => exact q
    | succ d =>
      obtain ⟨P, h1, h2⟩ := q
      exact ⟨P, h _ _ _ _ _ _ _ h1, fun x u hp => hK _ _ _ (h2 x u hp)⟩
  · exact q.elim
theorem fh_st1_mono {L L' : List (Option Value)} {a : Nat} {P P' : Prop} (hL : fh_le L L') (h : P → P') (q : fh_st1 L a P) : fh_st1 L' a P' := by
  unfold fh_st1 at q ⊢
  split at q
  · rename_i e
    simp only [Bool.and_eq_true, Bool.not_eq_true'] at e
    rw [← hL.1, e.1, hL.lgb e.2]
    exact h q
  · exact q.elim
theorem fh_st2_mono {L L' : List (Option Value)} {a : Nat} {P P' : Prop} (hL : fh_le L L') (h : P → P') (q : fh_st2 L a P) : fh_st2 L' a P' := by
  unfold fh_st2 at q ⊢
  split at q
  · rename_i e
    simp only [Bool.and_eq_true, Bool.not_eq_true'] at e
    rw [← hL.1, e.1, hL.lgb e.2]
    exact h q
  · exact q.elim
theorem fh_m1_mono {d : Nat} {r : List Value} {P P' : Prop} (h : P → P') (q : fh_m1 d r P) : fh_m1 d r P' := by
  unfold fh_m1 at q ⊢
  split at q
  · cases d with
    | zero => exact q
    | succ d => exact h q
  · exact q.elim
theorem fh_le.at {L L' : List (Option Value)} (h : fh_le L L') {a : Nat} {v : Value} (q : L[a]? = some (some v)) : L'[a]? = some (some v) := by
  rcases h.2 a with e | ⟨e1, e2⟩
  · rw [e]; exact q
  · rw [e1] at q; cases q
set_option maxHeartbeats 4000000 in
theorem fh_op_mono {S S' : fh_P} {Q Q' : Int32 → fg_St → Prop} (h : ∀ d i pc L L' st σ, fh_le L L' → S d i pc L st σ Q → S' d i pc L' st σ Q') (hc : ∀ d i pc L st σ P, S d i pc L st σ P → S' d i pc L st σ P) (hQ : ∀ x u, Q x u → Q' x u) {d i np a b : Nat} {v : Int32} {L L' : List (Option Value)} (hL : fh_le L L') {st : List Value} {σ : fg_St} {op : Nat} (q : fh_op S d i np a b v L st σ Q op) : fh_op S' d i np a b v L' st σ Q' op := by
  unfold fh_op at q ⊢
  split at q
  case h_3 =>
    split at q
    · rename_i e
      rw [hL.at e]
      exact h _ _ _ _ _ _ _ hL q
    · exact q.elim
  case h_4 =>
    split at q
    · rename_i e
      rw [hL.at e]
      exact h _ _ _ _ _ _ _ hL q
    · exact q.elim
  case h_5 =>
    split at q
    · rename_i e
      rw [hL.at e]
      exact h _ _ _ _ _ _ _ hL q
    · exact q.elim
  case h_6 =>
    split at q
    · exact fh_st1_mono hL (h _ _ _ _ _ _ _ (hL.set _ _)) q
    · exact q.elim
  case h_7 =>
    split at q
    · exact fh_st1_mono hL (h _ _ _ _ _ _ _ (hL.set _ _)) q
    · exact q.elim
  case h_8 =>
    split at q
    · exact fh_st2_mono hL (h _ _ _ _ _ _ _ ((hL.set _ _).set _ _)) q
    · exact q.elim
  case h_9 =>
    split at q
    · rename_i e
      rw [hL.at e]
      exact fh_st1_mono hL (h _ _ _ _ _ _ _ (hL.set _ _)) q
    · exact q.elim
  case h_26 =>
    split at q
    · split at q
      · exact fh_sw_mono (fun t => h _ _ _ _ _ _ _ hL) _ _ q
      · exact q.elim
    · exact q.elim
  case h_31 =>
    split at q
    · refine ⟨q.1, ?_⟩
      have q := q.2
      split at q <;> first | exact h _ _ _ _ _ _ _ hL q | exact q.elim
    · exact q.elim
  case h_38 =>
    split at q
    · exact ⟨q.1, fh_call_mono hc (fun d x u => h _ _ _ _ _ _ _ hL) q.2⟩
    · exact q.elim
  case h_39 =>
    split at q
    · exact ⟨q.1, fh_call_mono hc (fun d x u => h _ _ _ _ _ _ _ hL) q.2⟩
    · exact q.elim
  case h_40 =>
    split at q
    · exact fh_call_mono hc (fun d x u => h _ _ _ _ _ _ _ hL) q
    · exact q.elim
  case h_41 =>
    split at q
    · exact fh_call_mono hc (fun d x u => h _ _ _ _ _ _ _ hL) q
    · exact q.elim
  case h_42 =>
    split at q
    · exact fh_call_mono hc (fun d x u => h _ _ _ _ _ _ _ hL) q
    · exact q.elim
  case h_43 =>
    split at q
    · split at q
      · exact q.elim
      · obtain ⟨q1, q2, q3, q4, q5, q6⟩ := q
        exact ⟨q1, q2, q3, q4, q5, h _ _ _ _ _ _ _ hL q6⟩
    · exact q.elim
  case h_44 =>
    split at q
    · exact hQ _ _ q
    · exact q.elim
  case h_45 =>
    split at q
    · exact ⟨q.1, hQ _ _ q.2⟩
    · exact q.elim
  case h_46 =>
    split at q
    · exact hQ _ _ q
    · exact q.elim
  all_goals first
    | exact h _ _ _ _ _ _ _ hL q
    | exact q
    | (split at q
       all_goals first
         | exact q.elim
         | exact h _ _ _ _ _ _ _ hL q
         | exact ⟨q.1, h _ _ _ _ _ _ _ hL q.2⟩
         | exact ⟨q.1, q.2.1, h _ _ _ _ _ _ _ hL q.2.2⟩
         | exact ⟨q.1, q.2.1, q.2.2.1, h _ _ _ _ _ _ _ hL q.2.2.2⟩
         | exact ⟨fun c => h _ _ _ _ _ _ _ hL (q.1 c), fun c => h _ _ _ _ _ _ _ hL (q.2 c)⟩
         | exact fh_m1_mono (h _ _ _ _ _ _ _ hL) q)
theorem fh_G_mono3 {S S' : fh_P} {Q Q' : Int32 → fg_St → Prop} (h : ∀ d i pc L L' st σ, fh_le L L' → S d i pc L st σ Q → S' d i pc L' st σ Q') (hc : ∀ d i pc L st σ P, S d i pc L st σ P → S' d i pc L st σ P) (hQ : ∀ x u, Q x u → Q' x u) {d i pc : Nat} {L L' : List (Option Value)} (hL : fh_le L L') {st : List Value} {σ : fg_St} (q : fh_G S d i pc L st σ Q) : fh_G S' d i pc L' st σ Q' := by
  unfold fh_G at q ⊢
  split at q
  · exact q.elim
  · exact fh_op_mono h hc hQ hL q
theorem fh_op_lift {S S' : fh_P} (h : ∀ d i pc L st σ Q, S d i pc L st σ Q → S' d i pc L st σ Q) {d i np a b : Nat} {v : Int32} {L : List (Option Value)} {st : List Value} {σ : fg_St} {Q : Int32 → fg_St → Prop} {op : Nat} (q : fh_op S d i np a b v L st σ Q op) : fh_op S' d i np a b v L st σ Q op := by
  unfold fh_op at q ⊢
  split at q
  case h_6 =>
    split at q
    · exact fh_st1_mono (fh_le.refl L) (h _ _ _ _ _ _ _) q
    · exact q.elim
  case h_7 =>
    split at q
    · exact fh_st1_mono (fh_le.refl L) (h _ _ _ _ _ _ _) q
    · exact q.elim
  case h_8 =>
    split at q
    · exact fh_st2_mono (fh_le.refl L) (h _ _ _ _ _ _ _) q
    · exact q.elim
  case h_9 =>
    split at q
    · exact fh_st1_mono (fh_le.refl L) (h _ _ _ _ _ _ _) q
    · exact q.elim
  case h_26 =>
    split at q
    · split at q
      · exact fh_sw_mono (fun t => h _ _ _ _ _ _ _) _ _ q
      · exact q.elim
    · exact q.elim
  case h_31 =>
    split at q
    · refine ⟨q.1, ?_⟩
      have q := q.2
      split at q <;> first | exact h _ _ _ _ _ _ _ q | exact q.elim
    · exact q.elim
  case h_38 =>
    split at q
    · exact ⟨q.1, fh_call_mono h (fun d x u => h _ _ _ _ _ _ _) q.2⟩
    · exact q.elim
  case h_39 =>
    split at q
    · exact ⟨q.1, fh_call_mono h (fun d x u => h _ _ _ _ _ _ _) q.2⟩
    · exact q.elim
  case h_40 =>
    split at q
    · exact fh_call_mono h (fun d x u => h _ _ _ _ _ _ _) q
    · exact q.elim
  case h_41 =>
    split at q
    · exact fh_call_mono h (fun d x u => h _ _ _ _ _ _ _) q
    · exact q.elim
  case h_42 =>
    split at q
    · exact fh_call_mono h (fun d x u => h _ _ _ _ _ _ _) q
    · exact q.elim
  case h_43 =>
    split at q
    · split at q
      · exact q.elim
      · obtain ⟨q1, q2, q3, q4, q5, q6⟩ := q
        exact ⟨q1, q2, q3, q4, q5, h _ _ _ _ _ _ _ q6⟩
    · exact q.elim
  all_goals first
    | exact h _ _ _ _ _ _ _ q
    | exact q
    | (split at q
       all_goals first
         | exact q.elim
         | exact h _ _ _ _ _ _ _ q
         | exact q
         | exact ⟨q.1, h _ _ _ _ _ _ _ q.2⟩
         | exact ⟨q.1, q.2.1, h _ _ _ _ _ _ _ q.2.2⟩
         | exact ⟨q.1, q.2.1, q.2.2.1, h _ _ _ _ _ _ _ q.2.2.2⟩
         | exact ⟨fun c => h _ _ _ _ _ _ _ (q.1 c), fun c => h _ _ _ _ _ _ _ (q.2 c)⟩
         | exact fh_m1_mono (h _ _ _ _ _ _ _) q)
theorem fh_G_mono {S S' : fh_P} (h : ∀ d i pc L st σ Q, S d i pc L st σ Q → S' d i pc L st σ Q) {d i pc : Nat} {L : List (Option Value)} {st : List Value} {σ : fg_St} {Q : Int32 → fg_St → Prop} (q : fh_G S d i pc L st σ Q) : fh_G S' d i pc L st σ Q := by
  unfold fh_G at q ⊢
  split at q
  · exact q.elim
  · exact fh_op_lift h q
theorem fh_Run.intro {d i pc : Nat} {L : List (Option Value)} {st : List Value} {σ : fg_St} {Q : Int32 → fg_St → Prop} (q : fh_G fh_Run d i pc L st σ Q) : fh_Run d i pc L st σ Q :=
  fun S hS => hS _ _ _ _ _ _ _ (fh_G_mono (fun _ _ _ _ _ _ _ r => r S hS) q)
theorem fh_Run.more {d i pc : Nat} {L L' : List (Option Value)} {st : List Value} {σ : fg_St} {Q Q' : Int32 → fg_St → Prop} (hL : fh_le L L') (h : ∀ x u, Q x u → Q' x u) (q : fh_Run d i pc L st σ Q) : fh_Run d i pc L' st σ Q' := by
  have k := q (fun d i pc L st σ Q => ∀ L' Q', fh_le L L' → (∀ x u, Q x u → Q' x u) → fh_Run d i pc L' st σ Q') (fun d i pc L st σ Q g L' Q' hL h => by
    refine fh_Run.intro (fh_G_mono3 (Q := Q) (fun d i pc L L' st σ hl s => s _ _ hl h) (fun d i pc L st σ P s => s _ _ (fh_le.refl L) (fun _ _ z => z)) h hL g))
  exact k L' Q' hL h
theorem fh_Run.weaken {d i pc : Nat} {L : List (Option Value)} {st : List Value} {σ : fg_St} {Q Q' : Int32 → fg_St → Prop} (h : ∀ x u, Q x u → Q' x u) (q : fh_Run d i pc L st σ Q) : fh_Run d i pc L st σ Q' := q.more (fh_le.refl L) h
def fh_nl : Option Value → Prop
  | some (.long _) => False
  | some (.double _) => False
  | _ => True
def fh_leR : List (Option Value) → List (Option Value) → Prop
  | [], [] => True
  | none :: t, o :: t' => fh_nl o ∧ fh_leR t t'
  | some v :: t, o :: t' => o = some v ∧ fh_leR t t'
  | _, _ => False
theorem fh_leR.le : ∀ {L L' : List (Option Value)}, fh_leR L L' → fh_le L L' := by
  intro L
  induction L with
  | nil =>
    intro L' h
    cases L' with
    | nil => exact fh_le.refl _
    | cons _ _ => exact h.elim
  | cons a t ih =>
    intro L' h
    cases L' with
    | nil => cases a <;> exact h.elim
    | cons o t' =>
      cases a with
      | none =>
        obtain ⟨h1, h2⟩ := h
        have h3 := ih h2
        refine ⟨by simp [h3.1], fun k => ?_⟩
        cases k with
        | zero =>
          right
          refine ⟨rfl, fun x e => ?_⟩
          have e : o = some x := by simpa using e
          subst e
          cases x <;> first | rfl | exact h1.elim
        | succ k => simpa using h3.2 k
      | some v =>
        obtain ⟨h1, h2⟩ := h
        have h3 := ih h2
        subst h1
        refine ⟨by simp [h3.1], fun k => ?_⟩
        cases k with
        | zero => left; rfl
        | succ k => simpa using h3.2 k
theorem fh_Run.drop {d i pc : Nat} {L L' : List (Option Value)} {st : List Value} {σ : fg_St} {Q : Int32 → fg_St → Prop} (hL : fh_leR L L') (q : fh_Run d i pc L st σ Q) : fh_Run d i pc L' st σ Q := q.more hL.le (fun _ _ z => z)
def fh_mem : List Nat → Nat → Bool
  | [], _ => false
  | a :: t, q => match Nat.beq a q with
    | true => true
    | false => fh_mem t q
def fh_B (S : fh_P) (cuts : List Nat) : Nat → fh_P
  | 0 => S
  | n + 1 => fun d i pc L st σ Q => match fh_mem cuts pc with
    | true => S d i pc L st σ Q
    | false => fh_G (fh_B S cuts n) d i pc L st σ Q
theorem fh_B_run (cuts : List Nat) : ∀ (n d i pc : Nat) (L : List (Option Value)) (st : List Value) (σ : fg_St) (Q : Int32 → fg_St → Prop), fh_B fh_Run cuts n d i pc L st σ Q → fh_Run d i pc L st σ Q := by
  intro n
  induction n with
  | zero => intro d i pc L st σ Q q; exact q
  | succ n ih =>
    intro d i pc L st σ Q q
    unfold fh_B at q
    split at q
    · exact q
    · exact fh_Run.intro (fh_G_mono ih q)
theorem fh_blk (cuts : List Nat) (n : Nat) {d i pc : Nat} {L : List (Option Value)} {st : List Value} {σ : fg_St} {Q : Int32 → fg_St → Prop} (q : fh_G (fh_B fh_Run cuts n) d i pc L st σ Q) : fh_Run d i pc L st σ Q :=
  fh_Run.intro (fh_G_mono (fh_B_run cuts n) q)
theorem fh_cls {h c a : Nat} (e : fh_kd h = c) (r : (fg_mt[a]?.map fun m => m.1.cls) = (vwCl[c]?.map fun q => q.1)) : (fg_mt[a]?.map fun m => m.1.cls) = (vwCl[fh_kd h]?.map fun q => q.1) := by rw [e]; exact r
abbrev fh_cp (σ : fg_St) (h t sp dp n : Nat) : fg_St := (σ.1, σ.2.1, σ.2.2.1, va_up σ.2.2.2 t (va_cpy (σ.2.2.2 h) (σ.2.2.2 t) sp dp n))
theorem fh_vin {j : Int32} {n : Nat} (h1 : decide (j < 0) = false) (h2 : decide (n ≤ j.toNatClampNeg) = false) : vp_in j n := fun h => h.elim (of_decide_eq_false h1) (of_decide_eq_false h2)
theorem fh_nng : ¬ (0 : Int32) < 0 ∧ ¬ (0 : Int32) < 0 ∧ ¬ (10 : Int32) < 0 := ⟨by decide, by decide, by decide⟩

/-! THE ABSTRACT MACHINE SPEAKS OF THE REAL ONE -/
def fh_cv (ad : Nat → Nat) : Value → Value
  | .ref h => .ref (ad h)
  | v => v
theorem fh_cv_cat (ad : Nat → Nat) (v : Value) : (fh_cv ad v).category = v.category := by cases v <;> rfl
def fh_fv (ad : Nat → Nat) (σ : fg_St) (h c k : Nat) : Value := match fh_rf c k with
  | true => .ref (ad (fh_pt σ h k))
  | false => .int (fg_F σ h k)
abbrev fh_La : Type := (Nat → Nat) × ClassId × ClassId × ClassId × ClassId × (Nat → ClassId) × (Nat → Nat → Nat)
def fh_cell (Λ : fh_La) (σ : fg_St) (h : Nat) : va_E :=
  if fh_kd h = 11 then .inl (Λ.2.1, fg_ln h, .inl (σ.2.2.2 h))
  else if fh_kd h = 12 then .inl (Λ.2.2.1, fg_ln h, .inl (σ.2.2.2 h))
  else if fh_kd h = 13 then .inl (Λ.2.2.2.1, fg_ln h, .inr (.inr (.inr (.inr (fun j => some (Λ.1 (fh_ra h j)))))))
  else if fh_kd h = 14 then .inl (Λ.2.2.2.2.1, fg_ln h, .inr (.inr (.inr (.inr (fun j => some (Λ.1 (fh_ra h j)))))))
  else .inr (fh_kd h, (List.range (fh_nf.getD (fh_kd h) 0)).map (fh_fv Λ.1 σ h (fh_kd h)))
def fh_ws (Λ : fh_La) (σ : fg_St) : va_W := (List.range 187).map (fun h => (Λ.1 h, fh_cell Λ σ h))
def fh_tys (Λ : fh_La) : List (ClassId × FieldType) := [(Λ.2.1, .int), (Λ.2.2.1, .boolean), (Λ.2.2.2.1, .object RX0), (Λ.2.2.2.2.1, .object RX1)]
def fh_D (Λ : fh_La) : va_G := (Λ.2.2.2.2.2.1, Λ.2.2.2.2.2.2)
def fh_A (Λ : fh_La) (q : Nat) : Prop := ∃ h, h < 187 ∧ q = Λ.1 h
def fh_inj (Λ : fh_La) : Prop := ∀ i j, i < 187 → j < 187 → Λ.1 i = Λ.1 j → i = j
theorem fh_kd_lt {h c : Nat} (e : fh_kd h = c) (hc : c < 15) : h < 187 := by
  rcases Nat.lt_or_ge h 187 with q | q
  · exact q
  · have h2 : fh_kd h = 99 := by
      unfold fh_kd
      rw [List.getD_eq_getElem?_getD, List.getElem?_eq_none (show fh_kl.length ≤ h from q)]
      rfl
    omega
theorem fh_ws_at {Λ : fh_La} {σ : fg_St} {h : Nat} (hh : h < 187) : (fh_ws Λ σ)[h]? = some (Λ.1 h, fh_cell Λ σ h) := by
  unfold fh_ws
  rw [List.getElem?_map, List.getElem?_range hh]
  rfl
theorem fh_ws_D {Λ : fh_La} (hi : fh_inj Λ) (σ : fg_St) : va_D (fh_A Λ) (fh_ws Λ σ) := by
  have key : ∀ (i : Nat) (p : Nat × va_E), (fh_ws Λ σ)[i]? = some p → i < 187 ∧ p.1 = Λ.1 i := by
    intro i p h
    have hl : i < 187 := by
      have := (List.getElem?_eq_some_iff.mp h).1
      simpa [fh_ws] using this
    rw [fh_ws_at hl] at h
    exact ⟨hl, by rw [← Option.some.inj h]⟩
  refine ⟨fun i j p q h1 h2 e => ?_, fun k q h => ?_⟩
  · obtain ⟨a1, a2⟩ := key i p h1
    obtain ⟨b1, b2⟩ := key j q h2
    exact hi i j a1 b1 (by rw [← a2, ← b2, e])
  · obtain ⟨a1, a2⟩ := key k q h
    exact ⟨k, a1, a2⟩
theorem fh_ws_set {Λ : fh_La} {σ σ' : fg_St} {h : Nat} {e : va_E} (he : e = fh_cell Λ σ' h) (ho : ∀ g, g < 187 → g ≠ h → fh_cell Λ σ' g = fh_cell Λ σ g) : (fh_ws Λ σ).set h (Λ.1 h, e) = fh_ws Λ σ' := by
  subst he
  apply List.ext_getElem?
  intro k
  rw [List.getElem?_set]
  by_cases hk : h = k
  · subst hk
    by_cases hl : h < 187
    · rw [if_pos rfl, if_pos (by simpa [fh_ws] using hl), fh_ws_at hl]
    · rw [if_pos rfl, if_neg (by simpa [fh_ws] using hl), List.getElem?_eq_none (by simp [fh_ws]; omega)]
  · rw [if_neg hk]
    by_cases hl : k < 187
    · rw [fh_ws_at hl, fh_ws_at hl, ho k hl (fun e => hk e.symm)]
    · rw [List.getElem?_eq_none (by simp [fh_ws]; omega), List.getElem?_eq_none (by simp [fh_ws]; omega)]
theorem fh_cell_o {Λ : fh_La} {σ : fg_St} {h c : Nat} (e : fh_kd h = c) (hc : c < 11) : fh_cell Λ σ h = .inr (c, (List.range (fh_nf.getD c 0)).map (fh_fv Λ.1 σ h c)) := by
  unfold fh_cell
  rw [e, if_neg (by omega), if_neg (by omega), if_neg (by omega), if_neg (by omega)]
theorem fh_cell_i {Λ : fh_La} {σ : fg_St} {h : Nat} (e : fh_kd h = 11) : fh_cell Λ σ h = .inl (Λ.2.1, fg_ln h, .inl (σ.2.2.2 h)) := by
  unfold fh_cell
  rw [if_pos e]
theorem fh_cell_z {Λ : fh_La} {σ : fg_St} {h : Nat} (e : fh_kd h = 12) : fh_cell Λ σ h = .inl (Λ.2.2.1, fg_ln h, .inl (σ.2.2.2 h)) := by
  unfold fh_cell
  rw [if_neg (by omega), if_pos e]
theorem fh_cell_d {Λ : fh_La} {σ : fg_St} {h : Nat} (e : fh_kd h = 13) : fh_cell Λ σ h = .inl (Λ.2.2.2.1, fg_ln h, .inr (.inr (.inr (.inr (fun j => some (Λ.1 (fh_ra h j))))))) := by
  unfold fh_cell
  rw [if_neg (by omega), if_neg (by omega), if_pos e]
theorem fh_cell_m {Λ : fh_La} {σ : fg_St} {h : Nat} (e : fh_kd h = 14) : fh_cell Λ σ h = .inl (Λ.2.2.2.2.1, fg_ln h, .inr (.inr (.inr (.inr (fun j => some (Λ.1 (fh_ra h j))))))) := by
  unfold fh_cell
  rw [if_neg (by omega), if_neg (by omega), if_neg (by omega), if_pos e]
theorem fh_pt_F (σ : fg_St) (f : Nat → Nat → Int32) (r : Nat → Nat → Int32) (h k : Nat) : fh_pt (σ.1, σ.2.1, f, r) h k = fh_pt σ h k := rfl
theorem fh_cell_sF {Λ : fh_La} {σ : fg_St} {h c k : Nat} {x : Int32} (e : fh_kd h = c) (hc : c < 11) (hr : fh_rf c k = false) : fh_cell Λ (fg_sF σ h k x) h = .inr (c, ((List.range (fh_nf.getD c 0)).map (fh_fv Λ.1 σ h c)).set k (.int x)) := by
  rw [fh_cell_o e hc]
  congr 2
  apply List.ext_getElem?
  intro j
  rw [List.getElem?_set]
  simp only [List.getElem?_map, List.length_map, List.length_range]
  by_cases hj : k = j
  · subst hj
    rw [if_pos rfl]
    by_cases hl : k < fh_nf.getD c 0
    · rw [if_pos hl, List.getElem?_range hl]
      simp only [Option.map_some, fh_fv, hr]
      show some (Value.int (fg_uf _ _ _ _ h k)) = _
      simp [fg_uf]
    · rw [if_neg hl, List.getElem?_eq_none (by rw [List.length_range]; exact Nat.le_of_not_lt hl)]
      rfl
  · rw [if_neg hj]
    cases hq : (List.range (fh_nf.getD c 0))[j]? with
    | none => rfl
    | some z =>
      have hz : z = j := by
        have := List.getElem?_eq_some_iff.mp hq
        obtain ⟨h1, h2⟩ := this
        simpa using h2.symm
      subst hz
      simp only [Option.map_some]
      congr 1
      unfold fh_fv
      cases fh_rf c z
      · show Value.int (fg_uf _ _ _ _ h z) = _
        simp [fg_uf, Ne.symm hj]
      · rfl
theorem fh_cell_sFo {Λ : fh_La} {σ : fg_St} {h k : Nat} {x : Int32} (g : Nat) (hg : g ≠ h) : fh_cell Λ (fg_sF σ h k x) g = fh_cell Λ σ g := by
  unfold fh_cell
  have : fh_fv Λ.1 (fg_sF σ h k x) g (fh_kd g) = fh_fv Λ.1 σ g (fh_kd g) := by
    funext j
    unfold fh_fv
    cases fh_rf (fh_kd g) j
    · show Value.int (fg_uf _ _ _ _ g j) = _
      simp [fg_uf, hg]
    · rfl
  rw [this]
theorem fh_cell_sRo {Λ : fh_La} {σ : fg_St} {r : Nat → Nat → Int32} {h : Nat} (hr : ∀ a, a ≠ h → r a = σ.2.2.2 a) (g : Nat) (hg : g ≠ h) : fh_cell Λ (σ.1, σ.2.1, σ.2.2.1, r) g = fh_cell Λ σ g := by
  have : fh_fv Λ.1 (σ.1, σ.2.1, σ.2.2.1, r) g (fh_kd g) = fh_fv Λ.1 σ g (fh_kd g) := by
    funext j
    unfold fh_fv
    cases fh_rf (fh_kd g) j <;> rfl
  unfold fh_cell
  rw [this]
  show (if _ then Sum.inl (_, _, Sum.inl (r g)) else if _ then Sum.inl (_, _, Sum.inl (r g)) else _) = _
  rw [hr g hg]
theorem fh_up_upd (r : Nat → Nat → Int32) (h j : Nat) (x : Int32) : fg_up r h j x h = upd (r h) j x := by
  funext b
  simp [fg_up, upd]
theorem fh_up_ne (r : Nat → Nat → Int32) (h j : Nat) (x : Int32) {a : Nat} (ha : a ≠ h) : fg_up r h j x a = r a := by
  funext b
  simp [fg_up, ha]
theorem fh_kd9 : ∀ h, h < 187 → fh_kd h = 9 → h = 0 := by decide +kernel
/-! words -/
def fh_T : List Jvm.Cond := lw_tbl.filter goodWord
theorem fh_w_in {w : Nat} {c : Jvm.Cond} (h : fg_w w c = true) (hg : goodWord c = true) : c ∈ fh_T := List.mem_filter.mpr ⟨List.mem_of_getElem? (of_decide_eq_true h), hg⟩
theorem fh_T_good : fh_T.all goodWord = true := List.all_eq_true.mpr fun w h => (List.mem_filter.mp h).2
set_option maxRecDepth 100000 in
theorem fh_lays : ∀ q ∈ vwCl, ∀ w ∈ u_ws q.1 q.2.1 q.2.2, w ∈ fh_T := by decide +kernel
theorem fh_clok : ∀ (c : Nat) (q : vw_C), vwCl[c]? = some q → c < 11 ∧ q.2.2 = fh_nf.getD c 0 := by
  intro c q h
  match c, h with
  | 0, h | 1, h | 2, h | 3, h | 4, h | 5, h | 6, h | 7, h | 8, h | 9, h | 10, h => cases h; exact ⟨by decide, rfl⟩
  | c + 11, h => simp [vwCl] at h
theorem fh_clty : ∀ (c : Nat) (q : vw_C), vwCl[c]? = some q → ∃ ty : Nat → FieldType, (∀ k, k < q.2.2 → parseFieldDescriptor (q.2.1 k).2.2.1 = some (ty k)) ∧ ∀ a, a < q.2.2 → ∀ b, b < q.2.2 → a ≠ b → (q.2.1 a).2.1 ≠ (q.2.1 b).2.1 := by
  intro c q h
  match c, h with
  | 0, h => cases h; exact ⟨tyX0, tyX0_ok, nmX0⟩
  | 1, h => cases h; exact ⟨tyX1, tyX1_ok, nmX1⟩
  | 2, h => cases h; exact ⟨tyX2, tyX2_ok, nmX2⟩
  | 3, h => cases h; exact ⟨tyX3, tyX3_ok, nmX3⟩
  | 4, h => cases h; exact ⟨tyX4, tyX4_ok, nmX4⟩
  | 5, h => cases h; exact ⟨tyX5, tyX5_ok, nmX5⟩
  | 6, h => cases h; exact ⟨tyX6, tyX6_ok, nmX6⟩
  | 7, h => cases h; exact ⟨tyX7, tyX7_ok, nmX7⟩
  | 8, h => cases h; exact ⟨tyX8, tyX8_ok, nmX8⟩
  | 9, h => cases h; exact ⟨tyX9, tyX9_ok, nmX9⟩
  | 10, h => cases h; exact ⟨tyX10, tyX10_ok, nmX10⟩
  | c + 11, h => simp [vwCl] at h
/-! locals -/
def fh_LV (ad : Nat → Nat) (ls : Array Slot) (ml : Nat) (L : List (Option Value)) : Prop := L.length = ml ∧ ls.size = ml ∧ lv_wf ls ∧ ∀ (k : Nat) (v : Value), L[k]? = some (some v) → ls[k]? = some (.val (fh_cv ad v))
def fh_as (ad : Nat → Nat) (L : List (Option Value)) : List (Nat × Value) := (List.range L.length).filterMap fun k => match L[k]? with
  | some (some v) => some (k, fh_cv ad v)
  | _ => none
theorem fh_as_mem {ad : Nat → Nat} {L : List (Option Value)} {q : Nat × Value} : q ∈ fh_as ad L ↔ ∃ v, L[q.1]? = some (some v) ∧ q.2 = fh_cv ad v := by
  unfold fh_as
  rw [List.mem_filterMap]
  constructor
  · rintro ⟨k, hk, h⟩
    split at h
    · rename_i v e
      cases h
      exact ⟨v, e, rfl⟩
    · cases h
  · rintro ⟨v, h1, h2⟩
    refine ⟨q.1, List.mem_range.mpr (List.getElem?_eq_some_iff.mp h1).1, ?_⟩
    rw [h1]
    show some (q.1, fh_cv ad v) = some q
    rw [← h2]
theorem fh_LV.has {ad : Nat → Nat} {ls : Array Slot} {ml : Nat} {L : List (Option Value)} (h : fh_LV ad ls ml L) : lv_has ls ml (fh_as ad L) := ⟨h.2.1, h.2.2.1, fun q hq => by
  obtain ⟨v, h1, h2⟩ := fh_as_mem.mp hq
  rw [h2]
  exact h.2.2.2 _ _ h1⟩
theorem fh_lgb_no {L : List (Option Value)} {k : Nat} (h : fh_lgb L (k + 1) = false) {v : Value} (e : L[k]? = some (some v)) : ¬ v.category = 2 := by
  intro e2
  unfold fh_lgb at h
  simp only [e, e2] at h
  cases h
theorem fh_LV.put1 {ad : Nat → Nat} {ls' : Array Slot} {ml : Nat} {L : List (Option Value)} (hlen : L.length = ml) {a : Nat} {v : Value} (hv : v.category = 1) (hg : fh_lgb L a = false) (h : lv_has ls' ml ((a, fh_cv ad v) :: (fh_as ad L).filter (fun q => !(q.1 == a) && !(q.1 + 1 == a && q.2.category == 2)))) : fh_LV ad ls' ml (L.set a (some v)) := by
  refine ⟨by simpa using hlen, h.1, h.2.1, fun k w hk => ?_⟩
  rw [List.getElem?_set] at hk
  by_cases e : a = k
  · subst e
    rw [if_pos rfl] at hk
    split at hk
    · cases hk
      exact h.2.2 (a, fh_cv ad v) List.mem_cons_self
    · cases hk
  · rw [if_neg e] at hk
    refine h.2.2 (k, fh_cv ad w) (List.mem_cons_of_mem _ (List.mem_filter.mpr ⟨fh_as_mem.mpr ⟨w, hk, rfl⟩, ?_⟩))
    have h1 : (k == a) = false := by simpa using Ne.symm e
    simp only [h1, Bool.not_false, Bool.true_and, fh_cv_cat]
    by_cases e2 : k + 1 = a
    · subst e2
      simp [fh_lgb_no hg hk]
    · simp [e2]
theorem fh_LV.put2 {ad : Nat → Nat} {ls' : Array Slot} {ml : Nat} {L : List (Option Value)} (hlen : L.length = ml) {a : Nat} {v : Value} (hv : v.category = 2) (hg : fh_lgb L a = false) (h : lv_has ls' ml ((a, fh_cv ad v) :: (fh_as ad L).filter (fun q => !(q.1 == a) && (!(q.1 == a + 1) && !(q.1 + 1 == a && q.2.category == 2))))) : fh_LV ad ls' ml ((L.set a (some v)).set (a + 1) none) := by
  refine ⟨by simpa using hlen, h.1, h.2.1, fun k w hk => ?_⟩
  rw [List.getElem?_set] at hk
  by_cases e0 : a + 1 = k
  · rw [if_pos e0] at hk
    split at hk <;> cases hk
  rw [if_neg e0, List.getElem?_set] at hk
  by_cases e : a = k
  · subst e
    rw [if_pos rfl] at hk
    split at hk
    · cases hk
      exact h.2.2 (a, fh_cv ad v) List.mem_cons_self
    · cases hk
  · rw [if_neg e] at hk
    refine h.2.2 (k, fh_cv ad w) (List.mem_cons_of_mem _ (List.mem_filter.mpr ⟨fh_as_mem.mpr ⟨w, hk, rfl⟩, ?_⟩))
    have h1 : (k == a) = false := by simpa using Ne.symm e
    have h2 : (k == a + 1) = false := by simpa using Ne.symm e0
    simp only [h1, h2, Bool.not_false, Bool.true_and, fh_cv_cat]
    by_cases e2 : k + 1 = a
    · subst e2
      simp [fh_lgb_no hg hk]
    · simp [e2]

/-! A RULE OF THE REAL MACHINE FOR EACH INSTRUCTION OF THE ABSTRACT ONE (laid by wip/whole/genops.py) -/
abbrev fh_Ga : Type := Program × Env × Room × State × MethodId × Array Value × List Frame × Method × Code × (Array Value → State → Outcome → State → Prop)
def fh_E (Λ : fh_La) (U : State) : Prop := va_K (fh_D Λ) vwCl (fh_tys Λ) U ∧ ∀ w ∈ fg_nest, va_Nw w U
def fh_Cx (Λ : fh_La) (Γ : fh_Ga) (d : Nat) (M : fg_M) : Prop := match Γ with
  | (p, _, R, s, m, args, _, meth, c, _) => p.tables.exec = Jvm.exec ∧ c.code = M.2.1 ∧ c.maxLocals = M.2.2.1 ∧ meth.sig.returnType = M.2.2.2 ∧ meth.locks = false ∧ s.vm.findClass M.1.cls = some m.cls ∧ (∀ w ∈ fh_T, w.before args s = true) ∧ fh_E Λ s ∧ d ≤ R.frames ∧ 30 * d ≤ R.locals ∧ fh_inj Λ
def fh_Wt (l : Launch) (Λ : fh_La) (Γ : fh_Ga) (ml pc : Nat) (L : List (Option Value)) (st : List Value) (σ : fg_St) : Prop := match Γ with
  | (p, e, R, s, m, args, below, meth, c, Qc) => ∀ (H : Heap) (locs : List Loc) (ls : Array Slot), va_P (fh_D Λ) vwCl (fh_ws Λ σ) H → va_S (fh_A Λ) s.heap H locs → fh_LV Λ.1 ls ml L → W p l e R s m args below meth c H locs 0 0 (MQ below Qc args s 0 0 (fh_A Λ)) (F0 m pc ls (st.map (fh_cv Λ.1)))
section
variable {l : Launch} {Λ : fh_La} {Γ : fh_Ga} {d pc : Nat} {M : fg_M} {L : List (Option Value)} {st : List Value} {σ : fg_St}
theorem fh_o_iconst {n : Int} {v : Int32} (C : fh_Cx Λ Γ d M) (hd : decode M.2.1 pc = .ok (.iconst n, 1)) (hv : Int32.ofInt n = v) (k : fh_Wt l Λ Γ M.2.2.1 (pc + 1) L (.int v :: st) (σ)) : fh_Wt l Λ Γ M.2.2.1 pc L (st) σ := by
  obtain ⟨p, e, R, s, m, args, below, meth, c, Qc⟩ := Γ
  obtain ⟨hx, hb, hml, hr, hlk, hown, hts, hE, hf, hlo, hin⟩ := C
  intro H locs ls hP hS hl
  exact lv_iconst hx hb hd hv (k H locs ls hP hS hl)
theorem fh_o_bipush {n : Int} {v : Int32} (C : fh_Cx Λ Γ d M) (hd : decode M.2.1 pc = .ok (.bipush n, 2)) (hv : (Int8.ofInt n).toInt32 = v) (k : fh_Wt l Λ Γ M.2.2.1 (pc + 2) L (.int v :: st) (σ)) : fh_Wt l Λ Γ M.2.2.1 pc L (st) σ := by
  obtain ⟨p, e, R, s, m, args, below, meth, c, Qc⟩ := Γ
  obtain ⟨hx, hb, hml, hr, hlk, hown, hts, hE, hf, hlo, hin⟩ := C
  intro H locs ls hP hS hl
  exact lv_bipush hx hb hd hv (k H locs ls hP hS hl)
theorem fh_o_sipush {n : Int} {v : Int32} (C : fh_Cx Λ Γ d M) (hd : decode M.2.1 pc = .ok (.sipush n, 3)) (hv : (Int16.ofInt n).toInt32 = v) (k : fh_Wt l Λ Γ M.2.2.1 (pc + 3) L (.int v :: st) (σ)) : fh_Wt l Λ Γ M.2.2.1 pc L (st) σ := by
  obtain ⟨p, e, R, s, m, args, below, meth, c, Qc⟩ := Γ
  obtain ⟨hx, hb, hml, hr, hlk, hown, hts, hE, hf, hlo, hin⟩ := C
  intro H locs ls hP hS hl
  exact lv_sipush hx hb hd hv (k H locs ls hP hS hl)
theorem fh_o_ldc {x : Nat} {v : Int32} (C : fh_Cx Λ Γ d M) (hd : decode M.2.1 pc = .ok (.ldc x, 2)) (hw : Jvm.Cond.constant M.1.cls x v ∈ fh_T) (k : fh_Wt l Λ Γ M.2.2.1 (pc + 2) L (.int v :: st) (σ)) : fh_Wt l Λ Γ M.2.2.1 pc L (st) σ := by
  obtain ⟨p, e, R, s, m, args, below, meth, c, Qc⟩ := Γ
  obtain ⟨hx, hb, hml, hr, hlk, hown, hts, hE, hf, hlo, hin⟩ := C
  intro H locs ls hP hS hl
  exact lv_ldc hx hb hown (hts _ hw) hd (k H locs ls hP hS hl)
theorem fh_o_ldcw {x : Nat} {v : Int32} (C : fh_Cx Λ Γ d M) (hd : decode M.2.1 pc = .ok (.ldc_w x, 3)) (hw : Jvm.Cond.constant M.1.cls x v ∈ fh_T) (k : fh_Wt l Λ Γ M.2.2.1 (pc + 3) L (.int v :: st) (σ)) : fh_Wt l Λ Γ M.2.2.1 pc L (st) σ := by
  obtain ⟨p, e, R, s, m, args, below, meth, c, Qc⟩ := Γ
  obtain ⟨hx, hb, hml, hr, hlk, hown, hts, hE, hf, hlo, hin⟩ := C
  intro H locs ls hP hS hl
  exact lv_ldcw hx hb hown (hts _ hw) hd (k H locs ls hP hS hl)
theorem fh_o_lconst {n : Fin 2} {v : Int64} (C : fh_Cx Λ Γ d M) (hd : decode M.2.1 pc = .ok (.lconst n, 1)) (hv : Int64.ofNat (n : Nat) = v) (k : fh_Wt l Λ Γ M.2.2.1 (pc + 1) L (.long v :: st) (σ)) : fh_Wt l Λ Γ M.2.2.1 pc L (st) σ := by
  obtain ⟨p, e, R, s, m, args, below, meth, c, Qc⟩ := Γ
  obtain ⟨hx, hb, hml, hr, hlk, hown, hts, hE, hf, hlo, hin⟩ := C
  intro H locs ls hP hS hl
  exact lv_lconst hx hb hd hv (k H locs ls hP hS hl)
theorem fh_o_ldc2 {x : Nat} {v : Int64} (C : fh_Cx Λ Γ d M) (hd : decode M.2.1 pc = .ok (.ldc2_w x, 3)) (hw : Jvm.Cond.constantLong M.1.cls x v ∈ fh_T) (k : fh_Wt l Λ Γ M.2.2.1 (pc + 3) L (.long v :: st) (σ)) : fh_Wt l Λ Γ M.2.2.1 pc L (st) σ := by
  obtain ⟨p, e, R, s, m, args, below, meth, c, Qc⟩ := Γ
  obtain ⟨hx, hb, hml, hr, hlk, hown, hts, hE, hf, hlo, hin⟩ := C
  intro H locs ls hP hS hl
  exact lv_ldc2 hx hb hown (hts _ hw) hd (k H locs ls hP hS hl)
theorem fh_o_iload_n {k0 : Fin 4} {a : Nat} {x : Int32} (C : fh_Cx Λ Γ d M) (hd : decode M.2.1 pc = .ok (.iload_n k0, 1)) (ha : (k0 : Nat) = a) (hL : L[a]? = some (some (.int x))) (k : fh_Wt l Λ Γ M.2.2.1 (pc + 1) L (.int x :: st) (σ)) : fh_Wt l Λ Γ M.2.2.1 pc L (st) σ := by
  obtain ⟨p, e, R, s, m, args, below, meth, c, Qc⟩ := Γ
  obtain ⟨hx, hb, hml, hr, hlk, hown, hts, hE, hf, hlo, hin⟩ := C
  intro H locs ls hP hS hl
  exact lv_iload_n hx hb hd ha (hl.2.2.2 _ _ hL) (k H locs ls hP hS hl)
theorem fh_o_iload {a : Nat} {x : Int32} (C : fh_Cx Λ Γ d M) (hd : decode M.2.1 pc = .ok (.iload a, 2)) (hL : L[a]? = some (some (.int x))) (k : fh_Wt l Λ Γ M.2.2.1 (pc + 2) L (.int x :: st) (σ)) : fh_Wt l Λ Γ M.2.2.1 pc L (st) σ := by
  obtain ⟨p, e, R, s, m, args, below, meth, c, Qc⟩ := Γ
  obtain ⟨hx, hb, hml, hr, hlk, hown, hts, hE, hf, hlo, hin⟩ := C
  intro H locs ls hP hS hl
  exact lv_iload hx hb hd (hl.2.2.2 _ _ hL) (k H locs ls hP hS hl)
theorem fh_o_aload_n {k0 : Fin 4} {a : Nat} {x : Nat} (C : fh_Cx Λ Γ d M) (hd : decode M.2.1 pc = .ok (.aload_n k0, 1)) (ha : (k0 : Nat) = a) (hL : L[a]? = some (some (.ref x))) (k : fh_Wt l Λ Γ M.2.2.1 (pc + 1) L (.ref x :: st) (σ)) : fh_Wt l Λ Γ M.2.2.1 pc L (st) σ := by
  obtain ⟨p, e, R, s, m, args, below, meth, c, Qc⟩ := Γ
  obtain ⟨hx, hb, hml, hr, hlk, hown, hts, hE, hf, hlo, hin⟩ := C
  intro H locs ls hP hS hl
  exact lv_aload_n hx hb hd ha (hl.2.2.2 _ _ hL) (k H locs ls hP hS hl)
theorem fh_o_aload {a : Nat} {x : Nat} (C : fh_Cx Λ Γ d M) (hd : decode M.2.1 pc = .ok (.aload a, 2)) (hL : L[a]? = some (some (.ref x))) (k : fh_Wt l Λ Γ M.2.2.1 (pc + 2) L (.ref x :: st) (σ)) : fh_Wt l Λ Γ M.2.2.1 pc L (st) σ := by
  obtain ⟨p, e, R, s, m, args, below, meth, c, Qc⟩ := Γ
  obtain ⟨hx, hb, hml, hr, hlk, hown, hts, hE, hf, hlo, hin⟩ := C
  intro H locs ls hP hS hl
  exact lv_aload hx hb hd (hl.2.2.2 _ _ hL) (k H locs ls hP hS hl)
theorem fh_o_lload_n {k0 : Fin 4} {a : Nat} {x : Int64} (C : fh_Cx Λ Γ d M) (hd : decode M.2.1 pc = .ok (.lload_n k0, 1)) (ha : (k0 : Nat) = a) (hL : L[a]? = some (some (.long x))) (k : fh_Wt l Λ Γ M.2.2.1 (pc + 1) L (.long x :: st) (σ)) : fh_Wt l Λ Γ M.2.2.1 pc L (st) σ := by
  obtain ⟨p, e, R, s, m, args, below, meth, c, Qc⟩ := Γ
  obtain ⟨hx, hb, hml, hr, hlk, hown, hts, hE, hf, hlo, hin⟩ := C
  intro H locs ls hP hS hl
  exact lv_lload_n hx hb hd ha (hl.2.2.2 _ _ hL) (k H locs ls hP hS hl)
theorem fh_o_lload {a : Nat} {x : Int64} (C : fh_Cx Λ Γ d M) (hd : decode M.2.1 pc = .ok (.lload a, 2)) (hL : L[a]? = some (some (.long x))) (k : fh_Wt l Λ Γ M.2.2.1 (pc + 2) L (.long x :: st) (σ)) : fh_Wt l Λ Γ M.2.2.1 pc L (st) σ := by
  obtain ⟨p, e, R, s, m, args, below, meth, c, Qc⟩ := Γ
  obtain ⟨hx, hb, hml, hr, hlk, hown, hts, hE, hf, hlo, hin⟩ := C
  intro H locs ls hP hS hl
  exact lv_lload hx hb hd (hl.2.2.2 _ _ hL) (k H locs ls hP hS hl)
theorem fh_o_istore_n {k0 : Fin 4} {a : Nat} {x : Int32} (C : fh_Cx Λ Γ d M) (hd : decode M.2.1 pc = .ok (.istore_n k0, 1)) (ha : (k0 : Nat) = a) (hn : a < L.length) (hg : fh_lgb L a = false) (k : fh_Wt l Λ Γ M.2.2.1 (pc + 1) (L.set a (some (.int x))) (st) (σ)) : fh_Wt l Λ Γ M.2.2.1 pc L (.int x :: st) σ := by
  obtain ⟨p, e, R, s, m, args, below, meth, c, Qc⟩ := Γ
  obtain ⟨hx, hb, hml, hr, hlk, hown, hts, hE, hf, hlo, hin⟩ := C
  intro H locs ls hP hS hl
  exact lv_istore_n hx hb hd ha hl.has (hl.1 ▸ hn) rfl (fun ls2 h2 => k H locs ls2 hP hS (fh_LV.put1 hl.1 rfl hg h2))
theorem fh_o_istore {a : Nat} {x : Int32} (C : fh_Cx Λ Γ d M) (hd : decode M.2.1 pc = .ok (.istore a, 2)) (hn : a < L.length) (hg : fh_lgb L a = false) (k : fh_Wt l Λ Γ M.2.2.1 (pc + 2) (L.set a (some (.int x))) (st) (σ)) : fh_Wt l Λ Γ M.2.2.1 pc L (.int x :: st) σ := by
  obtain ⟨p, e, R, s, m, args, below, meth, c, Qc⟩ := Γ
  obtain ⟨hx, hb, hml, hr, hlk, hown, hts, hE, hf, hlo, hin⟩ := C
  intro H locs ls hP hS hl
  exact lv_istore hx hb hd hl.has (hl.1 ▸ hn) rfl (fun ls2 h2 => k H locs ls2 hP hS (fh_LV.put1 hl.1 rfl hg h2))
theorem fh_o_astore_n {k0 : Fin 4} {a : Nat} {x : Nat} (C : fh_Cx Λ Γ d M) (hd : decode M.2.1 pc = .ok (.astore_n k0, 1)) (ha : (k0 : Nat) = a) (hn : a < L.length) (hg : fh_lgb L a = false) (k : fh_Wt l Λ Γ M.2.2.1 (pc + 1) (L.set a (some (.ref x))) (st) (σ)) : fh_Wt l Λ Γ M.2.2.1 pc L (.ref x :: st) σ := by
  obtain ⟨p, e, R, s, m, args, below, meth, c, Qc⟩ := Γ
  obtain ⟨hx, hb, hml, hr, hlk, hown, hts, hE, hf, hlo, hin⟩ := C
  intro H locs ls hP hS hl
  exact lv_astore_n hx hb hd ha hl.has (hl.1 ▸ hn) rfl (fun ls2 h2 => k H locs ls2 hP hS (fh_LV.put1 hl.1 rfl hg h2))
theorem fh_o_astore {a : Nat} {x : Nat} (C : fh_Cx Λ Γ d M) (hd : decode M.2.1 pc = .ok (.astore a, 2)) (hn : a < L.length) (hg : fh_lgb L a = false) (k : fh_Wt l Λ Γ M.2.2.1 (pc + 2) (L.set a (some (.ref x))) (st) (σ)) : fh_Wt l Λ Γ M.2.2.1 pc L (.ref x :: st) σ := by
  obtain ⟨p, e, R, s, m, args, below, meth, c, Qc⟩ := Γ
  obtain ⟨hx, hb, hml, hr, hlk, hown, hts, hE, hf, hlo, hin⟩ := C
  intro H locs ls hP hS hl
  exact lv_astore hx hb hd hl.has (hl.1 ▸ hn) rfl (fun ls2 h2 => k H locs ls2 hP hS (fh_LV.put1 hl.1 rfl hg h2))
theorem fh_o_lstore_n {k0 : Fin 4} {a : Nat} {x : Int64} (C : fh_Cx Λ Γ d M) (hd : decode M.2.1 pc = .ok (.lstore_n k0, 1)) (ha : (k0 : Nat) = a) (hn : a + 1 < L.length) (hg : fh_lgb L a = false) (k : fh_Wt l Λ Γ M.2.2.1 (pc + 1) ((L.set a (some (.long x))).set (a + 1) none) (st) (σ)) : fh_Wt l Λ Γ M.2.2.1 pc L (.long x :: st) σ := by
  obtain ⟨p, e, R, s, m, args, below, meth, c, Qc⟩ := Γ
  obtain ⟨hx, hb, hml, hr, hlk, hown, hts, hE, hf, hlo, hin⟩ := C
  intro H locs ls hP hS hl
  exact lv_lstore_n hx hb hd ha hl.has (hl.1 ▸ hn) rfl (fun ls2 h2 => k H locs ls2 hP hS (fh_LV.put2 hl.1 rfl hg h2))
theorem fh_o_lstore {a : Nat} {x : Int64} (C : fh_Cx Λ Γ d M) (hd : decode M.2.1 pc = .ok (.lstore a, 2)) (hn : a + 1 < L.length) (hg : fh_lgb L a = false) (k : fh_Wt l Λ Γ M.2.2.1 (pc + 2) ((L.set a (some (.long x))).set (a + 1) none) (st) (σ)) : fh_Wt l Λ Γ M.2.2.1 pc L (.long x :: st) σ := by
  obtain ⟨p, e, R, s, m, args, below, meth, c, Qc⟩ := Γ
  obtain ⟨hx, hb, hml, hr, hlk, hown, hts, hE, hf, hlo, hin⟩ := C
  intro H locs ls hP hS hl
  exact lv_lstore hx hb hd hl.has (hl.1 ▸ hn) rfl (fun ls2 h2 => k H locs ls2 hP hS (fh_LV.put2 hl.1 rfl hg h2))
theorem fh_o_iinc {a : Nat} {n : Int} {x v : Int32} (C : fh_Cx Λ Γ d M) (hd : decode M.2.1 pc = .ok (.iinc a n, 3)) (hv : Int32.ofInt n = v) (hL : L[a]? = some (some (.int x))) (hg : fh_lgb L a = false) (k : fh_Wt l Λ Γ M.2.2.1 (pc + 3) (L.set a (some (.int (x + v)))) st σ) : fh_Wt l Λ Γ M.2.2.1 pc L st σ := by
  obtain ⟨p, e, R, s, m, args, below, meth, c, Qc⟩ := Γ
  obtain ⟨hx, hb, hml, hr, hlk, hown, hts, hE, hf, hlo, hin⟩ := C
  intro H locs ls hP hS hl
  subst hv
  obtain ⟨j, hj⟩ := List.getElem?_of_mem (fh_as_mem.mpr ⟨.int x, hL, rfl⟩ : (a, Value.int x) ∈ fh_as Λ.1 L)
  exact lv_iinc hx hb hd hl.has hj rfl (hl.1 ▸ (List.getElem?_eq_some_iff.mp hL).1) rfl (fun ls2 h2 => k H locs ls2 hP hS (fh_LV.put1 (v := .int (x + Int32.ofInt n)) hl.1 rfl hg h2))
theorem fh_o_iadd {x y : Int32} (C : fh_Cx Λ Γ d M) (hd : decode M.2.1 pc = .ok (.iadd, 1)) (k : fh_Wt l Λ Γ M.2.2.1 (pc + 1) L (.int (x + y) :: st) (σ)) : fh_Wt l Λ Γ M.2.2.1 pc L (.int y :: .int x :: st) σ := by
  obtain ⟨p, e, R, s, m, args, below, meth, c, Qc⟩ := Γ
  obtain ⟨hx, hb, hml, hr, hlk, hown, hts, hE, hf, hlo, hin⟩ := C
  intro H locs ls hP hS hl
  exact lv_iadd hx hb hd (k H locs ls hP hS hl)
theorem fh_o_isub {x y : Int32} (C : fh_Cx Λ Γ d M) (hd : decode M.2.1 pc = .ok (.isub, 1)) (k : fh_Wt l Λ Γ M.2.2.1 (pc + 1) L (.int (x - y) :: st) (σ)) : fh_Wt l Λ Γ M.2.2.1 pc L (.int y :: .int x :: st) σ := by
  obtain ⟨p, e, R, s, m, args, below, meth, c, Qc⟩ := Γ
  obtain ⟨hx, hb, hml, hr, hlk, hown, hts, hE, hf, hlo, hin⟩ := C
  intro H locs ls hP hS hl
  exact lv_isub hx hb hd (k H locs ls hP hS hl)
theorem fh_o_imul {x y : Int32} (C : fh_Cx Λ Γ d M) (hd : decode M.2.1 pc = .ok (.imul, 1)) (k : fh_Wt l Λ Γ M.2.2.1 (pc + 1) L (.int (x * y) :: st) (σ)) : fh_Wt l Λ Γ M.2.2.1 pc L (.int y :: .int x :: st) σ := by
  obtain ⟨p, e, R, s, m, args, below, meth, c, Qc⟩ := Γ
  obtain ⟨hx, hb, hml, hr, hlk, hown, hts, hE, hf, hlo, hin⟩ := C
  intro H locs ls hP hS hl
  exact lv_imul hx hb hd (k H locs ls hP hS hl)
theorem fh_o_iand {x y : Int32} (C : fh_Cx Λ Γ d M) (hd : decode M.2.1 pc = .ok (.iand, 1)) (k : fh_Wt l Λ Γ M.2.2.1 (pc + 1) L (.int (x &&& y) :: st) (σ)) : fh_Wt l Λ Γ M.2.2.1 pc L (.int y :: .int x :: st) σ := by
  obtain ⟨p, e, R, s, m, args, below, meth, c, Qc⟩ := Γ
  obtain ⟨hx, hb, hml, hr, hlk, hown, hts, hE, hf, hlo, hin⟩ := C
  intro H locs ls hP hS hl
  exact lv_iand hx hb hd (k H locs ls hP hS hl)
theorem fh_o_ior {x y : Int32} (C : fh_Cx Λ Γ d M) (hd : decode M.2.1 pc = .ok (.ior, 1)) (k : fh_Wt l Λ Γ M.2.2.1 (pc + 1) L (.int (x ||| y) :: st) (σ)) : fh_Wt l Λ Γ M.2.2.1 pc L (.int y :: .int x :: st) σ := by
  obtain ⟨p, e, R, s, m, args, below, meth, c, Qc⟩ := Γ
  obtain ⟨hx, hb, hml, hr, hlk, hown, hts, hE, hf, hlo, hin⟩ := C
  intro H locs ls hP hS hl
  exact lv_ior hx hb hd (k H locs ls hP hS hl)
theorem fh_o_ixor {x y : Int32} (C : fh_Cx Λ Γ d M) (hd : decode M.2.1 pc = .ok (.ixor, 1)) (k : fh_Wt l Λ Γ M.2.2.1 (pc + 1) L (.int (x ^^^ y) :: st) (σ)) : fh_Wt l Λ Γ M.2.2.1 pc L (.int y :: .int x :: st) σ := by
  obtain ⟨p, e, R, s, m, args, below, meth, c, Qc⟩ := Γ
  obtain ⟨hx, hb, hml, hr, hlk, hown, hts, hE, hf, hlo, hin⟩ := C
  intro H locs ls hP hS hl
  exact lv_ixor hx hb hd (k H locs ls hP hS hl)
theorem fh_o_ishl {x y : Int32} (C : fh_Cx Λ Γ d M) (hd : decode M.2.1 pc = .ok (.ishl, 1)) (k : fh_Wt l Λ Γ M.2.2.1 (pc + 1) L (.int (x <<< (y &&& 31)) :: st) (σ)) : fh_Wt l Λ Γ M.2.2.1 pc L (.int y :: .int x :: st) σ := by
  obtain ⟨p, e, R, s, m, args, below, meth, c, Qc⟩ := Γ
  obtain ⟨hx, hb, hml, hr, hlk, hown, hts, hE, hf, hlo, hin⟩ := C
  intro H locs ls hP hS hl
  exact lv_ishl hx hb hd (k H locs ls hP hS hl)
theorem fh_o_ishr {x y : Int32} (C : fh_Cx Λ Γ d M) (hd : decode M.2.1 pc = .ok (.ishr, 1)) (k : fh_Wt l Λ Γ M.2.2.1 (pc + 1) L (.int (x >>> (y &&& 31)) :: st) (σ)) : fh_Wt l Λ Γ M.2.2.1 pc L (.int y :: .int x :: st) σ := by
  obtain ⟨p, e, R, s, m, args, below, meth, c, Qc⟩ := Γ
  obtain ⟨hx, hb, hml, hr, hlk, hown, hts, hE, hf, hlo, hin⟩ := C
  intro H locs ls hP hS hl
  exact lv_ishr hx hb hd (k H locs ls hP hS hl)
theorem fh_o_iushr {x y : Int32} (C : fh_Cx Λ Γ d M) (hd : decode M.2.1 pc = .ok (.iushr, 1)) (k : fh_Wt l Λ Γ M.2.2.1 (pc + 1) L (.int ((x.toUInt32 >>> (y.toUInt32 &&& Int32.toUInt32 31)).toInt32) :: st) (σ)) : fh_Wt l Λ Γ M.2.2.1 pc L (.int y :: .int x :: st) σ := by
  obtain ⟨p, e, R, s, m, args, below, meth, c, Qc⟩ := Γ
  obtain ⟨hx, hb, hml, hr, hlk, hown, hts, hE, hf, hlo, hin⟩ := C
  intro H locs ls hP hS hl
  exact lv_iushr hx hb hd rfl (k H locs ls hP hS hl)
theorem fh_o_idiv {x y : Int32} (C : fh_Cx Λ Γ d M) (hd : decode M.2.1 pc = .ok (.idiv, 1)) (hne : ¬ y = 0) (k : fh_Wt l Λ Γ M.2.2.1 (pc + 1) L (.int (x / y) :: st) (σ)) : fh_Wt l Λ Γ M.2.2.1 pc L (.int y :: .int x :: st) σ := by
  obtain ⟨p, e, R, s, m, args, below, meth, c, Qc⟩ := Γ
  obtain ⟨hx, hb, hml, hr, hlk, hown, hts, hE, hf, hlo, hin⟩ := C
  intro H locs ls hP hS hl
  exact lv_idiv hx hb hd hne (k H locs ls hP hS hl)
theorem fh_o_irem {x y : Int32} (C : fh_Cx Λ Γ d M) (hd : decode M.2.1 pc = .ok (.irem, 1)) (hne : ¬ y = 0) (k : fh_Wt l Λ Γ M.2.2.1 (pc + 1) L (.int (x - x / y * y) :: st) (σ)) : fh_Wt l Λ Γ M.2.2.1 pc L (.int y :: .int x :: st) σ := by
  obtain ⟨p, e, R, s, m, args, below, meth, c, Qc⟩ := Γ
  obtain ⟨hx, hb, hml, hr, hlk, hown, hts, hE, hf, hlo, hin⟩ := C
  intro H locs ls hP hS hl
  exact lv_irem hx hb hd hne (k H locs ls hP hS hl)
theorem fh_o_ldiv {x y : Int64} (C : fh_Cx Λ Γ d M) (hd : decode M.2.1 pc = .ok (.ldiv, 1)) (hne : ¬ y = 0) (k : fh_Wt l Λ Γ M.2.2.1 (pc + 1) L (.long (x / y) :: st) (σ)) : fh_Wt l Λ Γ M.2.2.1 pc L (.long y :: .long x :: st) σ := by
  obtain ⟨p, e, R, s, m, args, below, meth, c, Qc⟩ := Γ
  obtain ⟨hx, hb, hml, hr, hlk, hown, hts, hE, hf, hlo, hin⟩ := C
  intro H locs ls hP hS hl
  exact lv_ldiv hx hb hd hne (k H locs ls hP hS hl)
theorem fh_o_lrem {x y : Int64} (C : fh_Cx Λ Γ d M) (hd : decode M.2.1 pc = .ok (.lrem, 1)) (hne : ¬ y = 0) (k : fh_Wt l Λ Γ M.2.2.1 (pc + 1) L (.long (x - x / y * y) :: st) (σ)) : fh_Wt l Λ Γ M.2.2.1 pc L (.long y :: .long x :: st) σ := by
  obtain ⟨p, e, R, s, m, args, below, meth, c, Qc⟩ := Γ
  obtain ⟨hx, hb, hml, hr, hlk, hown, hts, hE, hf, hlo, hin⟩ := C
  intro H locs ls hP hS hl
  exact lv_lrem hx hb hd hne (k H locs ls hP hS hl)
theorem fh_o_ladd {x y : Int64} (C : fh_Cx Λ Γ d M) (hd : decode M.2.1 pc = .ok (.ladd, 1)) (k : fh_Wt l Λ Γ M.2.2.1 (pc + 1) L (.long (x + y) :: st) (σ)) : fh_Wt l Λ Γ M.2.2.1 pc L (.long y :: .long x :: st) σ := by
  obtain ⟨p, e, R, s, m, args, below, meth, c, Qc⟩ := Γ
  obtain ⟨hx, hb, hml, hr, hlk, hown, hts, hE, hf, hlo, hin⟩ := C
  intro H locs ls hP hS hl
  exact lv_ladd hx hb hd (k H locs ls hP hS hl)
theorem fh_o_lmul {x y : Int64} (C : fh_Cx Λ Γ d M) (hd : decode M.2.1 pc = .ok (.lmul, 1)) (k : fh_Wt l Λ Γ M.2.2.1 (pc + 1) L (.long (x * y) :: st) (σ)) : fh_Wt l Λ Γ M.2.2.1 pc L (.long y :: .long x :: st) σ := by
  obtain ⟨p, e, R, s, m, args, below, meth, c, Qc⟩ := Γ
  obtain ⟨hx, hb, hml, hr, hlk, hown, hts, hE, hf, hlo, hin⟩ := C
  intro H locs ls hP hS hl
  exact lv_lmul hx hb hd (k H locs ls hP hS hl)
theorem fh_o_land {x y : Int64} (C : fh_Cx Λ Γ d M) (hd : decode M.2.1 pc = .ok (.land, 1)) (k : fh_Wt l Λ Γ M.2.2.1 (pc + 1) L (.long (x &&& y) :: st) (σ)) : fh_Wt l Λ Γ M.2.2.1 pc L (.long y :: .long x :: st) σ := by
  obtain ⟨p, e, R, s, m, args, below, meth, c, Qc⟩ := Γ
  obtain ⟨hx, hb, hml, hr, hlk, hown, hts, hE, hf, hlo, hin⟩ := C
  intro H locs ls hP hS hl
  exact lv_land hx hb hd (k H locs ls hP hS hl)
theorem fh_o_ineg {x : Int32} (C : fh_Cx Λ Γ d M) (hd : decode M.2.1 pc = .ok (.ineg, 1)) (k : fh_Wt l Λ Γ M.2.2.1 (pc + 1) L (.int (-x) :: st) (σ)) : fh_Wt l Λ Γ M.2.2.1 pc L (.int x :: st) σ := by
  obtain ⟨p, e, R, s, m, args, below, meth, c, Qc⟩ := Γ
  obtain ⟨hx, hb, hml, hr, hlk, hown, hts, hE, hf, hlo, hin⟩ := C
  intro H locs ls hP hS hl
  exact lv_ineg hx hb hd (k H locs ls hP hS hl)
theorem fh_o_i2l {x : Int32} (C : fh_Cx Λ Γ d M) (hd : decode M.2.1 pc = .ok (.i2l, 1)) (k : fh_Wt l Λ Γ M.2.2.1 (pc + 1) L (.long x.toInt64 :: st) (σ)) : fh_Wt l Λ Γ M.2.2.1 pc L (.int x :: st) σ := by
  obtain ⟨p, e, R, s, m, args, below, meth, c, Qc⟩ := Γ
  obtain ⟨hx, hb, hml, hr, hlk, hown, hts, hE, hf, hlo, hin⟩ := C
  intro H locs ls hP hS hl
  exact lv_i2l hx hb hd rfl (k H locs ls hP hS hl)
theorem fh_o_l2i {x : Int64} (C : fh_Cx Λ Γ d M) (hd : decode M.2.1 pc = .ok (.l2i, 1)) (k : fh_Wt l Λ Γ M.2.2.1 (pc + 1) L (.int x.toInt32 :: st) (σ)) : fh_Wt l Λ Γ M.2.2.1 pc L (.long x :: st) σ := by
  obtain ⟨p, e, R, s, m, args, below, meth, c, Qc⟩ := Γ
  obtain ⟨hx, hb, hml, hr, hlk, hown, hts, hE, hf, hlo, hin⟩ := C
  intro H locs ls hP hS hl
  exact lv_l2i hx hb hd rfl (k H locs ls hP hS hl)
theorem fh_o_lcmp {x y : Int64} (C : fh_Cx Λ Γ d M) (hd : decode M.2.1 pc = .ok (.lcmp, 1)) (k : fh_Wt l Λ Γ M.2.2.1 (pc + 1) L (.int (lg_cmp x y) :: st) (σ)) : fh_Wt l Λ Γ M.2.2.1 pc L (.long y :: .long x :: st) σ := by
  obtain ⟨p, e, R, s, m, args, below, meth, c, Qc⟩ := Γ
  obtain ⟨hx, hb, hml, hr, hlk, hown, hts, hE, hf, hlo, hin⟩ := C
  intro H locs ls hP hS hl
  exact W.lcmp hx hb hd (k H locs ls hP hS hl)
theorem fh_o_dupi {x : Int32} (C : fh_Cx Λ Γ d M) (hd : decode M.2.1 pc = .ok (.dup, 1)) (k : fh_Wt l Λ Γ M.2.2.1 (pc + 1) L (.int x :: .int x :: st) (σ)) : fh_Wt l Λ Γ M.2.2.1 pc L (.int x :: st) σ := by
  obtain ⟨p, e, R, s, m, args, below, meth, c, Qc⟩ := Γ
  obtain ⟨hx, hb, hml, hr, hlk, hown, hts, hE, hf, hlo, hin⟩ := C
  intro H locs ls hP hS hl
  exact lv_dup hx hb hd rfl (k H locs ls hP hS hl)
theorem fh_o_popi {x : Int32} (C : fh_Cx Λ Γ d M) (hd : decode M.2.1 pc = .ok (.pop, 1)) (k : fh_Wt l Λ Γ M.2.2.1 (pc + 1) L (st) (σ)) : fh_Wt l Λ Γ M.2.2.1 pc L (.int x :: st) σ := by
  obtain ⟨p, e, R, s, m, args, below, meth, c, Qc⟩ := Γ
  obtain ⟨hx, hb, hml, hr, hlk, hown, hts, hE, hf, hlo, hin⟩ := C
  intro H locs ls hP hS hl
  exact lv_pop hx hb hd rfl (k H locs ls hP hS hl)
theorem fh_o_dupa {x : Nat} (C : fh_Cx Λ Γ d M) (hd : decode M.2.1 pc = .ok (.dup, 1)) (k : fh_Wt l Λ Γ M.2.2.1 (pc + 1) L (.ref x :: .ref x :: st) (σ)) : fh_Wt l Λ Γ M.2.2.1 pc L (.ref x :: st) σ := by
  obtain ⟨p, e, R, s, m, args, below, meth, c, Qc⟩ := Γ
  obtain ⟨hx, hb, hml, hr, hlk, hown, hts, hE, hf, hlo, hin⟩ := C
  intro H locs ls hP hS hl
  exact lv_dup hx hb hd rfl (k H locs ls hP hS hl)
theorem fh_o_popa {x : Nat} (C : fh_Cx Λ Γ d M) (hd : decode M.2.1 pc = .ok (.pop, 1)) (k : fh_Wt l Λ Γ M.2.2.1 (pc + 1) L (st) (σ)) : fh_Wt l Λ Γ M.2.2.1 pc L (.ref x :: st) σ := by
  obtain ⟨p, e, R, s, m, args, below, meth, c, Qc⟩ := Γ
  obtain ⟨hx, hb, hml, hr, hlk, hown, hts, hE, hf, hlo, hin⟩ := C
  intro H locs ls hP hS hl
  exact lv_pop hx hb hd rfl (k H locs ls hP hS hl)
theorem fh_o_dup2 {x : Int32} {y : Nat} (C : fh_Cx Λ Γ d M) (hd : decode M.2.1 pc = .ok (.dup2, 1)) (k : fh_Wt l Λ Γ M.2.2.1 (pc + 1) L (.int x :: .ref y :: .int x :: .ref y :: st) (σ)) : fh_Wt l Λ Γ M.2.2.1 pc L (.int x :: .ref y :: st) σ := by
  obtain ⟨p, e, R, s, m, args, below, meth, c, Qc⟩ := Γ
  obtain ⟨hx, hb, hml, hr, hlk, hown, hts, hE, hf, hlo, hin⟩ := C
  intro H locs ls hP hS hl
  exact lv_dup2_11 hx hb hd rfl rfl (k H locs ls hP hS hl)
theorem fh_o_goto {off : Int} {t : Nat} (C : fh_Cx Λ Γ d M) (hd : decode M.2.1 pc = .ok (.goto off, 3)) (ht : (pc : Int) + off = (t : Int)) (k : fh_Wt l Λ Γ M.2.2.1 t L (st) (σ)) : fh_Wt l Λ Γ M.2.2.1 pc L (st) σ := by
  obtain ⟨p, e, R, s, m, args, below, meth, c, Qc⟩ := Γ
  obtain ⟨hx, hb, hml, hr, hlk, hown, hts, hE, hf, hlo, hin⟩ := C
  intro H locs ls hP hS hl
  exact lv_goto hx hb hd ht (k H locs ls hP hS hl)
theorem fh_o_if_eq {x : Int32} {off : Int} {t : Nat} (C : fh_Cx Λ Γ d M) (hd : decode M.2.1 pc = .ok (.ifCond .eq off, 3)) (ht : (pc : Int) + off = (t : Int)) (kt : x = 0 → fh_Wt l Λ Γ M.2.2.1 t L st σ) (kf : ¬ (x = 0) → fh_Wt l Λ Γ M.2.2.1 (pc + 3) L st σ) : fh_Wt l Λ Γ M.2.2.1 pc L (.int x :: st) σ := by
  obtain ⟨p, e, R, s, m, args, below, meth, c, Qc⟩ := Γ
  obtain ⟨hx, hb, hml, hr, hlk, hown, hts, hE, hf, hlo, hin⟩ := C
  intro H locs ls hP hS hl
  exact lv_if_eq hx hb hd ht (fun q => kt q H locs ls hP hS hl) (fun q => kf q H locs ls hP hS hl)
theorem fh_o_icmp_eq {x y : Int32} {off : Int} {t : Nat} (C : fh_Cx Λ Γ d M) (hd : decode M.2.1 pc = .ok (.if_icmp .eq off, 3)) (ht : (pc : Int) + off = (t : Int)) (kt : x = y → fh_Wt l Λ Γ M.2.2.1 t L st σ) (kf : ¬ (x = y) → fh_Wt l Λ Γ M.2.2.1 (pc + 3) L st σ) : fh_Wt l Λ Γ M.2.2.1 pc L (.int y :: .int x :: st) σ := by
  obtain ⟨p, e, R, s, m, args, below, meth, c, Qc⟩ := Γ
  obtain ⟨hx, hb, hml, hr, hlk, hown, hts, hE, hf, hlo, hin⟩ := C
  intro H locs ls hP hS hl
  exact lv_icmp_eq hx hb hd ht (fun q => kt q H locs ls hP hS hl) (fun q => kf q H locs ls hP hS hl)
theorem fh_o_if_ne {x : Int32} {off : Int} {t : Nat} (C : fh_Cx Λ Γ d M) (hd : decode M.2.1 pc = .ok (.ifCond .ne off, 3)) (ht : (pc : Int) + off = (t : Int)) (kt : ¬ x = 0 → fh_Wt l Λ Γ M.2.2.1 t L st σ) (kf : ¬ (¬ x = 0) → fh_Wt l Λ Γ M.2.2.1 (pc + 3) L st σ) : fh_Wt l Λ Γ M.2.2.1 pc L (.int x :: st) σ := by
  obtain ⟨p, e, R, s, m, args, below, meth, c, Qc⟩ := Γ
  obtain ⟨hx, hb, hml, hr, hlk, hown, hts, hE, hf, hlo, hin⟩ := C
  intro H locs ls hP hS hl
  exact lv_if_ne hx hb hd ht (fun q => kt q H locs ls hP hS hl) (fun q => kf (fun z => z q) H locs ls hP hS hl)
theorem fh_o_icmp_ne {x y : Int32} {off : Int} {t : Nat} (C : fh_Cx Λ Γ d M) (hd : decode M.2.1 pc = .ok (.if_icmp .ne off, 3)) (ht : (pc : Int) + off = (t : Int)) (kt : ¬ x = y → fh_Wt l Λ Γ M.2.2.1 t L st σ) (kf : ¬ (¬ x = y) → fh_Wt l Λ Γ M.2.2.1 (pc + 3) L st σ) : fh_Wt l Λ Γ M.2.2.1 pc L (.int y :: .int x :: st) σ := by
  obtain ⟨p, e, R, s, m, args, below, meth, c, Qc⟩ := Γ
  obtain ⟨hx, hb, hml, hr, hlk, hown, hts, hE, hf, hlo, hin⟩ := C
  intro H locs ls hP hS hl
  exact lv_icmp_ne hx hb hd ht (fun q => kt q H locs ls hP hS hl) (fun q => kf (fun z => z q) H locs ls hP hS hl)
theorem fh_o_if_lt {x : Int32} {off : Int} {t : Nat} (C : fh_Cx Λ Γ d M) (hd : decode M.2.1 pc = .ok (.ifCond .lt off, 3)) (ht : (pc : Int) + off = (t : Int)) (kt : x < 0 → fh_Wt l Λ Γ M.2.2.1 t L st σ) (kf : ¬ (x < 0) → fh_Wt l Λ Γ M.2.2.1 (pc + 3) L st σ) : fh_Wt l Λ Γ M.2.2.1 pc L (.int x :: st) σ := by
  obtain ⟨p, e, R, s, m, args, below, meth, c, Qc⟩ := Γ
  obtain ⟨hx, hb, hml, hr, hlk, hown, hts, hE, hf, hlo, hin⟩ := C
  intro H locs ls hP hS hl
  exact lv_if_lt hx hb hd ht (fun q => kt q H locs ls hP hS hl) (fun q => kf q H locs ls hP hS hl)
theorem fh_o_icmp_lt {x y : Int32} {off : Int} {t : Nat} (C : fh_Cx Λ Γ d M) (hd : decode M.2.1 pc = .ok (.if_icmp .lt off, 3)) (ht : (pc : Int) + off = (t : Int)) (kt : x < y → fh_Wt l Λ Γ M.2.2.1 t L st σ) (kf : ¬ (x < y) → fh_Wt l Λ Γ M.2.2.1 (pc + 3) L st σ) : fh_Wt l Λ Γ M.2.2.1 pc L (.int y :: .int x :: st) σ := by
  obtain ⟨p, e, R, s, m, args, below, meth, c, Qc⟩ := Γ
  obtain ⟨hx, hb, hml, hr, hlk, hown, hts, hE, hf, hlo, hin⟩ := C
  intro H locs ls hP hS hl
  exact lv_icmp_lt hx hb hd ht (fun q => kt q H locs ls hP hS hl) (fun q => kf q H locs ls hP hS hl)
theorem fh_o_if_ge {x : Int32} {off : Int} {t : Nat} (C : fh_Cx Λ Γ d M) (hd : decode M.2.1 pc = .ok (.ifCond .ge off, 3)) (ht : (pc : Int) + off = (t : Int)) (kt : 0 ≤ x → fh_Wt l Λ Γ M.2.2.1 t L st σ) (kf : ¬ (0 ≤ x) → fh_Wt l Λ Γ M.2.2.1 (pc + 3) L st σ) : fh_Wt l Λ Γ M.2.2.1 pc L (.int x :: st) σ := by
  obtain ⟨p, e, R, s, m, args, below, meth, c, Qc⟩ := Γ
  obtain ⟨hx, hb, hml, hr, hlk, hown, hts, hE, hf, hlo, hin⟩ := C
  intro H locs ls hP hS hl
  exact lv_if_ge hx hb hd ht (fun q => kt q H locs ls hP hS hl) (fun q => kf q H locs ls hP hS hl)
theorem fh_o_icmp_ge {x y : Int32} {off : Int} {t : Nat} (C : fh_Cx Λ Γ d M) (hd : decode M.2.1 pc = .ok (.if_icmp .ge off, 3)) (ht : (pc : Int) + off = (t : Int)) (kt : y ≤ x → fh_Wt l Λ Γ M.2.2.1 t L st σ) (kf : ¬ (y ≤ x) → fh_Wt l Λ Γ M.2.2.1 (pc + 3) L st σ) : fh_Wt l Λ Γ M.2.2.1 pc L (.int y :: .int x :: st) σ := by
  obtain ⟨p, e, R, s, m, args, below, meth, c, Qc⟩ := Γ
  obtain ⟨hx, hb, hml, hr, hlk, hown, hts, hE, hf, hlo, hin⟩ := C
  intro H locs ls hP hS hl
  exact lv_icmp_ge hx hb hd ht (fun q => kt q H locs ls hP hS hl) (fun q => kf q H locs ls hP hS hl)
theorem fh_o_if_gt {x : Int32} {off : Int} {t : Nat} (C : fh_Cx Λ Γ d M) (hd : decode M.2.1 pc = .ok (.ifCond .gt off, 3)) (ht : (pc : Int) + off = (t : Int)) (kt : 0 < x → fh_Wt l Λ Γ M.2.2.1 t L st σ) (kf : ¬ (0 < x) → fh_Wt l Λ Γ M.2.2.1 (pc + 3) L st σ) : fh_Wt l Λ Γ M.2.2.1 pc L (.int x :: st) σ := by
  obtain ⟨p, e, R, s, m, args, below, meth, c, Qc⟩ := Γ
  obtain ⟨hx, hb, hml, hr, hlk, hown, hts, hE, hf, hlo, hin⟩ := C
  intro H locs ls hP hS hl
  exact lv_if_gt hx hb hd ht (fun q => kt q H locs ls hP hS hl) (fun q => kf q H locs ls hP hS hl)
theorem fh_o_icmp_gt {x y : Int32} {off : Int} {t : Nat} (C : fh_Cx Λ Γ d M) (hd : decode M.2.1 pc = .ok (.if_icmp .gt off, 3)) (ht : (pc : Int) + off = (t : Int)) (kt : y < x → fh_Wt l Λ Γ M.2.2.1 t L st σ) (kf : ¬ (y < x) → fh_Wt l Λ Γ M.2.2.1 (pc + 3) L st σ) : fh_Wt l Λ Γ M.2.2.1 pc L (.int y :: .int x :: st) σ := by
  obtain ⟨p, e, R, s, m, args, below, meth, c, Qc⟩ := Γ
  obtain ⟨hx, hb, hml, hr, hlk, hown, hts, hE, hf, hlo, hin⟩ := C
  intro H locs ls hP hS hl
  exact lv_icmp_gt hx hb hd ht (fun q => kt q H locs ls hP hS hl) (fun q => kf q H locs ls hP hS hl)
theorem fh_o_if_le {x : Int32} {off : Int} {t : Nat} (C : fh_Cx Λ Γ d M) (hd : decode M.2.1 pc = .ok (.ifCond .le off, 3)) (ht : (pc : Int) + off = (t : Int)) (kt : x ≤ 0 → fh_Wt l Λ Γ M.2.2.1 t L st σ) (kf : ¬ (x ≤ 0) → fh_Wt l Λ Γ M.2.2.1 (pc + 3) L st σ) : fh_Wt l Λ Γ M.2.2.1 pc L (.int x :: st) σ := by
  obtain ⟨p, e, R, s, m, args, below, meth, c, Qc⟩ := Γ
  obtain ⟨hx, hb, hml, hr, hlk, hown, hts, hE, hf, hlo, hin⟩ := C
  intro H locs ls hP hS hl
  exact lv_if_le hx hb hd ht (fun q => kt q H locs ls hP hS hl) (fun q => kf q H locs ls hP hS hl)
theorem fh_o_icmp_le {x y : Int32} {off : Int} {t : Nat} (C : fh_Cx Λ Γ d M) (hd : decode M.2.1 pc = .ok (.if_icmp .le off, 3)) (ht : (pc : Int) + off = (t : Int)) (kt : x ≤ y → fh_Wt l Λ Γ M.2.2.1 t L st σ) (kf : ¬ (x ≤ y) → fh_Wt l Λ Γ M.2.2.1 (pc + 3) L st σ) : fh_Wt l Λ Γ M.2.2.1 pc L (.int y :: .int x :: st) σ := by
  obtain ⟨p, e, R, s, m, args, below, meth, c, Qc⟩ := Γ
  obtain ⟨hx, hb, hml, hr, hlk, hown, hts, hE, hf, hlo, hin⟩ := C
  intro H locs ls hP hS hl
  exact lv_icmp_le hx hb hd ht (fun q => kt q H locs ls hP hS hl) (fun q => kf q H locs ls hP hS hl)
theorem fh_o_get {x a b h : Nat} {q : vw_C} {v : Value} (C : fh_Cx Λ Γ d M) (hd : decode M.2.1 pc = .ok (.getfield x, 3)) (hq : vwCl[a]? = some q) (hbq : b < q.2.2) (hw : Jvm.Cond.fieldLink M.1.cls x (q.2.1 b).1 (q.2.1 b).2.1 (q.2.1 b).2.2.1 ∈ fh_T) (hk : fh_kd h = a) (hv : fh_cv Λ.1 v = fh_fv Λ.1 σ h a b) (k : fh_Wt l Λ Γ M.2.2.1 (pc + 3) L (v :: st) σ) : fh_Wt l Λ Γ M.2.2.1 pc L (.ref h :: st) σ := by
  obtain ⟨p, e, R, s, m, args, below, meth, c, Qc⟩ := Γ
  obtain ⟨hx, hb, hml, hr, hlk, hown, hts, hE, hf, hlo, hin⟩ := C
  intro H locs ls hP hS hl
  have ha := fh_clok a q hq
  have he := fh_ws_at (Λ := Λ) (σ := σ) (fh_kd_lt hk (by omega))
  rw [fh_cell_o hk ha.1] at he
  refine va_get (D := fh_D Λ) (v := fh_fv Λ.1 σ h a b) (C := q.1) (T := q.2.1) (N := q.2.2) hx hb hts (fh_lays q (List.mem_of_getElem? hq)) hown hE.1 hP h he hq b hbq (hts _ hw) (fun _ h9 => h9) ?_ hd ?_
  · rw [List.getElem?_map, List.getElem?_range (by rw [← ha.2]; exact hbq)]
    rfl
  · have k1 := k H locs ls hP hS hl
    rw [List.map_cons, hv] at k1
    exact k1
theorem fh_o_put {x a b h : Nat} {q : vw_C} {v : Value} {ty : FieldType} {σ2 : fg_St} (C : fh_Cx Λ Γ d M) (hd : decode M.2.1 pc = .ok (.putfield x, 3)) (hq : vwCl[a]? = some q) (hbq : b < q.2.2) (hw : Jvm.Cond.fieldLink M.1.cls x (q.2.1 b).1 (q.2.1 b).2.1 (q.2.1 b).2.2.1 ∈ fh_T) (hk : fh_kd h = a) (hfp : (q.2.1 b).2.2.2 = false) (hty : parseFieldDescriptor (q.2.1 b).2.2.1 = some ty) (hn : narrow ty (fh_cv Λ.1 v) = fh_cv Λ.1 v) (hfit : fits ty (fh_cv Λ.1 v) = true) (hs : Sum.inr (a, ((List.range (fh_nf.getD a 0)).map (fh_fv Λ.1 σ h a)).set b (fh_cv Λ.1 v)) = fh_cell Λ σ2 h) (ho : ∀ g, g < 187 → g ≠ h → fh_cell Λ σ2 g = fh_cell Λ σ g) (k : fh_Wt l Λ Γ M.2.2.1 (pc + 3) L st σ2) : fh_Wt l Λ Γ M.2.2.1 pc L (v :: .ref h :: st) σ := by
  obtain ⟨p, e, R, s, m, args, below, meth, c, Qc⟩ := Γ
  obtain ⟨hx, hb, hml, hr, hlk, hown, hts, hE, hf, hlo, hin⟩ := C
  intro H locs ls hP hS hl
  have ha := fh_clok a q hq
  have he := fh_ws_at (Λ := Λ) (σ := σ) (fh_kd_lt hk (by omega))
  rw [fh_cell_o hk ha.1] at he
  obtain ⟨ty0, h1, h2⟩ := fh_clty a q hq
  refine va_put (D := fh_D Λ) (ty := ty) (v := fh_cv Λ.1 v) (C := q.1) (T := q.2.1) (N := q.2.2) hx hb hts (fh_lays q (List.mem_of_getElem? hq)) ty0 h1 h2 hown hE.1 hP (fh_ws_D hin σ) hS h he hq b hbq (hts _ hw) (fun _ h9 => h9) hfp hty hn hfit ?_ hd (fun H1 locs1 hP1 hD1 hS1 => ?_)
  · rw [List.length_map, List.length_range, ← ha.2]
    exact hbq
  · rw [fh_ws_set hs ho] at hP1
    exact k H1 locs1 ls hP1 hS1 hl
theorem fh_o_iald {j : Int32} {h : Nat} (C : fh_Cx Λ Γ d M) (hd : decode M.2.1 pc = .ok (.iaload, 1)) (hk : fh_kd h = 11) (hj : vp_in j (fg_ln h)) (k : fh_Wt l Λ Γ M.2.2.1 (pc + 1) L (.int (fg_R σ h j.toNatClampNeg) :: st) σ) : fh_Wt l Λ Γ M.2.2.1 pc L (.int j :: .ref h :: st) σ := by
  obtain ⟨p, e, R, s, m, args, below, meth, c, Qc⟩ := Γ
  obtain ⟨hx, hb, hml, hr, hlk, hown, hts, hE, hf, hlo, hin⟩ := C
  intro H locs ls hP hS hl
  have he := fh_ws_at (Λ := Λ) (σ := σ) (fh_kd_lt hk (by decide))
  rw [fh_cell_i hk] at he
  exact va_iald hx hb hE.1 hP h 0 he rfl hj hd (k H locs ls hP hS hl)
theorem fh_o_zald {j : Int32} {h : Nat} (C : fh_Cx Λ Γ d M) (hd : decode M.2.1 pc = .ok (.baload, 1)) (hk : fh_kd h = 12) (hj : vp_in j (fg_ln h)) (k : fh_Wt l Λ Γ M.2.2.1 (pc + 1) L (.int (fg_R σ h j.toNatClampNeg) :: st) σ) : fh_Wt l Λ Γ M.2.2.1 pc L (.int j :: .ref h :: st) σ := by
  obtain ⟨p, e, R, s, m, args, below, meth, c, Qc⟩ := Γ
  obtain ⟨hx, hb, hml, hr, hlk, hown, hts, hE, hf, hlo, hin⟩ := C
  intro H locs ls hP hS hl
  have he := fh_ws_at (Λ := Λ) (σ := σ) (fh_kd_lt hk (by decide))
  rw [fh_cell_z hk] at he
  exact va_zald hx hb hE.1 hP h 1 he rfl hj hd (k H locs ls hP hS hl)
theorem fh_o_iast {j x : Int32} {h : Nat} (C : fh_Cx Λ Γ d M) (hd : decode M.2.1 pc = .ok (.iastore, 1)) (hk : fh_kd h = 11) (hj : vp_in j (fg_ln h)) (k : fh_Wt l Λ Γ M.2.2.1 (pc + 1) L st (fg_sR σ h j.toNatClampNeg x)) : fh_Wt l Λ Γ M.2.2.1 pc L (.int x :: .int j :: .ref h :: st) σ := by
  obtain ⟨p, e, R, s, m, args, below, meth, c, Qc⟩ := Γ
  obtain ⟨hx, hb, hml, hr, hlk, hown, hts, hE, hf, hlo, hin⟩ := C
  intro H locs ls hP hS hl
  have he := fh_ws_at (Λ := Λ) (σ := σ) (fh_kd_lt hk (by decide))
  rw [fh_cell_i hk] at he
  refine va_iast hx hb hE.1 hP (fh_ws_D hin σ) hS h 0 he rfl hj hd (fun H1 locs1 hP1 hD1 hS1 => ?_)
  rw [fh_ws_set (σ' := fg_sR σ h j.toNatClampNeg x) (by rw [fh_cell_i hk]; show _ = Sum.inl (_, _, Sum.inl (fg_up _ _ _ _ h)); rw [fh_up_upd]) (fun g _ hg => fh_cell_sRo (fun a ha => fh_up_ne _ _ _ _ ha) g hg)] at hP1
  exact k H1 locs1 ls hP1 hS1 hl
theorem fh_o_zast {j x : Int32} {h : Nat} (C : fh_Cx Λ Γ d M) (hd : decode M.2.1 pc = .ok (.bastore, 1)) (hk : fh_kd h = 12) (hj : vp_in j (fg_ln h)) (hz : x = 0 ∨ x = 1) (k : fh_Wt l Λ Γ M.2.2.1 (pc + 1) L st (fg_sR σ h j.toNatClampNeg x)) : fh_Wt l Λ Γ M.2.2.1 pc L (.int x :: .int j :: .ref h :: st) σ := by
  obtain ⟨p, e, R, s, m, args, below, meth, c, Qc⟩ := Γ
  obtain ⟨hx, hb, hml, hr, hlk, hown, hts, hE, hf, hlo, hin⟩ := C
  intro H locs ls hP hS hl
  have he := fh_ws_at (Λ := Λ) (σ := σ) (fh_kd_lt hk (by decide))
  rw [fh_cell_z hk] at he
  have hn : vp_nar .boolean x = x := by rcases hz with rfl | rfl <;> decide
  refine va_zast hx hb hE.1 hP (fh_ws_D hin σ) hS h 1 he rfl hj hd (fun H1 locs1 hP1 hD1 hS1 => ?_)
  rw [hn, fh_ws_set (σ' := fg_sR σ h j.toNatClampNeg x) (by rw [fh_cell_z hk]; show _ = Sum.inl (_, _, Sum.inl (fg_up _ _ _ _ h)); rw [fh_up_upd]) (fun g _ hg => fh_cell_sRo (fun a ha => fh_up_ne _ _ _ _ ha) g hg)] at hP1
  exact k H1 locs1 ls hP1 hS1 hl
theorem fh_o_aald {j : Int32} {h : Nat} (C : fh_Cx Λ Γ d M) (hd : decode M.2.1 pc = .ok (.aaload, 1)) (hk : fh_kd h = 13 ∨ fh_kd h = 14) (hj : vp_in j (fg_ln h)) (k : fh_Wt l Λ Γ M.2.2.1 (pc + 1) L (.ref (fh_ra h j.toNatClampNeg) :: st) σ) : fh_Wt l Λ Γ M.2.2.1 pc L (.int j :: .ref h :: st) σ := by
  obtain ⟨p, e, R, s, m, args, below, meth, c, Qc⟩ := Γ
  obtain ⟨hx, hb, hml, hr, hlk, hown, hts, hE, hf, hlo, hin⟩ := C
  intro H locs ls hP hS hl
  rcases hk with hk | hk
  · have he := fh_ws_at (Λ := Λ) (σ := σ) (fh_kd_lt hk (by decide))
    rw [fh_cell_d hk] at he
    exact va_aldq hx hb hE.1 hP h 2 he rfl hj hd (k H locs ls hP hS hl)
  · have he := fh_ws_at (Λ := Λ) (σ := σ) (fh_kd_lt hk (by decide))
    rw [fh_cell_m hk] at he
    exact va_aldq hx hb hE.1 hP h 3 he rfl hj hd (k H locs ls hP hS hl)
theorem fh_o_alen {h : Nat} (C : fh_Cx Λ Γ d M) (hd : decode M.2.1 pc = .ok (.arraylength, 1)) (hk : 11 ≤ fh_kd h ∧ fh_kd h ≤ 14) (k : fh_Wt l Λ Γ M.2.2.1 (pc + 1) L (.int (Int32.ofNat (fg_ln h)) :: st) σ) : fh_Wt l Λ Γ M.2.2.1 pc L (.ref h :: st) σ := by
  obtain ⟨p, e, R, s, m, args, below, meth, c, Qc⟩ := Γ
  obtain ⟨hx, hb, hml, hr, hlk, hown, hts, hE, hf, hlo, hin⟩ := C
  intro H locs ls hP hS hl
  have he := fh_ws_at (Λ := Λ) (σ := σ) (fh_kd_lt (h := h) rfl (by omega))
  rcases (show fh_kd h = 11 ∨ fh_kd h = 12 ∨ fh_kd h = 13 ∨ fh_kd h = 14 by omega) with hk | hk | hk | hk
  · rw [fh_cell_i hk] at he
    exact va_alen hx hb hE.1 hP h 0 he rfl rfl hd (k H locs ls hP hS hl)
  · rw [fh_cell_z hk] at he
    exact va_alen hx hb hE.1 hP h 1 he rfl rfl hd (k H locs ls hP hS hl)
  · rw [fh_cell_d hk] at he
    exact va_alen hx hb hE.1 hP h 2 he rfl rfl hd (k H locs ls hP hS hl)
  · rw [fh_cell_m hk] at he
    exact va_alen hx hb hE.1 hP h 3 he rfl rfl hd (k H locs ls hP hS hl)
theorem fh_cat_cv (ad : Nat → Nat) (r : List Value) : ((r.map (fh_cv ad)).map fun v => v.category).sum = fh_cat r := by
  unfold fh_cat
  rw [List.map_map]
  congr 2
  funext v
  exact fh_cv_cat ad v
set_option maxRecDepth 100000 in
theorem fh_mmin_w : Jvm.Cond.static Lib.Math.min.name ∈ fh_T ∧ Jvm.Cond.initialized "java/lang/Math" ∈ fh_T ∧ Jvm.Cond.code Lib.Math.min.name Lib.Math.min.code 2 (some .int) ∈ fh_T := by decide +kernel
set_option maxRecDepth 100000 in
theorem fh_mmax_w : Jvm.Cond.static Lib.Math.max.name ∈ fh_T ∧ Jvm.Cond.initialized "java/lang/Math" ∈ fh_T ∧ Jvm.Cond.code Lib.Math.max.name Lib.Math.max.code 2 (some .int) ∈ fh_T := by decide +kernel
set_option maxRecDepth 100000 in
theorem fh_acp_w : Jvm.Cond.static arraycopyName ∈ fh_T ∧ Jvm.Cond.native arraycopyName ∈ fh_T ∧ Jvm.Cond.initialized "java/lang/System" ∈ fh_T := by decide +kernel
theorem fh_o_min {q : Nat} {x y : Int32} (C : fh_Cx Λ Γ d M) (hd : decode M.2.1 pc = .ok (.invokestatic q, 3)) (hw : Jvm.Cond.methodLink M.1.cls q Lib.Math.min.name ∈ fh_T) (hd1 : 1 ≤ d) (hc : fh_cat st ≤ 8) (k : fh_Wt l Λ Γ M.2.2.1 (pc + 3) L (.int (if y < x then y else x) :: st) σ) : fh_Wt l Λ Γ M.2.2.1 pc L (.int y :: .int x :: st) σ := by
  obtain ⟨p, e, R, s, m, args, below, meth, c, Qc⟩ := Γ
  obtain ⟨hx, hb, hml, hr, hlk, hown, hts, hE, hf, hlo, hin⟩ := C
  intro H locs ls hP hS hl
  exact va_mmin hx hb (hml.trans hl.2.1.symm) hown (hts _ hw) (hts _ fh_mmin_w.1) (hts _ fh_mmin_w.2.1) (hts _ fh_mmin_w.2.2) (by omega) (by rw [fh_cat_cv]; omega) (Nat.zero_le _) (Nat.zero_le _) hd (k H locs ls hP hS hl)
theorem fh_o_max {q : Nat} {x y : Int32} (C : fh_Cx Λ Γ d M) (hd : decode M.2.1 pc = .ok (.invokestatic q, 3)) (hw : Jvm.Cond.methodLink M.1.cls q Lib.Math.max.name ∈ fh_T) (hd1 : 1 ≤ d) (hc : fh_cat st ≤ 8) (k : fh_Wt l Λ Γ M.2.2.1 (pc + 3) L (.int (if x < y then y else x) :: st) σ) : fh_Wt l Λ Γ M.2.2.1 pc L (.int y :: .int x :: st) σ := by
  obtain ⟨p, e, R, s, m, args, below, meth, c, Qc⟩ := Γ
  obtain ⟨hx, hb, hml, hr, hlk, hown, hts, hE, hf, hlo, hin⟩ := C
  intro H locs ls hP hS hl
  exact va_mmax hx hb (hml.trans hl.2.1.symm) hown (hts _ hw) (hts _ fh_mmax_w.1) (hts _ fh_mmax_w.2.1) (hts _ fh_mmax_w.2.2) (by omega) (by rw [fh_cat_cv]; omega) (Nat.zero_le _) (Nat.zero_le _) hd (k H locs ls hP hS hl)
theorem fh_o_acp {q : Nat} {n dp sp : Int32} {t h : Nat} (C : fh_Cx Λ Γ d M) (hd : decode M.2.1 pc = .ok (.invokestatic q, 3)) (hw : Jvm.Cond.methodLink M.1.cls q arraycopyName ∈ fh_T) (hd1 : 1 ≤ d) (hk : fh_kd h = 11) (ht : fh_kd t = 11) (hz : ¬ sp < 0 ∧ ¬ dp < 0 ∧ ¬ n < 0) (h1 : sp.toNatClampNeg + n.toNatClampNeg ≤ fg_ln h) (h2 : dp.toNatClampNeg + n.toNatClampNeg ≤ fg_ln t) (k : fh_Wt l Λ Γ M.2.2.1 (pc + 3) L [] (fh_cp σ h t sp.toNatClampNeg dp.toNatClampNeg n.toNatClampNeg)) : fh_Wt l Λ Γ M.2.2.1 pc L [.int n, .int dp, .ref t, .int sp, .ref h] σ := by
  obtain ⟨p, e, R, s, m, args, below, meth, c, Qc⟩ := Γ
  obtain ⟨hx, hb, hml, hr, hlk, hown, hts, hE, hf, hlo, hin⟩ := C
  intro H locs ls hP hS hl
  have he := fh_ws_at (Λ := Λ) (σ := σ) (fh_kd_lt hk (by decide))
  have he2 := fh_ws_at (Λ := Λ) (σ := σ) (fh_kd_lt ht (by decide))
  rw [fh_cell_i hk] at he
  rw [fh_cell_i ht] at he2
  refine va_copyi hx hb (hml.trans hl.2.1.symm) hown (hts _ hw) (hts _ fh_acp_w.2.1) (hts _ fh_acp_w.1) (hts _ fh_acp_w.2.2) hE.1 hP (fh_ws_D hin σ) hS h t 0 0 he he2 rfl rfl rfl hz.1 hz.2.1 hz.2.2 h1 h2 (fun _ _ => rfl) (by omega) (by show 0 + (7 + 11) ≤ R.locals; omega) hd (fun H1 locs1 hP1 hD1 hS1 => ?_)
  rw [fh_ws_set (σ' := fh_cp σ h t sp.toNatClampNeg dp.toNatClampNeg n.toNatClampNeg) (by rw [fh_cell_i ht]; simp [va_up]) (fun g _ hg => fh_cell_sRo (fun a ha => by simp [va_up, ha]) g hg)] at hP1
  exact k H1 locs1 ls hP1 hS1 hl
end

/-! WHAT RUNS ON THE ABSTRACT MACHINE IS A CONTRACT OF THE REAL ONE -/
def fh_rv (ret : Option FieldType) (x : Int32) : Option Value := match ret with
  | none => none
  | some _ => some (.int x)
def fh_End (Λ : fh_La) (Γ : fh_Ga) (ret : Option FieldType) (Q : Int32 → fg_St → Prop) : Prop := match Γ with
  | (_, _, _, s, _, args, _, _, _, Qc) => ∀ (x : Int32) (u : fg_St), Q x u → ∀ t : State, va_P (fh_D Λ) vwCl (fh_ws Λ u) t.heap → va_F (fh_A Λ) s t → Qc args s (.returned (fh_rv ret x)) t
def fh_S (l : Launch) (Λ : fh_La) : fh_P := fun d i pc L st σ Q => ∀ M : fg_M, fg_mt[i]? = some M → ∀ Γ : fh_Ga, fh_Cx Λ Γ d M → fh_End Λ Γ M.2.2.2 Q → fh_Wt l Λ Γ M.2.2.1 pc L st σ
def fh_wm (M : fg_M) : List Jvm.Cond := Jvm.Cond.code M.1 M.2.1 M.2.2.1 M.2.2.2 :: fh_T
def fh_rm (d : Nat) : Room := { frames := d, cells := 0, slots := 0, locals := 30 * d }
def fh_Pre (Λ : fh_La) (σ : fg_St) (U : State) : Prop := va_P (fh_D Λ) vwCl (fh_ws Λ σ) U.heap ∧ fh_E Λ U
theorem fh_E.warm {Λ : fh_La} {s U : State} (h : fh_E Λ s) (hW : s.WarmedH U.vm) : fh_E Λ U := by
  refine ⟨va_K.moved hW.alike h.1, fun w hw => ?_⟩
  have h2 := h.2 w hw
  simp only [fg_nest, List.mem_cons, List.not_mem_nil, or_false] at hw
  rcases hw with rfl | rfl | rfl | rfl | rfl <;> exact va_Nw.warmM hW h2
theorem fh_E.calling {Λ : fh_La} {U : State} (h : fh_E Λ U) (g : JFrame) (mk : MethodId) (a : Array Value) : fh_E Λ (U.calling g mk a) := by
  refine ⟨va_K.moved (u := U) (U := U.calling g mk a) (Vm.Alike.refl U.vm) h.1, fun w hw => ?_⟩
  have h2 := h.2 w hw
  simp only [fg_nest, List.mem_cons, List.not_mem_nil, or_false] at hw
  rcases hw with rfl | rfl | rfl | rfl | rfl <;> exact va_Nw.same rfl rfl h2
theorem fh_fl_len (ad : Nat → Nat) : ∀ vs : List Value, (fh_fl vs).length = (lg_sl (vs.map (fh_cv ad))).length := by
  intro vs
  induction vs with
  | nil => rfl
  | cons v vs ih =>
    have e : lg_sl ((v :: vs).map (fh_cv ad)) = (if v.category = 2 then [Slot.val (fh_cv ad v), .second] else [.val (fh_cv ad v)]) ++ lg_sl (vs.map (fh_cv ad)) := by
      simp [lg_sl, fh_cv_cat]
    rw [e, List.length_append, ← ih]
    rcases lv_cat v with h | h
    · have e2 : fh_fl (v :: vs) = some v :: fh_fl vs := by
        show (match Nat.beq v.category 2 with | true => some v :: none :: fh_fl vs | false => some v :: fh_fl vs) = _
        rw [h]
      rw [e2, if_neg (by omega), List.length_cons, List.length_singleton]
      omega
    · have e2 : fh_fl (v :: vs) = some v :: none :: fh_fl vs := by
        show (match Nat.beq v.category 2 with | true => some v :: none :: fh_fl vs | false => some v :: fh_fl vs) = _
        rw [h]
      rw [e2, if_pos h, List.length_cons, List.length_cons]
      show _ = 2 + _
      omega
theorem fh_fl_args (ad : Nat → Nat) : ∀ (vs : List Value) (o k : Nat) (v : Value), (fh_fl vs)[k]? = some (some v) → (o + k, fh_cv ad v) ∈ lv_args o (vs.map (fh_cv ad)) := by
  intro vs
  induction vs with
  | nil => intro o k v h; simp [fh_fl] at h
  | cons w vs ih =>
    intro o k v h
    rw [List.map_cons, lv_args, fh_cv_cat]
    unfold fh_fl at h
    rcases lv_cat w with hc | hc
    · rw [hc] at h ⊢
      have h : (some w :: fh_fl vs)[k]? = some (some v) := h
      cases k with
      | zero =>
        simp at h
        subst h
        exact List.mem_cons_self
      | succ k =>
        have h := ih (o + 1) k v (by simpa using h)
        refine List.mem_cons_of_mem _ ?_
        rw [if_neg (by decide)]
        rw [show o + (k + 1) = o + 1 + k by omega]
        exact h
    · rw [hc] at h ⊢
      have h : (some w :: none :: fh_fl vs)[k]? = some (some v) := h
      match k, h with
      | 0, h =>
        simp at h
        subst h
        exact List.mem_cons_self
      | 1, h => simp at h
      | k + 2, h =>
        have h := ih (o + 2) k v (by simpa using h)
        refine List.mem_cons_of_mem _ ?_
        rw [if_pos rfl]
        rw [show o + (k + 2) = o + 2 + k by omega]
        exact h
theorem fh_entry {ad : Nat → Nat} {vs : List Value} {ml : Nat} (h : (fh_fl vs).length ≤ ml) : fh_LV ad ((lg_sl (vs.map (fh_cv ad)) ++ List.replicate (ml - (lg_sl (vs.map (fh_cv ad))).length) Slot.unset).toArray) ml (fh_ent ml vs) := by
  have h0 := lv_entry (vs.map (fh_cv ad)) (n := ml) (by rw [← fh_fl_len]; exact h)
  refine ⟨?_, h0.1, h0.2.1, fun k v hk => ?_⟩
  · unfold fh_ent
    rw [List.length_append, List.length_replicate]
    omega
  · unfold fh_ent at hk
    rw [List.getElem?_append] at hk
    split at hk
    · have := h0.2.2 _ (fh_fl_args ad vs 0 k v hk)
      simpa using this
    · rw [List.getElem?_replicate] at hk
      split at hk <;> cases hk
theorem fh_mfacts {i : Nat} {M : fg_M} (h : fg_mt[i]? = some M) : i < 196 ∧ Jvm.Cond.code M.1 M.2.1 M.2.2.1 M.2.2.2 ∈ fh_T ∧ Jvm.Cond.initialized M.1.cls ∈ fh_T ∧ (M.1.cls ≠ "java/lang/invoke/MethodHandle" ∧ M.1.cls ≠ "java/lang/invoke/VarHandle") ∧ plainName M.1.cls = true ∧ M.2.2.1 ≤ 11 ∧ (fg_sta.getD i false = true → Jvm.Cond.static M.1 ∈ fh_T) ∧ (fg_sta.getD i false = false → Jvm.Cond.instanceMethod M.1 ∈ fh_T ∧ Jvm.Cond.selects M.1.cls M.1 M.1 ∈ fh_T) := by
  have hi : i < 196 := (List.getElem?_eq_some_iff.mp h).1
  have hc := fg_mcode M (List.mem_of_getElem? h)
  have hk := fg_mcks i hi
  unfold fg_mck at hk
  rw [h] at hk
  split at hk
  · rename_i y p e1 e2
    cases e1
    simp only [Bool.and_eq_true, decide_eq_true_eq] at hk
    obtain ⟨k1, k2, k3, k4, k5⟩ := hk
    refine ⟨hi, List.mem_filter.mpr ⟨hc, rfl⟩, fh_w_in k2 rfl, k3, k4, Nat.le_of_ble_eq_true k5, fun e => ?_, fun e => ?_⟩
    · rw [e] at k1
      exact fh_w_in k1 rfl
    · rw [e] at k1
      simp only [Bool.and_eq_true] at k1
      exact ⟨fh_w_in k1.1 rfl, fh_w_in k1.2 rfl⟩
  · cases hk
theorem fh_met {l : Launch} {Λ : fh_La} {d j : Nat} {M : fg_M} {σ : fg_St} {vs : List Value} {P : Int32 → fg_St → Prop} {Qc : Array Value → State → Outcome → State → Prop} (hi : fh_inj Λ) (hj : fg_mt[j]? = some M) (hlen : (fh_fl vs).length ≤ M.2.2.1) (hs : fh_S l Λ d j 0 (fh_ent M.2.2.1 vs) [] σ P) (hQ : ∀ (s t : State) (x : Int32) (u : fg_St), P x u → va_P (fh_D Λ) vwCl (fh_ws Λ u) t.heap → va_F (fh_A Λ) s t → Qc (vs.map (fh_cv Λ.1)).toArray s (.returned (fh_rv M.2.2.2 x)) t) : Met l M.1 (fh_wm M) (fh_rm d) (va_Pc (vs.map (fh_cv Λ.1)) (fh_Pre Λ σ)) Qc 0 0 (fh_A Λ) := by
  have F := fh_mfacts hj
  refine Met.ofW (cc := M.2.1) (maxL := M.2.2.1) (ret := M.2.2.2) F.2.2.2.2.1 rfl ?_
  intro p e s m args below meth c s₁ B hml hv
  obtain ⟨rfl, hP, hE⟩ := hv
  have hts := atoms_spec (ws := fh_wm M) B.pre
  rw [lg_entry_eq]
  exact hs M hj (p, e, fh_rm d, s, m, _, below, meth, c, Qc) ⟨B.exec, B.bytes, hml, B.returns, B.notSynchronized, findClass_of_methodNamed B.named, fun w h => hts w (List.mem_cons_of_mem _ h), hE, Nat.le_refl _, Nat.le_refl _, hi⟩ (fun x u q t h1 h2 => hQ s t x u q h1 h2) s.heap [] _ hP va_S.rf (fh_entry hlen)
theorem fh_good {ws : List Jvm.Cond} (h : ∀ w ∈ ws, w ∈ fh_T) : GoodIn fh_T ws := fun w hw => ⟨h w hw, good_of_word (List.mem_filter.mp (h w hw)).2⟩
theorem fh_wm_in {i : Nat} {M : fg_M} (h : fg_mt[i]? = some M) : ∀ w ∈ fh_wm M, w ∈ fh_T := by
  intro w hw
  rcases List.mem_cons.mp hw with rfl | hw
  · exact (fh_mfacts h).2.1
  · exact hw
theorem fh_pop_eq : ∀ (n : Nat) (acc st As r : List Value), fh_pop n acc st = some (As, r) → ∃ B : List Value, As = B ++ acc ∧ st = B.reverse ++ r ∧ B.length = n := by
  intro n
  induction n with
  | zero =>
    intro acc st As r h
    unfold fh_pop at h
    cases h
    exact ⟨[], rfl, rfl, rfl⟩
  | succ n ih =>
    intro acc st As r h
    cases st with
    | nil => unfold fh_pop at h; cases h
    | cons v st =>
      unfold fh_pop at h
      obtain ⟨B, h1, h2, h3⟩ := ih _ _ _ _ h
      refine ⟨B ++ [v], by rw [h1]; simp, by rw [h2]; simp, by simp [h3]⟩
theorem fh_pop_0 {n : Nat} {st As r : List Value} (h : fh_pop n [] st = some (As, r)) : st = As.reverse ++ r ∧ As.length = n := by
  obtain ⟨B, h1, h2, h3⟩ := fh_pop_eq n [] st As r h
  rw [List.append_nil] at h1
  subst h1
  exact ⟨h2, h3⟩
theorem fh_pcb {Λ : fh_La} {σ : fg_St} {vs : List Value} : FrameBlind (va_Pc vs (fh_Pre Λ σ)) := fun a U g mk q => by
  obtain ⟨q1, q2, q3⟩ := q
  exact ⟨q1, q2, q3.calling g mk a⟩
section
variable {l : Launch} {Λ : fh_La} {Γ : fh_Ga} {d pc : Nat} {M : fg_M} {L : List (Option Value)} {st : List Value} {σ : fg_St}
theorem fh_o_callVi {x j b h : Nat} {N : fg_M} {q : vw_C} {As r : List Value} {P : Int32 → fg_St → Prop} (C : fh_Cx Λ Γ (d + 1) M) (hd : decode M.2.1 pc = .ok (.invokevirtual x, 3)) (hj : fg_mt[j]? = some N) (hsta : fg_sta.getD j false = false) (hw : Jvm.Cond.methodLink M.1.cls x N.1 ∈ fh_T) (hnp : (parseMethodDescriptor N.1.desc).map (fun d => d.parameters.length) = some b) (hri : fg_ri N.2.2.2 = true) (hp : fh_pop b [] st = some (As, .ref h :: r)) (hk : vwCl[fh_kd h]? = some q) (hcl : N.1.cls = q.1) (hcat : fh_cat r ≤ 8) (hlen : (fh_fl (.ref h :: As)).length ≤ N.2.2.1) (hs : fh_S l Λ d j 0 (fh_ent N.2.2.1 (.ref h :: As)) [] σ P) (k : ∀ y u, P y u → fh_Wt l Λ Γ M.2.2.1 (pc + 3) L (.int y :: r) u) : fh_Wt l Λ Γ M.2.2.1 pc L st σ := by
  obtain ⟨p, e, R, s, m, args, below, meth, c, Qc⟩ := Γ
  obtain ⟨hx, hb, hml, hr, hlk, hown, hts, hE, hf, hlo, hin⟩ := C
  intro H locs ls hP hS hl
  have F := fh_mfacts hj
  obtain ⟨hst, hn⟩ := fh_pop_0 hp
  subst hst
  have ha := fh_clok _ q hk
  have hM := fh_met (Qc := va_Qi (fun y u => P y u) (fun u t => va_P (fh_D Λ) vwCl (fh_ws Λ u) t.heap) (fh_A Λ)) hin hj hlen hs (fun s t y u hp h1 h2 => by
    refine ⟨⟨y, u, ?_, hp, h1⟩, h2⟩
    unfold fh_rv
    cases hN : N.2.2.2 with
    | none => rw [hN] at hri; cases hri
    | some ty => rfl)
  have he := fh_ws_at (Λ := Λ) (σ := σ) (fh_kd_lt (h := h) rfl (by omega))
  rw [fh_cell_o rfl ha.1] at he
  refine va_calli (va_runV (As := As.map (fh_cv Λ.1)) (rest := r.map (fh_cv Λ.1)) ⟨hx, hb, hml, hown, hts⟩ hM (cwV b hts (fh_good (ws := wsV M.1.cls x N.1.cls N.1 (fh_wm N)) ?_) rfl rfl rfl ⟨rfl, F.2.2.2.1.1, F.2.2.2.1.2, hnp⟩ ⟨hf, ?_⟩) ⟨fh_pcb, ?_, fun U hU hW => ⟨rfl, by rw [hU]; exact hP, hE.warm hW⟩⟩ rfl (by rw [List.length_map]; exact hn) hl.2.1 (by simp [fh_cv]) (lv_room (by rw [fh_cat_cv]; exact hcat)) hd ⟨Nat.zero_le _, Nat.zero_le _⟩) hS (fun q _ h => h) (fun q h => h) (fun y u t H1 locs1 ht hvm hw hB hz1 hk1 hS1 => ?_)
  · intro w hw2
    have F8 := F.2.2.2.2.2.2.2 hsta
    rcases List.mem_append.mp hw2 with h2 | h2
    · simp only [List.mem_cons, List.not_mem_nil, or_false] at h2
      rcases h2 with rfl | rfl | rfl | rfl
      · exact hw
      · exact F8.1
      · exact F8.2
      · exact F.2.2.1
    · exact fh_wm_in hj w h2
  · show 8 + (N.2.2.1 + 11) + 30 * d ≤ R.locals
    have := F.2.2.2.2.2.1
    omega
  · rw [hcl]
    exact va_recv hE.1 hP hk he
  · rw [ht] at hB
    exact k y u hw H1 locs1 ls hB hS1 hl
theorem fh_o_callVv {x j b h : Nat} {N : fg_M} {q : vw_C} {As r : List Value} {P : Int32 → fg_St → Prop} (C : fh_Cx Λ Γ (d + 1) M) (hd : decode M.2.1 pc = .ok (.invokevirtual x, 3)) (hj : fg_mt[j]? = some N) (hsta : fg_sta.getD j false = false) (hw : Jvm.Cond.methodLink M.1.cls x N.1 ∈ fh_T) (hnp : (parseMethodDescriptor N.1.desc).map (fun d => d.parameters.length) = some b) (hri : fg_rz N.2.2.2 = true) (hp : fh_pop b [] st = some (As, .ref h :: r)) (hk : vwCl[fh_kd h]? = some q) (hcl : N.1.cls = q.1) (hcat : fh_cat r ≤ 8) (hlen : (fh_fl (.ref h :: As)).length ≤ N.2.2.1) (hs : fh_S l Λ d j 0 (fh_ent N.2.2.1 (.ref h :: As)) [] σ P) (k : ∀ y u, P y u → fh_Wt l Λ Γ M.2.2.1 (pc + 3) L r u) : fh_Wt l Λ Γ M.2.2.1 pc L st σ := by
  obtain ⟨p, e, R, s, m, args, below, meth, c, Qc⟩ := Γ
  obtain ⟨hx, hb, hml, hr, hlk, hown, hts, hE, hf, hlo, hin⟩ := C
  intro H locs ls hP hS hl
  have F := fh_mfacts hj
  obtain ⟨hst, hn⟩ := fh_pop_0 hp
  subst hst
  have ha := fh_clok _ q hk
  have hM := fh_met (Qc := va_Qv (fun u => ∃ y, P y u) (fun u t => va_P (fh_D Λ) vwCl (fh_ws Λ u) t.heap) (fh_A Λ)) hin hj hlen hs (fun s t y u hp h1 h2 => by
    refine ⟨⟨u, ?_, ⟨y, hp⟩, h1⟩, h2⟩
    unfold fh_rv
    cases hN : N.2.2.2 with
    | none => rfl
    | some ty => rw [hN] at hri; cases hri)
  have he := fh_ws_at (Λ := Λ) (σ := σ) (fh_kd_lt (h := h) rfl (by omega))
  rw [fh_cell_o rfl ha.1] at he
  refine va_callv (va_runV (As := As.map (fh_cv Λ.1)) (rest := r.map (fh_cv Λ.1)) ⟨hx, hb, hml, hown, hts⟩ hM (cwV b hts (fh_good (ws := wsV M.1.cls x N.1.cls N.1 (fh_wm N)) ?_) rfl rfl rfl ⟨rfl, F.2.2.2.1.1, F.2.2.2.1.2, hnp⟩ ⟨hf, ?_⟩) ⟨fh_pcb, ?_, fun U hU hW => ⟨rfl, by rw [hU]; exact hP, hE.warm hW⟩⟩ rfl (by rw [List.length_map]; exact hn) hl.2.1 (by simp [fh_cv]) (lv_room (by rw [fh_cat_cv]; exact hcat)) hd ⟨Nat.zero_le _, Nat.zero_le _⟩) hS (fun q _ h => h) (fun q h => h) (fun u t H1 locs1 ht hvm hw hB hz1 hk1 hS1 => ?_)
  · intro w hw2
    have F8 := F.2.2.2.2.2.2.2 hsta
    rcases List.mem_append.mp hw2 with h2 | h2
    · simp only [List.mem_cons, List.not_mem_nil, or_false] at h2
      rcases h2 with rfl | rfl | rfl | rfl
      · exact hw
      · exact F8.1
      · exact F8.2
      · exact F.2.2.1
    · exact fh_wm_in hj w h2
  · show 8 + (N.2.2.1 + 11) + 30 * d ≤ R.locals
    have := F.2.2.2.2.2.1
    omega
  · rw [hcl]
    exact va_recv hE.1 hP hk he
  · rw [ht] at hB
    obtain ⟨y, hw⟩ := hw
    exact k y u hw H1 locs1 ls hB hS1 hl
theorem fh_o_callSi {x j b : Nat} {N : fg_M} {As r : List Value} {P : Int32 → fg_St → Prop} (C : fh_Cx Λ Γ (d + 1) M) (hd : decode M.2.1 pc = .ok (.invokestatic x, 3)) (hj : fg_mt[j]? = some N) (hsta : fg_sta.getD j false = true) (hw : Jvm.Cond.methodLink M.1.cls x N.1 ∈ fh_T) (hnp : (parseMethodDescriptor N.1.desc).map (fun d => d.parameters.length) = some b) (hri : fg_ri N.2.2.2 = true) (hp : fh_pop b [] st = some (As, r)) (hcat : fh_cat r ≤ 8) (hlen : (fh_fl As).length ≤ N.2.2.1) (hs : fh_S l Λ d j 0 (fh_ent N.2.2.1 As) [] σ P) (k : ∀ y u, P y u → fh_Wt l Λ Γ M.2.2.1 (pc + 3) L (.int y :: r) u) : fh_Wt l Λ Γ M.2.2.1 pc L st σ := by
  obtain ⟨p, e, R, s, m, args, below, meth, c, Qc⟩ := Γ
  obtain ⟨hx, hb, hml, hr, hlk, hown, hts, hE, hf, hlo, hin⟩ := C
  intro H locs ls hP hS hl
  have F := fh_mfacts hj
  obtain ⟨hst, hn⟩ := fh_pop_0 hp
  subst hst
  have hM := fh_met (Qc := va_Qi (fun y u => P y u) (fun u t => va_P (fh_D Λ) vwCl (fh_ws Λ u) t.heap) (fh_A Λ)) hin hj hlen hs (fun s t y u hp h1 h2 => by
    refine ⟨⟨y, u, ?_, hp, h1⟩, h2⟩
    unfold fh_rv
    cases hN : N.2.2.2 with
    | none => rw [hN] at hri; cases hri
    | some ty => rfl)
  refine va_calli (va_runS (As := As.map (fh_cv Λ.1)) (rest := r.map (fh_cv Λ.1)) ⟨hx, hb, hml, hown, hts⟩ hM (va_cwS b hts (fh_good (ws := va_wsS M.1.cls x N.1 (fh_wm N)) ?_) rfl rfl rfl ⟨F.2.2.2.1.1, F.2.2.2.1.2, hnp⟩ ⟨hf, ?_⟩) ⟨fh_pcb, fun U hU hW => ⟨rfl, by rw [hU]; exact hP, hE.warm hW⟩⟩ rfl (by rw [List.length_map]; exact hn) hl.2.1 (by simp [fh_cv]) (lv_room (by rw [fh_cat_cv]; exact hcat)) hd ⟨Nat.zero_le _, Nat.zero_le _⟩) hS (fun q _ h => h) (fun q h => h) (fun y u t H1 locs1 ht hvm hw hB hz1 hk1 hS1 => ?_)
  · intro w hw2
    have F8 := F.2.2.2.2.2.2.1 hsta
    rcases List.mem_append.mp hw2 with h2 | h2
    · simp only [List.mem_cons, List.not_mem_nil, or_false] at h2
      rcases h2 with rfl | rfl | rfl
      · exact hw
      · exact F8
      · exact F.2.2.1
    · exact fh_wm_in hj w h2
  · show 8 + (N.2.2.1 + 11) + 30 * d ≤ R.locals
    have := F.2.2.2.2.2.1
    omega
  · rw [ht] at hB
    exact k y u hw H1 locs1 ls hB hS1 hl
theorem fh_o_callSv {x j b : Nat} {N : fg_M} {As r : List Value} {P : Int32 → fg_St → Prop} (C : fh_Cx Λ Γ (d + 1) M) (hd : decode M.2.1 pc = .ok (.invokestatic x, 3)) (hj : fg_mt[j]? = some N) (hsta : fg_sta.getD j false = true) (hw : Jvm.Cond.methodLink M.1.cls x N.1 ∈ fh_T) (hnp : (parseMethodDescriptor N.1.desc).map (fun d => d.parameters.length) = some b) (hri : fg_rz N.2.2.2 = true) (hp : fh_pop b [] st = some (As, r)) (hcat : fh_cat r ≤ 8) (hlen : (fh_fl As).length ≤ N.2.2.1) (hs : fh_S l Λ d j 0 (fh_ent N.2.2.1 As) [] σ P) (k : ∀ y u, P y u → fh_Wt l Λ Γ M.2.2.1 (pc + 3) L r u) : fh_Wt l Λ Γ M.2.2.1 pc L st σ := by
  obtain ⟨p, e, R, s, m, args, below, meth, c, Qc⟩ := Γ
  obtain ⟨hx, hb, hml, hr, hlk, hown, hts, hE, hf, hlo, hin⟩ := C
  intro H locs ls hP hS hl
  have F := fh_mfacts hj
  obtain ⟨hst, hn⟩ := fh_pop_0 hp
  subst hst
  have hM := fh_met (Qc := va_Qv (fun u => ∃ y, P y u) (fun u t => va_P (fh_D Λ) vwCl (fh_ws Λ u) t.heap) (fh_A Λ)) hin hj hlen hs (fun s t y u hp h1 h2 => by
    refine ⟨⟨u, ?_, ⟨y, hp⟩, h1⟩, h2⟩
    unfold fh_rv
    cases hN : N.2.2.2 with
    | none => rfl
    | some ty => rw [hN] at hri; cases hri)
  refine va_callv (va_runS (As := As.map (fh_cv Λ.1)) (rest := r.map (fh_cv Λ.1)) ⟨hx, hb, hml, hown, hts⟩ hM (va_cwS b hts (fh_good (ws := va_wsS M.1.cls x N.1 (fh_wm N)) ?_) rfl rfl rfl ⟨F.2.2.2.1.1, F.2.2.2.1.2, hnp⟩ ⟨hf, ?_⟩) ⟨fh_pcb, fun U hU hW => ⟨rfl, by rw [hU]; exact hP, hE.warm hW⟩⟩ rfl (by rw [List.length_map]; exact hn) hl.2.1 (by simp [fh_cv]) (lv_room (by rw [fh_cat_cv]; exact hcat)) hd ⟨Nat.zero_le _, Nat.zero_le _⟩) hS (fun q _ h => h) (fun q h => h) (fun u t H1 locs1 ht hvm hw hB hz1 hk1 hS1 => ?_)
  · intro w hw2
    have F8 := F.2.2.2.2.2.2.1 hsta
    rcases List.mem_append.mp hw2 with h2 | h2
    · simp only [List.mem_cons, List.not_mem_nil, or_false] at h2
      rcases h2 with rfl | rfl | rfl
      · exact hw
      · exact F8
      · exact F.2.2.1
    · exact fh_wm_in hj w h2
  · show 8 + (N.2.2.1 + 11) + 30 * d ≤ R.locals
    have := F.2.2.2.2.2.1
    omega
  · rw [ht] at hB
    obtain ⟨y, hw⟩ := hw
    exact k y u hw H1 locs1 ls hB hS1 hl
theorem fh_o_callNi {x j b : Nat} {N : fg_M} {As r : List Value} {P : Int32 → fg_St → Prop} (C : fh_Cx Λ Γ (d + 1) M) (hd : decode M.2.1 pc = .ok (.invokestatic x, 3)) (hj : fg_mt[j]? = some N) (hsta : fg_sta.getD j false = true) (hw : Jvm.Cond.methodLinkNest M.1.cls x N.1 "FlagSignals" ∈ fg_nest) (hnp : (parseMethodDescriptor N.1.desc).map (fun d => d.parameters.length) = some b) (hri : fg_ri N.2.2.2 = true) (hp : fh_pop b [] st = some (As, r)) (hcat : fh_cat r ≤ 8) (hlen : (fh_fl As).length ≤ N.2.2.1) (hs : fh_S l Λ d j 0 (fh_ent N.2.2.1 As) [] σ P) (k : ∀ y u, P y u → fh_Wt l Λ Γ M.2.2.1 (pc + 3) L (.int y :: r) u) : fh_Wt l Λ Γ M.2.2.1 pc L st σ := by
  obtain ⟨p, e, R, s, m, args, below, meth, c, Qc⟩ := Γ
  obtain ⟨hx, hb, hml, hr, hlk, hown, hts, hE, hf, hlo, hin⟩ := C
  intro H locs ls hP hS hl
  have F := fh_mfacts hj
  obtain ⟨hst, hn⟩ := fh_pop_0 hp
  subst hst
  have hM := fh_met (Qc := va_Qi (fun y u => P y u) (fun u t => va_P (fh_D Λ) vwCl (fh_ws Λ u) t.heap) (fh_A Λ)) hin hj hlen hs (fun s t y u hp h1 h2 => by
    refine ⟨⟨y, u, ?_, hp, h1⟩, h2⟩
    unfold fh_rv
    cases hN : N.2.2.2 with
    | none => rw [hN] at hri; cases hri
    | some ty => rfl)
  refine va_calli (va_runSN (As := As.map (fh_cv Λ.1)) (rest := r.map (fh_cv Λ.1)) ⟨hx, hb, hml, hown, hts⟩ hM ⟨va_cnB b hts (fh_good (fh_wm_in hj)) rfl rfl rfl (hE.2 _ hw) (hts _ F.2.2.1) ⟨F.2.2.2.1.1, F.2.2.2.1.2, hnp⟩ ⟨hf, ?_⟩, hts _ (F.2.2.2.2.2.2.1 hsta), trivial⟩ ⟨fh_pcb, fun U hU hW => ⟨rfl, by rw [hU]; exact hP, hE.warm hW⟩⟩ rfl (by rw [List.length_map]; exact hn) hl.2.1 (by simp [fh_cv]) (lv_room (by rw [fh_cat_cv]; exact hcat)) hd ⟨Nat.zero_le _, Nat.zero_le _⟩) hS (fun q _ h => h) (fun q h => h) (fun y u t H1 locs1 ht hvm hw hB hz1 hk1 hS1 => ?_)
  · show 8 + (N.2.2.1 + 11) + 30 * d ≤ R.locals
    have := F.2.2.2.2.2.1
    omega
  · rw [ht] at hB
    exact k y u hw H1 locs1 ls hB hS1 hl
/-! switches -/
theorem fh_sw_at {x : Int32} {T : Nat → Prop} {df : Nat} : ∀ (ts : List Nat) (k j t : Nat), fh_sw x T df k ts → ts[j]? = some t → k + j < 2 ^ 31 → x = Int32.ofNat (k + j) → T t := by
  intro ts
  induction ts with
  | nil => intro k j t _ h; simp at h
  | cons a ts ih =>
    intro k j t h hj hb hx
    cases j with
    | zero =>
      have e : a = t := by simpa using hj
      subst e
      exact h.1 hx
    | succ j =>
      refine ih (k + 1) j t (h.2 ?_) (by simpa using hj) (by omega) (by rw [hx]; congr 1; omega)
      intro e
      rw [e] at hx
      have := (nI_eq (by omega) hb).mp hx
      omega
theorem fh_sw_out {x : Int32} {T : Nat → Prop} {df : Nat} : ∀ (ts : List Nat) (k : Nat), fh_sw x T df k ts → (∀ j, j < ts.length → x ≠ Int32.ofNat (k + j)) → T df := by
  intro ts
  induction ts with
  | nil => intro k h _; exact h
  | cons a ts ih =>
    intro k h hj
    refine ih (k + 1) (h.2 (hj 0 (by simp))) (fun j hl => ?_)
    have := hj (j + 1) (by simp; omega)
    rwa [show k + 1 + j = k + (j + 1) by omega]
theorem fh_o_switch {x : Int32} {df lo hi : Int} {offs : Array Int} {len : Nat} {q : List Nat × Nat} (C : fh_Cx Λ Γ d M) (hd : decode M.2.1 pc = .ok (.tableswitch df lo hi offs, len)) (h1 : lo = 0) (h2 : hi = (q.1.length : Int) - 1) (h3 : q.1.length ≤ 1000) (h4 : (pc : Int) + df = (q.2 : Int)) (h5 : offs.toList.map (fun o => (pc : Int) + o) = q.1.map (fun t : Nat => (t : Int))) (k : fh_sw x (fun t => fh_Wt l Λ Γ M.2.2.1 t L st σ) q.2 0 q.1) : fh_Wt l Λ Γ M.2.2.1 pc L (.int x :: st) σ := by
  obtain ⟨p, e, R, s, m, args, below, meth, c, Qc⟩ := Γ
  obtain ⟨hx, hb, hml, hr, hlk, hown, hts, hE, hf, hlo, hin⟩ := C
  intro H locs ls hP hS hl
  subst h1
  by_cases hc : x.toInt < 0 ∨ hi < x.toInt
  · refine lv_tableOut hx hb hd hc h4 (fh_sw_out _ 0 k (fun j hj e => ?_) H locs ls hP hS hl)
    have : x.toInt = (j : Int) := by rw [e, Nat.zero_add]; exact nI_toInt (by omega)
    omega
  · have hn : ¬ x.toInt < 0 := fun h => hc (Or.inl h)
    have hh : ¬ hi < x.toInt := fun h => hc (Or.inr h)
    have hj : (x.toInt - 0).toNat < q.1.length := by omega
    obtain ⟨t, ht⟩ : ∃ t, q.1[(x.toInt - 0).toNat]? = some t := ⟨_, List.getElem?_eq_getElem hj⟩
    have h6 : (offs.toList.map (fun o => (pc : Int) + o))[(x.toInt - 0).toNat]? = some (t : Int) := by
      rw [h5, List.getElem?_map, ht]
      rfl
    rw [List.getElem?_map] at h6
    cases ho : offs.toList[(x.toInt - 0).toNat]? with
    | none => rw [ho] at h6; cases h6
    | some off =>
      rw [ho] at h6
      have h7 : (pc : Int) + off = (t : Int) := Option.some.inj h6
      refine lv_tableIn hx hb hd hn hh (by rw [← Array.getElem?_toList]; exact ho) h7 (fh_sw_at _ 0 _ t k ht (by omega) ?_ H locs ls hP hS hl)
      rw [Nat.zero_add]
      apply Int32.toInt_inj.mp
      rw [show (Int32.ofNat (x.toInt - 0).toNat).toInt = (((x.toInt - 0).toNat : Nat) : Int) from nI_toInt (by omega)]
      omega
end

/-! EACH STEP OF THE ABSTRACT MACHINE IS A STEP OF THE REAL ONE (laid by wip/whole/gendisp.py) -/
theorem fh_st1_sp {L : List (Option Value)} {a : Nat} {P : Prop} (g : fh_st1 L a P) : a < L.length ∧ fh_lgb L a = false ∧ P := by
  unfold fh_st1 at g
  split at g
  · rename_i e
    simp only [Bool.and_eq_true, Bool.not_eq_true'] at e
    exact ⟨Nat.le_of_ble_eq_true e.1, e.2, g⟩
  · exact g.elim
theorem fh_st2_sp {L : List (Option Value)} {a : Nat} {P : Prop} (g : fh_st2 L a P) : a + 1 < L.length ∧ fh_lgb L a = false ∧ P := by
  unfold fh_st2 at g
  split at g
  · rename_i e
    simp only [Bool.and_eq_true, Bool.not_eq_true'] at e
    exact ⟨Nat.le_of_ble_eq_true e.1, e.2, g⟩
  · exact g.elim
theorem fh_m1_sp {d : Nat} {r : List Value} {P : Prop} (g : fh_m1 d r P) : 1 ≤ d ∧ fh_cat r ≤ 8 ∧ P := by
  unfold fh_m1 at g
  split at g
  · rename_i e
    cases d with
    | zero => exact g.elim
    | succ d => exact ⟨by omega, Nat.le_of_ble_eq_true e, g⟩
  · exact g.elim
theorem fh_fk_sp {own : String} {x a b w : Nat} (h : fg_fk own x a b w = true) : ∃ q : vw_C, vwCl[a]? = some q ∧ b < q.2.2 ∧ Jvm.Cond.fieldLink own x (q.2.1 b).1 (q.2.1 b).2.1 (q.2.1 b).2.2.1 ∈ fh_T := by
  unfold fg_fk at h
  split at h
  · rename_i q e
    simp only [Bool.and_eq_true, decide_eq_true_eq] at h
    exact ⟨q, e, h.1, fh_w_in h.2 rfl⟩
  · cases h
theorem fh_fp_sp {a b : Nat} {ty : FieldType} {q : vw_C} (hq : vwCl[a]? = some q) (h : fg_fp a b ty = true) : (q.2.1 b).2.2.2 = false ∧ parseFieldDescriptor (q.2.1 b).2.2.1 = some ty := by
  unfold fg_fp at h
  rw [hq] at h
  simp only [Bool.and_eq_true, decide_eq_true_eq] at h
  exact h
theorem fh_ckc_sp {own : String} {x a b w : Nat} {z : Bool} (h : fg_ckc own x a b w z = true) : ∃ N : fg_M, fg_mt[a]? = some N ∧ Jvm.Cond.methodLink own x N.1 ∈ fh_T ∧ (parseMethodDescriptor N.1.desc).map (fun d => d.parameters.length) = some b ∧ (z = true → fg_rz N.2.2.2 = true) ∧ (z = false → fg_ri N.2.2.2 = true) := by
  unfold fg_ckc at h
  split at h
  · rename_i N e
    simp only [Bool.and_eq_true] at h
    refine ⟨N, e, fh_w_in h.1 rfl, of_decide_eq_true h.2.1, fun q => ?_, fun q => ?_⟩
    · subst q; exact h.2.2
    · subst q; exact h.2.2
  · cases h
theorem fh_call_sp {S : fh_P} {d a : Nat} {As r : List Value} {σ : fg_St} {K : Nat → Int32 → fg_St → Prop} {N : fg_M} (hj : fg_mt[a]? = some N) (g : fh_call S d a As r σ K) : ∃ (d2 : Nat) (P : Int32 → fg_St → Prop), d = d2 + 1 ∧ fh_cat r ≤ 8 ∧ (fh_fl As).length ≤ N.2.2.1 ∧ S d2 a 0 (fh_ent N.2.2.1 As) [] σ P ∧ ∀ y u, P y u → K (d2 + 1) y u := by
  have hm : fh_ml a = N.2.2.1 := by unfold fh_ml; rw [hj]
  unfold fh_call at g
  rw [hm] at g
  split at g
  · rename_i e
    simp only [Bool.and_eq_true] at e
    cases d with
    | zero => exact g.elim
    | succ d2 =>
      obtain ⟨P, h1, h2⟩ := g
      exact ⟨d2, P, rfl, Nat.le_of_ble_eq_true e.1, Nat.le_of_ble_eq_true e.2, h1, h2⟩
  · exact g.elim
theorem fh_cell_spo {Λ : fh_La} {σ : fg_St} (y z : Nat) (g : Nat) (hl : g < 187) (hg : g ≠ 0) : fh_cell Λ (y, z, σ.2.2) g = fh_cell Λ σ g := by
  have h9 : fh_kd g ≠ 9 := fun e => hg (fh_kd9 g hl e)
  have : fh_fv Λ.1 (y, z, σ.2.2) g (fh_kd g) = fh_fv Λ.1 σ g (fh_kd g) := by
    funext j
    unfold fh_fv
    cases fh_rf (fh_kd g) j
    · rfl
    · show Value.ref (Λ.1 (fh_pt _ g j)) = Value.ref (Λ.1 (fh_pt _ g j))
      congr 2
      unfold fh_pt
      split <;> first | rfl | (rename_i e; exact absurd e h9)
  unfold fh_cell
  rw [this]
theorem fh_cell_s1 (Λ : fh_La) (σ : fg_St) (y : Nat) : fh_cell Λ (y, σ.2.1, σ.2.2) 0 = Sum.inr (9, ((List.range (fh_nf.getD 9 0)).map (fh_fv Λ.1 σ 0 9)).set 1 (fh_cv Λ.1 (.ref y))) := by
  rw [fh_cell_o (c := 9) rfl (by decide)]
  rfl
theorem fh_cell_s2 (Λ : fh_La) (σ : fg_St) (y : Nat) : fh_cell Λ (σ.1, y, σ.2.2) 0 = Sum.inr (9, ((List.range (fh_nf.getD 9 0)).map (fh_fv Λ.1 σ 0 9)).set 2 (fh_cv Λ.1 (.ref y))) := by
  rw [fh_cell_o (c := 9) rfl (by decide)]
  rfl
section
variable {l : Launch} {Λ : fh_La} {Γ : fh_Ga} {d pc : Nat} {M : fg_M} {L : List (Option Value)} {st : List Value} {σ : fg_St}
theorem fh_d0 {i len a b w : Nat} {v : Int32} {ins : Instr} {Q : Int32 → fg_St → Prop} (g : (fh_S l Λ) d i (pc + len) L (.int v :: st) σ Q) (hc : ((match ins with
    | .iconst n => Nat.beq len 1 && decide (Int32.ofInt n = v)
    | .bipush n => Nat.beq len 2 && decide ((Int8.ofInt n).toInt32 = v)
    | .sipush n => Nat.beq len 3 && decide ((Int16.ofInt n).toInt32 = v)
    | .ldc x => Nat.beq len 2 && fg_w w (.constant M.1.cls x v)
    | .ldc_w x => Nat.beq len 3 && fg_w w (.constant M.1.cls x v)
    | _ => false)) = true) (C : fh_Cx Λ Γ d M) (hQ : fh_End Λ Γ M.2.2.2 Q) (hM : fg_mt[i]? = some M) (hd : decode M.2.1 pc = .ok (ins, len)) : fh_Wt l Λ Γ M.2.2.1 pc L st σ := by
  split at hc
  · simp only [Bool.and_eq_true, decide_eq_true_eq] at hc
    obtain ⟨e1, e2⟩ := hc
    cases Nat.eq_of_beq_eq_true e1
    exact fh_o_iconst C hd e2 (g M hM Γ C hQ)
  · simp only [Bool.and_eq_true, decide_eq_true_eq] at hc
    obtain ⟨e1, e2⟩ := hc
    cases Nat.eq_of_beq_eq_true e1
    exact fh_o_bipush C hd e2 (g M hM Γ C hQ)
  · simp only [Bool.and_eq_true, decide_eq_true_eq] at hc
    obtain ⟨e1, e2⟩ := hc
    cases Nat.eq_of_beq_eq_true e1
    exact fh_o_sipush C hd e2 (g M hM Γ C hQ)
  · simp only [Bool.and_eq_true, decide_eq_true_eq] at hc
    obtain ⟨e1, e2⟩ := hc
    cases Nat.eq_of_beq_eq_true e1
    exact fh_o_ldc C hd (fh_w_in e2 rfl) (g M hM Γ C hQ)
  · simp only [Bool.and_eq_true, decide_eq_true_eq] at hc
    obtain ⟨e1, e2⟩ := hc
    cases Nat.eq_of_beq_eq_true e1
    exact fh_o_ldcw C hd (fh_w_in e2 rfl) (g M hM Γ C hQ)
  · cases hc
theorem fh_d1 {i len a b w : Nat} {v : Int32} {ins : Instr} {Q : Int32 → fg_St → Prop} (g : (fh_S l Λ) d i (pc + len) L (.long (Int64.ofNat a) :: st) σ Q) (hc : ((match ins with
    | .lconst n => Nat.beq len 1 && Nat.beq n.val a
    | .ldc2_w x => Nat.beq len 3 && fg_w w (.constantLong M.1.cls x (Int64.ofNat a))
    | _ => false)) = true) (C : fh_Cx Λ Γ d M) (hQ : fh_End Λ Γ M.2.2.2 Q) (hM : fg_mt[i]? = some M) (hd : decode M.2.1 pc = .ok (ins, len)) : fh_Wt l Λ Γ M.2.2.1 pc L st σ := by
  split at hc
  · simp only [Bool.and_eq_true, decide_eq_true_eq] at hc
    obtain ⟨e1, e2⟩ := hc
    cases Nat.eq_of_beq_eq_true e1
    exact fh_o_lconst C hd (by rw [Nat.eq_of_beq_eq_true e2]) (g M hM Γ C hQ)
  · simp only [Bool.and_eq_true, decide_eq_true_eq] at hc
    obtain ⟨e1, e2⟩ := hc
    cases Nat.eq_of_beq_eq_true e1
    exact fh_o_ldc2 C hd (fh_w_in e2 rfl) (g M hM Γ C hQ)
  · cases hc
theorem fh_d2 {i len a b w : Nat} {v : Int32} {ins : Instr} {Q : Int32 → fg_St → Prop} (g : (match L[a]? with
    | some (some (.int x)) => (fh_S l Λ) d i (pc + len) L (.int x :: st) σ Q
    | _ => False)) (hc : ((match ins with
    | .iload_n k => Nat.beq len 1 && Nat.beq k.val a
    | .iload k => Nat.beq len 2 && Nat.beq k a
    | _ => false)) = true) (C : fh_Cx Λ Γ d M) (hQ : fh_End Λ Γ M.2.2.2 Q) (hM : fg_mt[i]? = some M) (hd : decode M.2.1 pc = .ok (ins, len)) : fh_Wt l Λ Γ M.2.2.1 pc L st σ := by
  split at hc
  · simp only [Bool.and_eq_true, decide_eq_true_eq] at hc
    obtain ⟨e1, e2⟩ := hc
    cases Nat.eq_of_beq_eq_true e1
    split at g
    · rename_i e
      exact fh_o_iload_n C hd (Nat.eq_of_beq_eq_true e2) e (g M hM Γ C hQ)
    · exact g.elim
  · simp only [Bool.and_eq_true, decide_eq_true_eq] at hc
    obtain ⟨e1, e2⟩ := hc
    cases Nat.eq_of_beq_eq_true e1
    cases Nat.eq_of_beq_eq_true e2
    split at g
    · rename_i e
      exact fh_o_iload C hd e (g M hM Γ C hQ)
    · exact g.elim
  · cases hc
theorem fh_d3 {i len a b w : Nat} {v : Int32} {ins : Instr} {Q : Int32 → fg_St → Prop} (g : (match L[a]? with
    | some (some (.ref x)) => (fh_S l Λ) d i (pc + len) L (.ref x :: st) σ Q
    | _ => False)) (hc : ((match ins with
    | .aload_n k => Nat.beq len 1 && Nat.beq k.val a
    | .aload k => Nat.beq len 2 && Nat.beq k a
    | _ => false)) = true) (C : fh_Cx Λ Γ d M) (hQ : fh_End Λ Γ M.2.2.2 Q) (hM : fg_mt[i]? = some M) (hd : decode M.2.1 pc = .ok (ins, len)) : fh_Wt l Λ Γ M.2.2.1 pc L st σ := by
  split at hc
  · simp only [Bool.and_eq_true, decide_eq_true_eq] at hc
    obtain ⟨e1, e2⟩ := hc
    cases Nat.eq_of_beq_eq_true e1
    split at g
    · rename_i e
      exact fh_o_aload_n C hd (Nat.eq_of_beq_eq_true e2) e (g M hM Γ C hQ)
    · exact g.elim
  · simp only [Bool.and_eq_true, decide_eq_true_eq] at hc
    obtain ⟨e1, e2⟩ := hc
    cases Nat.eq_of_beq_eq_true e1
    cases Nat.eq_of_beq_eq_true e2
    split at g
    · rename_i e
      exact fh_o_aload C hd e (g M hM Γ C hQ)
    · exact g.elim
  · cases hc
theorem fh_d4 {i len a b w : Nat} {v : Int32} {ins : Instr} {Q : Int32 → fg_St → Prop} (g : (match L[a]? with
    | some (some (.long x)) => (fh_S l Λ) d i (pc + len) L (.long x :: st) σ Q
    | _ => False)) (hc : ((match ins with
    | .lload_n k => Nat.beq len 1 && Nat.beq k.val a
    | .lload k => Nat.beq len 2 && Nat.beq k a
    | _ => false)) = true) (C : fh_Cx Λ Γ d M) (hQ : fh_End Λ Γ M.2.2.2 Q) (hM : fg_mt[i]? = some M) (hd : decode M.2.1 pc = .ok (ins, len)) : fh_Wt l Λ Γ M.2.2.1 pc L st σ := by
  split at hc
  · simp only [Bool.and_eq_true, decide_eq_true_eq] at hc
    obtain ⟨e1, e2⟩ := hc
    cases Nat.eq_of_beq_eq_true e1
    split at g
    · rename_i e
      exact fh_o_lload_n C hd (Nat.eq_of_beq_eq_true e2) e (g M hM Γ C hQ)
    · exact g.elim
  · simp only [Bool.and_eq_true, decide_eq_true_eq] at hc
    obtain ⟨e1, e2⟩ := hc
    cases Nat.eq_of_beq_eq_true e1
    cases Nat.eq_of_beq_eq_true e2
    split at g
    · rename_i e
      exact fh_o_lload C hd e (g M hM Γ C hQ)
    · exact g.elim
  · cases hc
theorem fh_d5 {i len a b w : Nat} {v : Int32} {ins : Instr} {Q : Int32 → fg_St → Prop} (g : (match st with
    | .int x :: r => fh_st1 L a ((fh_S l Λ) d i (pc + len) (L.set a (some (.int x))) r σ Q)
    | _ => False)) (hc : ((match ins with
    | .istore_n k => Nat.beq len 1 && Nat.beq k.val a
    | .istore k => Nat.beq len 2 && Nat.beq k a
    | _ => false)) = true) (C : fh_Cx Λ Γ d M) (hQ : fh_End Λ Γ M.2.2.2 Q) (hM : fg_mt[i]? = some M) (hd : decode M.2.1 pc = .ok (ins, len)) : fh_Wt l Λ Γ M.2.2.1 pc L st σ := by
  split at hc
  · simp only [Bool.and_eq_true, decide_eq_true_eq] at hc
    obtain ⟨e1, e2⟩ := hc
    cases Nat.eq_of_beq_eq_true e1
    split at g
    · obtain ⟨hn, hg, g⟩ := fh_st1_sp g
      exact fh_o_istore_n C hd (Nat.eq_of_beq_eq_true e2) hn hg (g M hM Γ C hQ)
    · exact g.elim
  · simp only [Bool.and_eq_true, decide_eq_true_eq] at hc
    obtain ⟨e1, e2⟩ := hc
    cases Nat.eq_of_beq_eq_true e1
    cases Nat.eq_of_beq_eq_true e2
    split at g
    · obtain ⟨hn, hg, g⟩ := fh_st1_sp g
      exact fh_o_istore C hd hn hg (g M hM Γ C hQ)
    · exact g.elim
  · cases hc
theorem fh_d6 {i len a b w : Nat} {v : Int32} {ins : Instr} {Q : Int32 → fg_St → Prop} (g : (match st with
    | .ref x :: r => fh_st1 L a ((fh_S l Λ) d i (pc + len) (L.set a (some (.ref x))) r σ Q)
    | _ => False)) (hc : ((match ins with
    | .astore_n k => Nat.beq len 1 && Nat.beq k.val a
    | .astore k => Nat.beq len 2 && Nat.beq k a
    | _ => false)) = true) (C : fh_Cx Λ Γ d M) (hQ : fh_End Λ Γ M.2.2.2 Q) (hM : fg_mt[i]? = some M) (hd : decode M.2.1 pc = .ok (ins, len)) : fh_Wt l Λ Γ M.2.2.1 pc L st σ := by
  split at hc
  · simp only [Bool.and_eq_true, decide_eq_true_eq] at hc
    obtain ⟨e1, e2⟩ := hc
    cases Nat.eq_of_beq_eq_true e1
    split at g
    · obtain ⟨hn, hg, g⟩ := fh_st1_sp g
      exact fh_o_astore_n C hd (Nat.eq_of_beq_eq_true e2) hn hg (g M hM Γ C hQ)
    · exact g.elim
  · simp only [Bool.and_eq_true, decide_eq_true_eq] at hc
    obtain ⟨e1, e2⟩ := hc
    cases Nat.eq_of_beq_eq_true e1
    cases Nat.eq_of_beq_eq_true e2
    split at g
    · obtain ⟨hn, hg, g⟩ := fh_st1_sp g
      exact fh_o_astore C hd hn hg (g M hM Γ C hQ)
    · exact g.elim
  · cases hc
theorem fh_d7 {i len a b w : Nat} {v : Int32} {ins : Instr} {Q : Int32 → fg_St → Prop} (g : (match st with
    | .long x :: r => fh_st2 L a ((fh_S l Λ) d i (pc + len) ((L.set a (some (.long x))).set (a + 1) none) r σ Q)
    | _ => False)) (hc : ((match ins with
    | .lstore_n k => Nat.beq len 1 && Nat.beq k.val a
    | .lstore k => Nat.beq len 2 && Nat.beq k a
    | _ => false)) = true) (C : fh_Cx Λ Γ d M) (hQ : fh_End Λ Γ M.2.2.2 Q) (hM : fg_mt[i]? = some M) (hd : decode M.2.1 pc = .ok (ins, len)) : fh_Wt l Λ Γ M.2.2.1 pc L st σ := by
  split at hc
  · simp only [Bool.and_eq_true, decide_eq_true_eq] at hc
    obtain ⟨e1, e2⟩ := hc
    cases Nat.eq_of_beq_eq_true e1
    split at g
    · obtain ⟨hn, hg, g⟩ := fh_st2_sp g
      exact fh_o_lstore_n C hd (Nat.eq_of_beq_eq_true e2) hn hg (g M hM Γ C hQ)
    · exact g.elim
  · simp only [Bool.and_eq_true, decide_eq_true_eq] at hc
    obtain ⟨e1, e2⟩ := hc
    cases Nat.eq_of_beq_eq_true e1
    cases Nat.eq_of_beq_eq_true e2
    split at g
    · obtain ⟨hn, hg, g⟩ := fh_st2_sp g
      exact fh_o_lstore C hd hn hg (g M hM Γ C hQ)
    · exact g.elim
  · cases hc
theorem fh_d8 {i len a b w : Nat} {v : Int32} {ins : Instr} {Q : Int32 → fg_St → Prop} (g : (match L[a]? with
    | some (some (.int x)) => fh_st1 L a ((fh_S l Λ) d i (pc + len) (L.set a (some (.int (x + v)))) st σ Q)
    | _ => False)) (hc : ((match ins with
    | .iinc k n => Nat.beq len 3 && (Nat.beq k a && decide (Int32.ofInt n = v))
    | _ => false)) = true) (C : fh_Cx Λ Γ d M) (hQ : fh_End Λ Γ M.2.2.2 Q) (hM : fg_mt[i]? = some M) (hd : decode M.2.1 pc = .ok (ins, len)) : fh_Wt l Λ Γ M.2.2.1 pc L st σ := by
  split at hc
  · simp only [Bool.and_eq_true, decide_eq_true_eq] at hc
    obtain ⟨e1, e2, e3⟩ := hc
    cases Nat.eq_of_beq_eq_true e1
    cases Nat.eq_of_beq_eq_true e2
    split at g
    · rename_i e
      obtain ⟨hn, hg, g⟩ := fh_st1_sp g
      exact fh_o_iinc C hd e3 e hg (g M hM Γ C hQ)
    · exact g.elim
  · cases hc
theorem fh_d9 {i len a b w : Nat} {v : Int32} {ins : Instr} {Q : Int32 → fg_St → Prop} (hc : ((match b with
    | 0 => Nat.beq len 1 && decide (ins = .iadd)
    | 1 => Nat.beq len 1 && decide (ins = .isub)
    | 2 => Nat.beq len 1 && decide (ins = .imul)
    | 3 => Nat.beq len 1 && decide (ins = .iand)
    | 4 => Nat.beq len 1 && decide (ins = .ior)
    | 5 => Nat.beq len 1 && decide (ins = .ixor)
    | 6 => Nat.beq len 1 && decide (ins = .ishl)
    | 7 => Nat.beq len 1 && decide (ins = .ishr)
    | _ => Nat.beq len 1 && decide (ins = .iushr))) = true) (g : (match st with
    | .int y :: .int x :: r => (fh_S l Λ) d i (pc + len) L (.int (fh_bin b x y) :: r) σ Q
    | _ => False)) (C : fh_Cx Λ Γ d M) (hQ : fh_End Λ Γ M.2.2.2 Q) (hM : fg_mt[i]? = some M) (hd : decode M.2.1 pc = .ok (ins, len)) : fh_Wt l Λ Γ M.2.2.1 pc L st σ := by
  have hb8 : (b = 0 → False) → (b = 1 → False) → (b = 2 → False) → (b = 3 → False) → (b = 4 → False) → (b = 5 → False) → (b = 6 → False) → (b = 7 → False) → ∀ x y, fh_bin b x y = (x.toUInt32 >>> (y.toUInt32 &&& Int32.toUInt32 31)).toInt32 := by
    intro h0 h1 h2 h3 h4 h5 h6 h7 x y
    unfold fh_bin
    split <;> first | (exact absurd rfl h0) | (exact absurd rfl h1) | (exact absurd rfl h2) | (exact absurd rfl h3) | (exact absurd rfl h4) | (exact absurd rfl h5) | (exact absurd rfl h6) | (exact absurd rfl h7) | rfl
  split at hc
  · simp only [Bool.and_eq_true, decide_eq_true_eq] at hc
    obtain ⟨e1, rfl⟩ := hc
    cases Nat.eq_of_beq_eq_true e1
    split at g
    · exact fh_o_iadd C hd (g M hM Γ C hQ)
    · exact g.elim
  · simp only [Bool.and_eq_true, decide_eq_true_eq] at hc
    obtain ⟨e1, rfl⟩ := hc
    cases Nat.eq_of_beq_eq_true e1
    split at g
    · exact fh_o_isub C hd (g M hM Γ C hQ)
    · exact g.elim
  · simp only [Bool.and_eq_true, decide_eq_true_eq] at hc
    obtain ⟨e1, rfl⟩ := hc
    cases Nat.eq_of_beq_eq_true e1
    split at g
    · exact fh_o_imul C hd (g M hM Γ C hQ)
    · exact g.elim
  · simp only [Bool.and_eq_true, decide_eq_true_eq] at hc
    obtain ⟨e1, rfl⟩ := hc
    cases Nat.eq_of_beq_eq_true e1
    split at g
    · exact fh_o_iand C hd (g M hM Γ C hQ)
    · exact g.elim
  · simp only [Bool.and_eq_true, decide_eq_true_eq] at hc
    obtain ⟨e1, rfl⟩ := hc
    cases Nat.eq_of_beq_eq_true e1
    split at g
    · exact fh_o_ior C hd (g M hM Γ C hQ)
    · exact g.elim
  · simp only [Bool.and_eq_true, decide_eq_true_eq] at hc
    obtain ⟨e1, rfl⟩ := hc
    cases Nat.eq_of_beq_eq_true e1
    split at g
    · exact fh_o_ixor C hd (g M hM Γ C hQ)
    · exact g.elim
  · simp only [Bool.and_eq_true, decide_eq_true_eq] at hc
    obtain ⟨e1, rfl⟩ := hc
    cases Nat.eq_of_beq_eq_true e1
    split at g
    · exact fh_o_ishl C hd (g M hM Γ C hQ)
    · exact g.elim
  · simp only [Bool.and_eq_true, decide_eq_true_eq] at hc
    obtain ⟨e1, rfl⟩ := hc
    cases Nat.eq_of_beq_eq_true e1
    split at g
    · exact fh_o_ishr C hd (g M hM Γ C hQ)
    · exact g.elim
  · simp only [Bool.and_eq_true, decide_eq_true_eq] at hc
    obtain ⟨e1, rfl⟩ := hc
    cases Nat.eq_of_beq_eq_true e1
    simp only [hb8 ‹b = 0 → False› ‹b = 1 → False› ‹b = 2 → False› ‹b = 3 → False› ‹b = 4 → False› ‹b = 5 → False› ‹b = 6 → False› ‹b = 7 → False›] at g
    split at g
    · exact fh_o_iushr C hd (g M hM Γ C hQ)
    · exact g.elim
theorem fh_d10 {i len a b w : Nat} {v : Int32} {ins : Instr} {Q : Int32 → fg_St → Prop} (g : (match st with
    | .int y :: .int x :: r => ¬ y = 0 ∧ (fh_S l Λ) d i (pc + len) L (.int (x / y) :: r) σ Q
    | _ => False)) (hc : (Nat.beq len 1 && decide (ins = .idiv)) = true) (C : fh_Cx Λ Γ d M) (hQ : fh_End Λ Γ M.2.2.2 Q) (hM : fg_mt[i]? = some M) (hd : decode M.2.1 pc = .ok (ins, len)) : fh_Wt l Λ Γ M.2.2.1 pc L st σ := by
  simp only [Bool.and_eq_true, decide_eq_true_eq] at hc
  obtain ⟨e1, rfl⟩ := hc
  cases Nat.eq_of_beq_eq_true e1
  split at g
  · exact fh_o_idiv C hd g.1 (g.2 M hM Γ C hQ)
  · exact g.elim
theorem fh_d11 {i len a b w : Nat} {v : Int32} {ins : Instr} {Q : Int32 → fg_St → Prop} (g : (match st with
    | .int y :: .int x :: r => ¬ y = 0 ∧ (fh_S l Λ) d i (pc + len) L (.int (x - x / y * y) :: r) σ Q
    | _ => False)) (hc : (Nat.beq len 1 && decide (ins = .irem)) = true) (C : fh_Cx Λ Γ d M) (hQ : fh_End Λ Γ M.2.2.2 Q) (hM : fg_mt[i]? = some M) (hd : decode M.2.1 pc = .ok (ins, len)) : fh_Wt l Λ Γ M.2.2.1 pc L st σ := by
  simp only [Bool.and_eq_true, decide_eq_true_eq] at hc
  obtain ⟨e1, rfl⟩ := hc
  cases Nat.eq_of_beq_eq_true e1
  split at g
  · exact fh_o_irem C hd g.1 (g.2 M hM Γ C hQ)
  · exact g.elim
theorem fh_d12 {i len a b w : Nat} {v : Int32} {ins : Instr} {Q : Int32 → fg_St → Prop} (g : (match st with
    | .int x :: r => (fh_S l Λ) d i (pc + len) L (.int (-x) :: r) σ Q
    | _ => False)) (hc : (Nat.beq len 1 && decide (ins = .ineg)) = true) (C : fh_Cx Λ Γ d M) (hQ : fh_End Λ Γ M.2.2.2 Q) (hM : fg_mt[i]? = some M) (hd : decode M.2.1 pc = .ok (ins, len)) : fh_Wt l Λ Γ M.2.2.1 pc L st σ := by
  simp only [Bool.and_eq_true, decide_eq_true_eq] at hc
  obtain ⟨e1, rfl⟩ := hc
  cases Nat.eq_of_beq_eq_true e1
  split at g
  · exact fh_o_ineg C hd (g M hM Γ C hQ)
  · exact g.elim
theorem fh_d13 {i len a b w : Nat} {v : Int32} {ins : Instr} {Q : Int32 → fg_St → Prop} (g : (match st with
    | .int x :: r => (fh_S l Λ) d i (pc + len) L (.long x.toInt64 :: r) σ Q
    | _ => False)) (hc : (Nat.beq len 1 && decide (ins = .i2l)) = true) (C : fh_Cx Λ Γ d M) (hQ : fh_End Λ Γ M.2.2.2 Q) (hM : fg_mt[i]? = some M) (hd : decode M.2.1 pc = .ok (ins, len)) : fh_Wt l Λ Γ M.2.2.1 pc L st σ := by
  simp only [Bool.and_eq_true, decide_eq_true_eq] at hc
  obtain ⟨e1, rfl⟩ := hc
  cases Nat.eq_of_beq_eq_true e1
  split at g
  · exact fh_o_i2l C hd (g M hM Γ C hQ)
  · exact g.elim
theorem fh_d14 {i len a b w : Nat} {v : Int32} {ins : Instr} {Q : Int32 → fg_St → Prop} (g : (match st with
    | .long x :: r => (fh_S l Λ) d i (pc + len) L (.int x.toInt32 :: r) σ Q
    | _ => False)) (hc : (Nat.beq len 1 && decide (ins = .l2i)) = true) (C : fh_Cx Λ Γ d M) (hQ : fh_End Λ Γ M.2.2.2 Q) (hM : fg_mt[i]? = some M) (hd : decode M.2.1 pc = .ok (ins, len)) : fh_Wt l Λ Γ M.2.2.1 pc L st σ := by
  simp only [Bool.and_eq_true, decide_eq_true_eq] at hc
  obtain ⟨e1, rfl⟩ := hc
  cases Nat.eq_of_beq_eq_true e1
  split at g
  · exact fh_o_l2i C hd (g M hM Γ C hQ)
  · exact g.elim
theorem fh_d15 {i len a b w : Nat} {v : Int32} {ins : Instr} {Q : Int32 → fg_St → Prop} (hc : ((match b with
    | 0 => Nat.beq len 1 && decide (ins = .ladd)
    | 1 => Nat.beq len 1 && decide (ins = .lmul)
    | _ => Nat.beq len 1 && decide (ins = .land))) = true) (g : (match st with
    | .long y :: .long x :: r => (fh_S l Λ) d i (pc + len) L (.long (fh_lbin b x y) :: r) σ Q
    | _ => False)) (C : fh_Cx Λ Γ d M) (hQ : fh_End Λ Γ M.2.2.2 Q) (hM : fg_mt[i]? = some M) (hd : decode M.2.1 pc = .ok (ins, len)) : fh_Wt l Λ Γ M.2.2.1 pc L st σ := by
  have hb2 : (b = 0 → False) → (b = 1 → False) → ∀ x y, fh_lbin b x y = x &&& y := by
    intro h0 h1 x y
    unfold fh_lbin
    split <;> first | (exact absurd rfl h0) | (exact absurd rfl h1) | rfl
  split at hc
  · simp only [Bool.and_eq_true, decide_eq_true_eq] at hc
    obtain ⟨e1, rfl⟩ := hc
    cases Nat.eq_of_beq_eq_true e1
    split at g
    · exact fh_o_ladd C hd (g M hM Γ C hQ)
    · exact g.elim
  · simp only [Bool.and_eq_true, decide_eq_true_eq] at hc
    obtain ⟨e1, rfl⟩ := hc
    cases Nat.eq_of_beq_eq_true e1
    split at g
    · exact fh_o_lmul C hd (g M hM Γ C hQ)
    · exact g.elim
  · simp only [Bool.and_eq_true, decide_eq_true_eq] at hc
    obtain ⟨e1, rfl⟩ := hc
    cases Nat.eq_of_beq_eq_true e1
    simp only [hb2 ‹b = 0 → False› ‹b = 1 → False›] at g
    split at g
    · exact fh_o_land C hd (g M hM Γ C hQ)
    · exact g.elim
theorem fh_d16 {i len a b w : Nat} {v : Int32} {ins : Instr} {Q : Int32 → fg_St → Prop} (g : (match st with
    | .long y :: .long x :: r => ¬ y = 0 ∧ (fh_S l Λ) d i (pc + len) L (.long (x / y) :: r) σ Q
    | _ => False)) (hc : (Nat.beq len 1 && decide (ins = .ldiv)) = true) (C : fh_Cx Λ Γ d M) (hQ : fh_End Λ Γ M.2.2.2 Q) (hM : fg_mt[i]? = some M) (hd : decode M.2.1 pc = .ok (ins, len)) : fh_Wt l Λ Γ M.2.2.1 pc L st σ := by
  simp only [Bool.and_eq_true, decide_eq_true_eq] at hc
  obtain ⟨e1, rfl⟩ := hc
  cases Nat.eq_of_beq_eq_true e1
  split at g
  · exact fh_o_ldiv C hd g.1 (g.2 M hM Γ C hQ)
  · exact g.elim
theorem fh_d17 {i len a b w : Nat} {v : Int32} {ins : Instr} {Q : Int32 → fg_St → Prop} (g : (match st with
    | .long y :: .long x :: r => ¬ y = 0 ∧ (fh_S l Λ) d i (pc + len) L (.long (x - x / y * y) :: r) σ Q
    | _ => False)) (hc : (Nat.beq len 1 && decide (ins = .lrem)) = true) (C : fh_Cx Λ Γ d M) (hQ : fh_End Λ Γ M.2.2.2 Q) (hM : fg_mt[i]? = some M) (hd : decode M.2.1 pc = .ok (ins, len)) : fh_Wt l Λ Γ M.2.2.1 pc L st σ := by
  simp only [Bool.and_eq_true, decide_eq_true_eq] at hc
  obtain ⟨e1, rfl⟩ := hc
  cases Nat.eq_of_beq_eq_true e1
  split at g
  · exact fh_o_lrem C hd g.1 (g.2 M hM Γ C hQ)
  · exact g.elim
theorem fh_d18 {i len a b w : Nat} {v : Int32} {ins : Instr} {Q : Int32 → fg_St → Prop} (g : (match st with
    | .long y :: .long x :: r => (fh_S l Λ) d i (pc + len) L (.int (lg_cmp x y) :: r) σ Q
    | _ => False)) (hc : (Nat.beq len 1 && decide (ins = .lcmp)) = true) (C : fh_Cx Λ Γ d M) (hQ : fh_End Λ Γ M.2.2.2 Q) (hM : fg_mt[i]? = some M) (hd : decode M.2.1 pc = .ok (ins, len)) : fh_Wt l Λ Γ M.2.2.1 pc L st σ := by
  simp only [Bool.and_eq_true, decide_eq_true_eq] at hc
  obtain ⟨e1, rfl⟩ := hc
  cases Nat.eq_of_beq_eq_true e1
  split at g
  · exact fh_o_lcmp C hd (g M hM Γ C hQ)
  · exact g.elim
theorem fh_d19 {i len a b w : Nat} {v : Int32} {ins : Instr} {Q : Int32 → fg_St → Prop} (g : (match st with
    | .int x :: r => (fh_S l Λ) d i (pc + len) L (.int x :: .int x :: r) σ Q
    | .ref x :: r => (fh_S l Λ) d i (pc + len) L (.ref x :: .ref x :: r) σ Q
    | _ => False)) (hc : (Nat.beq len 1 && decide (ins = .dup)) = true) (C : fh_Cx Λ Γ d M) (hQ : fh_End Λ Γ M.2.2.2 Q) (hM : fg_mt[i]? = some M) (hd : decode M.2.1 pc = .ok (ins, len)) : fh_Wt l Λ Γ M.2.2.1 pc L st σ := by
  simp only [Bool.and_eq_true, decide_eq_true_eq] at hc
  obtain ⟨e1, rfl⟩ := hc
  cases Nat.eq_of_beq_eq_true e1
  split at g
  · exact fh_o_dupi C hd (g M hM Γ C hQ)
  · exact fh_o_dupa C hd (g M hM Γ C hQ)
  · exact g.elim
theorem fh_d20 {i len a b w : Nat} {v : Int32} {ins : Instr} {Q : Int32 → fg_St → Prop} (g : (match st with
    | .int _ :: r => (fh_S l Λ) d i (pc + len) L r σ Q
    | .ref _ :: r => (fh_S l Λ) d i (pc + len) L r σ Q
    | _ => False)) (hc : (Nat.beq len 1 && decide (ins = .pop)) = true) (C : fh_Cx Λ Γ d M) (hQ : fh_End Λ Γ M.2.2.2 Q) (hM : fg_mt[i]? = some M) (hd : decode M.2.1 pc = .ok (ins, len)) : fh_Wt l Λ Γ M.2.2.1 pc L st σ := by
  simp only [Bool.and_eq_true, decide_eq_true_eq] at hc
  obtain ⟨e1, rfl⟩ := hc
  cases Nat.eq_of_beq_eq_true e1
  split at g
  · exact fh_o_popi C hd (g M hM Γ C hQ)
  · exact fh_o_popa C hd (g M hM Γ C hQ)
  · exact g.elim
theorem fh_d21 {i len a b w : Nat} {v : Int32} {ins : Instr} {Q : Int32 → fg_St → Prop} (g : (match st with
    | .int x :: .ref y :: r => (fh_S l Λ) d i (pc + len) L (.int x :: .ref y :: .int x :: .ref y :: r) σ Q
    | _ => False)) (hc : (Nat.beq len 1 && decide (ins = .dup2)) = true) (C : fh_Cx Λ Γ d M) (hQ : fh_End Λ Γ M.2.2.2 Q) (hM : fg_mt[i]? = some M) (hd : decode M.2.1 pc = .ok (ins, len)) : fh_Wt l Λ Γ M.2.2.1 pc L st σ := by
  simp only [Bool.and_eq_true, decide_eq_true_eq] at hc
  obtain ⟨e1, rfl⟩ := hc
  cases Nat.eq_of_beq_eq_true e1
  split at g
  · exact fh_o_dup2 C hd (g M hM Γ C hQ)
  · exact g.elim
theorem fh_d22 {i len a b w : Nat} {v : Int32} {ins : Instr} {Q : Int32 → fg_St → Prop} (g : (fh_S l Λ) d i a L st σ Q) (hc : ((match ins with
    | .goto off => Nat.beq len 3 && decide ((pc : Int) + off = (a : Int))
    | _ => false)) = true) (C : fh_Cx Λ Γ d M) (hQ : fh_End Λ Γ M.2.2.2 Q) (hM : fg_mt[i]? = some M) (hd : decode M.2.1 pc = .ok (ins, len)) : fh_Wt l Λ Γ M.2.2.1 pc L st σ := by
  split at hc
  · simp only [Bool.and_eq_true, decide_eq_true_eq] at hc
    obtain ⟨e1, e2⟩ := hc
    cases Nat.eq_of_beq_eq_true e1
    exact fh_o_goto C hd e2 (g M hM Γ C hQ)
  · cases hc
theorem fh_d23 {i len a b w : Nat} {v : Int32} {ins : Instr} {Q : Int32 → fg_St → Prop} (g : (match st with
    | .int x :: r => (fh_cnd b x 0 → (fh_S l Λ) d i a L r σ Q) ∧ (¬ fh_cnd b x 0 → (fh_S l Λ) d i (pc + len) L r σ Q)
    | _ => False)) (hc : ((match ins with
    | .ifCond o off => Nat.beq len 3 && (Nat.beq (fg_cq o) b && decide ((pc : Int) + off = (a : Int)))
    | _ => false)) = true) (C : fh_Cx Λ Γ d M) (hQ : fh_End Λ Γ M.2.2.2 Q) (hM : fg_mt[i]? = some M) (hd : decode M.2.1 pc = .ok (ins, len)) : fh_Wt l Λ Γ M.2.2.1 pc L st σ := by
  split at hc
  · simp only [Bool.and_eq_true, decide_eq_true_eq] at hc
    obtain ⟨e1, e2, e3⟩ := hc
    cases Nat.eq_of_beq_eq_true e1
    rename_i o off
    have e2 := Nat.eq_of_beq_eq_true e2
    subst e2
    split at g
    · cases o
      · exact fh_o_if_eq C hd e3 (fun q => g.1 q M hM Γ C hQ) (fun q => g.2 q M hM Γ C hQ)
      · exact fh_o_if_ne C hd e3 (fun q => g.1 q M hM Γ C hQ) (fun q => g.2 q M hM Γ C hQ)
      · exact fh_o_if_lt C hd e3 (fun q => g.1 q M hM Γ C hQ) (fun q => g.2 q M hM Γ C hQ)
      · exact fh_o_if_ge C hd e3 (fun q => g.1 q M hM Γ C hQ) (fun q => g.2 q M hM Γ C hQ)
      · exact fh_o_if_gt C hd e3 (fun q => g.1 q M hM Γ C hQ) (fun q => g.2 q M hM Γ C hQ)
      · exact fh_o_if_le C hd e3 (fun q => g.1 q M hM Γ C hQ) (fun q => g.2 q M hM Γ C hQ)
    · exact g.elim
  · cases hc
theorem fh_d24 {i len a b w : Nat} {v : Int32} {ins : Instr} {Q : Int32 → fg_St → Prop} (g : (match st with
    | .int y :: .int x :: r => (fh_cnd b x y → (fh_S l Λ) d i a L r σ Q) ∧ (¬ fh_cnd b x y → (fh_S l Λ) d i (pc + len) L r σ Q)
    | _ => False)) (hc : ((match ins with
    | .if_icmp o off => Nat.beq len 3 && (Nat.beq (fg_cq o) b && decide ((pc : Int) + off = (a : Int)))
    | _ => false)) = true) (C : fh_Cx Λ Γ d M) (hQ : fh_End Λ Γ M.2.2.2 Q) (hM : fg_mt[i]? = some M) (hd : decode M.2.1 pc = .ok (ins, len)) : fh_Wt l Λ Γ M.2.2.1 pc L st σ := by
  split at hc
  · simp only [Bool.and_eq_true, decide_eq_true_eq] at hc
    obtain ⟨e1, e2, e3⟩ := hc
    cases Nat.eq_of_beq_eq_true e1
    rename_i o off
    have e2 := Nat.eq_of_beq_eq_true e2
    subst e2
    split at g
    · cases o
      · exact fh_o_icmp_eq C hd e3 (fun q => g.1 q M hM Γ C hQ) (fun q => g.2 q M hM Γ C hQ)
      · exact fh_o_icmp_ne C hd e3 (fun q => g.1 q M hM Γ C hQ) (fun q => g.2 q M hM Γ C hQ)
      · exact fh_o_icmp_lt C hd e3 (fun q => g.1 q M hM Γ C hQ) (fun q => g.2 q M hM Γ C hQ)
      · exact fh_o_icmp_ge C hd e3 (fun q => g.1 q M hM Γ C hQ) (fun q => g.2 q M hM Γ C hQ)
      · exact fh_o_icmp_gt C hd e3 (fun q => g.1 q M hM Γ C hQ) (fun q => g.2 q M hM Γ C hQ)
      · exact fh_o_icmp_le C hd e3 (fun q => g.1 q M hM Γ C hQ) (fun q => g.2 q M hM Γ C hQ)
    · exact g.elim
  · cases hc
theorem fh_d25 {i len a b w : Nat} {v : Int32} {ins : Instr} {Q : Int32 → fg_St → Prop} (g : (match st with
    | .int x :: r => (match fg_swt[a]? with
      | some q => fh_sw x (fun t => (fh_S l Λ) d i t L r σ Q) q.2 0 q.1
      | none => False)
    | _ => False)) (hc : ((match ins with
    | .tableswitch df lo hi offs => (match fg_swt[a]? with
      | some q => decide (lo = 0) && (decide (hi = (q.1.length : Int) - 1) && (Nat.ble q.1.length 1000 && (decide ((pc : Int) + df = (q.2 : Int)) && decide (offs.toList.map (fun o => (pc : Int) + o) = q.1.map (fun t : Nat => (t : Int))))))
      | none => false)
    | _ => false)) = true) (C : fh_Cx Λ Γ d M) (hQ : fh_End Λ Γ M.2.2.2 Q) (hM : fg_mt[i]? = some M) (hd : decode M.2.1 pc = .ok (ins, len)) : fh_Wt l Λ Γ M.2.2.1 pc L st σ := by
  split at hc
  · split at hc
    · rename_i q hq
      simp only [Bool.and_eq_true, decide_eq_true_eq] at hc
      obtain ⟨e1, e2, e3, e4, e5⟩ := hc
      split at g
      · rw [hq] at g
        exact fh_o_switch C hd e1 e2 (Nat.le_of_ble_eq_true e3) e4 e5 (fh_sw_mono (fun t z => z M hM Γ C hQ) _ _ g)
      · exact g.elim
    · cases hc
  · cases hc
theorem fh_d26 {i len a b w : Nat} {v : Int32} {ins : Instr} {Q : Int32 → fg_St → Prop} (g : (match st with
    | .ref h :: r => fh_kd h = a ∧ (fh_S l Λ) d i (pc + len) L (.int (fg_F σ h b) :: r) σ Q
    | _ => False)) (hc : ((match ins with
    | .getfield x => Nat.beq len 3 && (fg_fk M.1.cls x a b w && !(fh_rf a b))
    | _ => false)) = true) (C : fh_Cx Λ Γ d M) (hQ : fh_End Λ Γ M.2.2.2 Q) (hM : fg_mt[i]? = some M) (hd : decode M.2.1 pc = .ok (ins, len)) : fh_Wt l Λ Γ M.2.2.1 pc L st σ := by
  split at hc
  · simp only [Bool.and_eq_true, Bool.not_eq_true'] at hc
    obtain ⟨e1, e2, e3⟩ := hc
    cases Nat.eq_of_beq_eq_true e1
    obtain ⟨q, hq, hbq, hw⟩ := fh_fk_sp e2
    split at g
    · exact fh_o_get C hd hq hbq hw g.1 (by unfold fh_fv; rw [e3]; rfl) (g.2 M hM Γ C hQ)
    · exact g.elim
  · cases hc
theorem fh_d27 {i len a b w : Nat} {v : Int32} {ins : Instr} {Q : Int32 → fg_St → Prop} (g : (match st with
    | .ref h :: r => fh_kd h = a ∧ (fh_S l Λ) d i (pc + len) L (.ref (fh_pt σ h b) :: r) σ Q
    | _ => False)) (hc : ((match ins with
    | .getfield x => Nat.beq len 3 && (fg_fk M.1.cls x a b w && fh_rf a b)
    | _ => false)) = true) (C : fh_Cx Λ Γ d M) (hQ : fh_End Λ Γ M.2.2.2 Q) (hM : fg_mt[i]? = some M) (hd : decode M.2.1 pc = .ok (ins, len)) : fh_Wt l Λ Γ M.2.2.1 pc L st σ := by
  split at hc
  · simp only [Bool.and_eq_true] at hc
    obtain ⟨e1, e2, e3⟩ := hc
    cases Nat.eq_of_beq_eq_true e1
    obtain ⟨q, hq, hbq, hw⟩ := fh_fk_sp e2
    split at g
    · exact fh_o_get C hd hq hbq hw g.1 (by unfold fh_fv; rw [e3]; rfl) (g.2 M hM Γ C hQ)
    · exact g.elim
  · cases hc
theorem fh_d28 {i len a b w : Nat} {v : Int32} {ins : Instr} {Q : Int32 → fg_St → Prop} (g : (match st with
    | .int x :: .ref h :: r => fh_kd h = a ∧ (fh_S l Λ) d i (pc + len) L r (fg_sF σ h b x) Q
    | _ => False)) (hc : ((match ins with
    | .putfield x => Nat.beq len 3 && (fg_fk M.1.cls x a b w && (!(fh_rf a b) && fg_fp a b .int))
    | _ => false)) = true) (C : fh_Cx Λ Γ d M) (hQ : fh_End Λ Γ M.2.2.2 Q) (hM : fg_mt[i]? = some M) (hd : decode M.2.1 pc = .ok (ins, len)) : fh_Wt l Λ Γ M.2.2.1 pc L st σ := by
  split at hc
  · simp only [Bool.and_eq_true, Bool.not_eq_true'] at hc
    obtain ⟨e1, e2, e3, e4⟩ := hc
    cases Nat.eq_of_beq_eq_true e1
    obtain ⟨q, hq, hbq, hw⟩ := fh_fk_sp e2
    obtain ⟨f1, f2⟩ := fh_fp_sp hq e4
    split at g
    · exact fh_o_put C hd hq hbq hw g.1 f1 f2 rfl rfl (fh_cell_sF g.1 (fh_clok _ _ hq).1 e3).symm (fun z _ hz => fh_cell_sFo z hz) (g.2 M hM Γ C hQ)
    · exact g.elim
  · cases hc
theorem fh_d29 {i len a b w : Nat} {v : Int32} {ins : Instr} {Q : Int32 → fg_St → Prop} (g : (match st with
    | .int x :: .ref h :: r => fh_kd h = a ∧ (x = 0 ∨ x = 1) ∧ (fh_S l Λ) d i (pc + len) L r (fg_sF σ h b x) Q
    | _ => False)) (hc : ((match ins with
    | .putfield x => Nat.beq len 3 && (fg_fk M.1.cls x a b w && (!(fh_rf a b) && fg_fp a b .boolean))
    | _ => false)) = true) (C : fh_Cx Λ Γ d M) (hQ : fh_End Λ Γ M.2.2.2 Q) (hM : fg_mt[i]? = some M) (hd : decode M.2.1 pc = .ok (ins, len)) : fh_Wt l Λ Γ M.2.2.1 pc L st σ := by
  split at hc
  · simp only [Bool.and_eq_true, Bool.not_eq_true'] at hc
    obtain ⟨e1, e2, e3, e4⟩ := hc
    cases Nat.eq_of_beq_eq_true e1
    obtain ⟨q, hq, hbq, hw⟩ := fh_fk_sp e2
    obtain ⟨f1, f2⟩ := fh_fp_sp hq e4
    split at g
    · exact fh_o_put C hd hq hbq hw g.1 f1 f2 (by rcases g.2.1 with rfl | rfl <;> rfl) (by rcases g.2.1 with rfl | rfl <;> rfl) (fh_cell_sF g.1 (fh_clok _ _ hq).1 e3).symm (fun z _ hz => fh_cell_sFo z hz) (g.2.2 M hM Γ C hQ)
    · exact g.elim
  · cases hc
theorem fh_d30 {i len a b w : Nat} {v : Int32} {ins : Instr} {Q : Int32 → fg_St → Prop} (g : (match st with
    | .ref y :: .ref h :: r => h = 0 ∧ (match b with
      | 1 => (fh_S l Λ) d i (pc + len) L r (y, σ.2.1, σ.2.2) Q
      | 2 => (fh_S l Λ) d i (pc + len) L r (σ.1, y, σ.2.2) Q
      | _ => False)
    | _ => False)) (hc : ((match ins with
    | .putfield x => Nat.beq len 3 && (fg_fk M.1.cls x a b w && (Nat.beq a 9 && ((Nat.beq b 1 || Nat.beq b 2) && fg_fp a b (.object "FlagSignals$Ship"))))
    | _ => false)) = true) (C : fh_Cx Λ Γ d M) (hQ : fh_End Λ Γ M.2.2.2 Q) (hM : fg_mt[i]? = some M) (hd : decode M.2.1 pc = .ok (ins, len)) : fh_Wt l Λ Γ M.2.2.1 pc L st σ := by
  split at hc
  · simp only [Bool.and_eq_true, Bool.or_eq_true] at hc
    obtain ⟨e1, e2, e3, e4, e5⟩ := hc
    cases Nat.eq_of_beq_eq_true e1
    obtain ⟨q, hq, hbq, hw⟩ := fh_fk_sp e2
    obtain ⟨f1, f2⟩ := fh_fp_sp hq e5
    have e3 := Nat.eq_of_beq_eq_true e3
    subst e3
    split at g
    · obtain ⟨rfl, g⟩ := g
      rcases e4 with e4 | e4
      · cases Nat.eq_of_beq_eq_true e4
        exact fh_o_put C hd hq hbq hw rfl f1 f2 rfl rfl (fh_cell_s1 _ _ _).symm (fun z hl hz => fh_cell_spo _ _ z hl hz) (g M hM Γ C hQ)
      · cases Nat.eq_of_beq_eq_true e4
        exact fh_o_put C hd hq hbq hw rfl f1 f2 rfl rfl (fh_cell_s2 _ _ _).symm (fun z hl hz => fh_cell_spo _ _ z hl hz) (g M hM Γ C hQ)
    · exact g.elim
  · cases hc
theorem fh_d31 {i len a b w : Nat} {v : Int32} {ins : Instr} {Q : Int32 → fg_St → Prop} (g : (match st with
    | .int j :: .ref h :: r => fh_kd h = 11 ∧ vp_in j (fg_ln h) ∧ (fh_S l Λ) d i (pc + len) L (.int (fg_R σ h j.toNatClampNeg) :: r) σ Q
    | _ => False)) (hc : (Nat.beq len 1 && decide (ins = .iaload)) = true) (C : fh_Cx Λ Γ d M) (hQ : fh_End Λ Γ M.2.2.2 Q) (hM : fg_mt[i]? = some M) (hd : decode M.2.1 pc = .ok (ins, len)) : fh_Wt l Λ Γ M.2.2.1 pc L st σ := by
  simp only [Bool.and_eq_true, decide_eq_true_eq] at hc
  obtain ⟨e1, rfl⟩ := hc
  cases Nat.eq_of_beq_eq_true e1
  split at g
  · exact fh_o_iald C hd g.1 g.2.1 (g.2.2 M hM Γ C hQ)
  · exact g.elim
theorem fh_d32 {i len a b w : Nat} {v : Int32} {ins : Instr} {Q : Int32 → fg_St → Prop} (g : (match st with
    | .int x :: .int j :: .ref h :: r => fh_kd h = 11 ∧ vp_in j (fg_ln h) ∧ (fh_S l Λ) d i (pc + len) L r (fg_sR σ h j.toNatClampNeg x) Q
    | _ => False)) (hc : (Nat.beq len 1 && decide (ins = .iastore)) = true) (C : fh_Cx Λ Γ d M) (hQ : fh_End Λ Γ M.2.2.2 Q) (hM : fg_mt[i]? = some M) (hd : decode M.2.1 pc = .ok (ins, len)) : fh_Wt l Λ Γ M.2.2.1 pc L st σ := by
  simp only [Bool.and_eq_true, decide_eq_true_eq] at hc
  obtain ⟨e1, rfl⟩ := hc
  cases Nat.eq_of_beq_eq_true e1
  split at g
  · exact fh_o_iast C hd g.1 g.2.1 (g.2.2 M hM Γ C hQ)
  · exact g.elim
theorem fh_d33 {i len a b w : Nat} {v : Int32} {ins : Instr} {Q : Int32 → fg_St → Prop} (g : (match st with
    | .int j :: .ref h :: r => fh_kd h = 12 ∧ vp_in j (fg_ln h) ∧ (fh_S l Λ) d i (pc + len) L (.int (fg_R σ h j.toNatClampNeg) :: r) σ Q
    | _ => False)) (hc : (Nat.beq len 1 && decide (ins = .baload)) = true) (C : fh_Cx Λ Γ d M) (hQ : fh_End Λ Γ M.2.2.2 Q) (hM : fg_mt[i]? = some M) (hd : decode M.2.1 pc = .ok (ins, len)) : fh_Wt l Λ Γ M.2.2.1 pc L st σ := by
  simp only [Bool.and_eq_true, decide_eq_true_eq] at hc
  obtain ⟨e1, rfl⟩ := hc
  cases Nat.eq_of_beq_eq_true e1
  split at g
  · exact fh_o_zald C hd g.1 g.2.1 (g.2.2 M hM Γ C hQ)
  · exact g.elim
theorem fh_d34 {i len a b w : Nat} {v : Int32} {ins : Instr} {Q : Int32 → fg_St → Prop} (g : (match st with
    | .int x :: .int j :: .ref h :: r => fh_kd h = 12 ∧ vp_in j (fg_ln h) ∧ (x = 0 ∨ x = 1) ∧ (fh_S l Λ) d i (pc + len) L r (fg_sR σ h j.toNatClampNeg x) Q
    | _ => False)) (hc : (Nat.beq len 1 && decide (ins = .bastore)) = true) (C : fh_Cx Λ Γ d M) (hQ : fh_End Λ Γ M.2.2.2 Q) (hM : fg_mt[i]? = some M) (hd : decode M.2.1 pc = .ok (ins, len)) : fh_Wt l Λ Γ M.2.2.1 pc L st σ := by
  simp only [Bool.and_eq_true, decide_eq_true_eq] at hc
  obtain ⟨e1, rfl⟩ := hc
  cases Nat.eq_of_beq_eq_true e1
  split at g
  · exact fh_o_zast C hd g.1 g.2.1 g.2.2.1 (g.2.2.2 M hM Γ C hQ)
  · exact g.elim
theorem fh_d35 {i len a b w : Nat} {v : Int32} {ins : Instr} {Q : Int32 → fg_St → Prop} (g : (match st with
    | .int j :: .ref h :: r => (fh_kd h = 13 ∨ fh_kd h = 14) ∧ vp_in j (fg_ln h) ∧ (fh_S l Λ) d i (pc + len) L (.ref (fh_ra h j.toNatClampNeg) :: r) σ Q
    | _ => False)) (hc : (Nat.beq len 1 && decide (ins = .aaload)) = true) (C : fh_Cx Λ Γ d M) (hQ : fh_End Λ Γ M.2.2.2 Q) (hM : fg_mt[i]? = some M) (hd : decode M.2.1 pc = .ok (ins, len)) : fh_Wt l Λ Γ M.2.2.1 pc L st σ := by
  simp only [Bool.and_eq_true, decide_eq_true_eq] at hc
  obtain ⟨e1, rfl⟩ := hc
  cases Nat.eq_of_beq_eq_true e1
  split at g
  · exact fh_o_aald C hd g.1 g.2.1 (g.2.2 M hM Γ C hQ)
  · exact g.elim
theorem fh_d36 {i len a b w : Nat} {v : Int32} {ins : Instr} {Q : Int32 → fg_St → Prop} (g : (match st with
    | .ref h :: r => (11 ≤ fh_kd h ∧ fh_kd h ≤ 14) ∧ (fh_S l Λ) d i (pc + len) L (.int (Int32.ofNat (fg_ln h)) :: r) σ Q
    | _ => False)) (hc : (Nat.beq len 1 && decide (ins = .arraylength)) = true) (C : fh_Cx Λ Γ d M) (hQ : fh_End Λ Γ M.2.2.2 Q) (hM : fg_mt[i]? = some M) (hd : decode M.2.1 pc = .ok (ins, len)) : fh_Wt l Λ Γ M.2.2.1 pc L st σ := by
  simp only [Bool.and_eq_true, decide_eq_true_eq] at hc
  obtain ⟨e1, rfl⟩ := hc
  cases Nat.eq_of_beq_eq_true e1
  split at g
  · exact fh_o_alen C hd g.1 (g.2 M hM Γ C hQ)
  · exact g.elim
theorem fh_d37 {i len a b w : Nat} {v : Int32} {ins : Instr} {Q : Int32 → fg_St → Prop} (g : (match fh_pop b [] st with
    | some (As, .ref h :: r) => (fg_mt[a]?.map fun m => m.1.cls) = (vwCl[fh_kd h]?.map fun q => q.1) ∧ fh_call (fh_S l Λ) d a (.ref h :: As) r σ (fun d x u => (fh_S l Λ) d i (pc + len) L (.int x :: r) u Q)
    | _ => False)) (hc : ((match ins with
    | .invokevirtual x => Nat.beq len 3 && (fg_ckc M.1.cls x a b w false && !(fg_sta.getD a false))
    | _ => false)) = true) (C : fh_Cx Λ Γ d M) (hQ : fh_End Λ Γ M.2.2.2 Q) (hM : fg_mt[i]? = some M) (hd : decode M.2.1 pc = .ok (ins, len)) : fh_Wt l Λ Γ M.2.2.1 pc L st σ := by
  split at hc
  · simp only [Bool.and_eq_true, Bool.not_eq_true'] at hc
    obtain ⟨e1, e2, e3⟩ := hc
    cases Nat.eq_of_beq_eq_true e1
    obtain ⟨N, hj, hw, hnp, hri⟩ := fh_ckc_sp e2
    split at g
    · rename_i As h r hp
      obtain ⟨hcl, g⟩ := g
      rw [hj] at hcl
      cases hq : vwCl[fh_kd h]? with
      | none => rw [hq] at hcl; cases hcl
      | some q =>
        rw [hq] at hcl
        have hcl : N.1.cls = q.1 := Option.some.inj hcl
        obtain ⟨d2, P, rfl, hcat, hlen, hs, k⟩ := fh_call_sp hj g
        exact fh_o_callVi C hd hj e3 hw hnp (hri.2 rfl) hp hq hcl hcat hlen hs (fun y u hy => k y u hy M hM Γ C hQ)
    · exact g.elim
  · cases hc
theorem fh_d38 {i len a b w : Nat} {v : Int32} {ins : Instr} {Q : Int32 → fg_St → Prop} (g : (match fh_pop b [] st with
    | some (As, .ref h :: r) => (fg_mt[a]?.map fun m => m.1.cls) = (vwCl[fh_kd h]?.map fun q => q.1) ∧ fh_call (fh_S l Λ) d a (.ref h :: As) r σ (fun d _ u => (fh_S l Λ) d i (pc + len) L r u Q)
    | _ => False)) (hc : ((match ins with
    | .invokevirtual x => Nat.beq len 3 && (fg_ckc M.1.cls x a b w true && !(fg_sta.getD a false))
    | _ => false)) = true) (C : fh_Cx Λ Γ d M) (hQ : fh_End Λ Γ M.2.2.2 Q) (hM : fg_mt[i]? = some M) (hd : decode M.2.1 pc = .ok (ins, len)) : fh_Wt l Λ Γ M.2.2.1 pc L st σ := by
  split at hc
  · simp only [Bool.and_eq_true, Bool.not_eq_true'] at hc
    obtain ⟨e1, e2, e3⟩ := hc
    cases Nat.eq_of_beq_eq_true e1
    obtain ⟨N, hj, hw, hnp, hri⟩ := fh_ckc_sp e2
    split at g
    · rename_i As h r hp
      obtain ⟨hcl, g⟩ := g
      rw [hj] at hcl
      cases hq : vwCl[fh_kd h]? with
      | none => rw [hq] at hcl; cases hcl
      | some q =>
        rw [hq] at hcl
        have hcl : N.1.cls = q.1 := Option.some.inj hcl
        obtain ⟨d2, P, rfl, hcat, hlen, hs, k⟩ := fh_call_sp hj g
        exact fh_o_callVv C hd hj e3 hw hnp (hri.1 rfl) hp hq hcl hcat hlen hs (fun y u hy => k y u hy M hM Γ C hQ)
    · exact g.elim
  · cases hc
theorem fh_d39 {i len a b w : Nat} {v : Int32} {ins : Instr} {Q : Int32 → fg_St → Prop} (g : (match fh_pop b [] st with
    | some (As, r) => fh_call (fh_S l Λ) d a As r σ (fun d x u => (fh_S l Λ) d i (pc + len) L (.int x :: r) u Q)
    | _ => False)) (hc : ((match ins with
    | .invokestatic x => Nat.beq len 3 && (fg_ckc M.1.cls x a b w false && fg_sta.getD a false)
    | _ => false)) = true) (C : fh_Cx Λ Γ d M) (hQ : fh_End Λ Γ M.2.2.2 Q) (hM : fg_mt[i]? = some M) (hd : decode M.2.1 pc = .ok (ins, len)) : fh_Wt l Λ Γ M.2.2.1 pc L st σ := by
  split at hc
  · simp only [Bool.and_eq_true] at hc
    obtain ⟨e1, e2, e3⟩ := hc
    cases Nat.eq_of_beq_eq_true e1
    obtain ⟨N, hj, hw, hnp, hri⟩ := fh_ckc_sp e2
    split at g
    · rename_i As r hp
      obtain ⟨d2, P, rfl, hcat, hlen, hs, k⟩ := fh_call_sp hj g
      exact fh_o_callSi C hd hj e3 hw hnp (hri.2 rfl) hp hcat hlen hs (fun y u hy => k y u hy M hM Γ C hQ)
    · exact g.elim
  · cases hc
theorem fh_d40 {i len a b w : Nat} {v : Int32} {ins : Instr} {Q : Int32 → fg_St → Prop} (g : (match fh_pop b [] st with
    | some (As, r) => fh_call (fh_S l Λ) d a As r σ (fun d _ u => (fh_S l Λ) d i (pc + len) L r u Q)
    | _ => False)) (hc : ((match ins with
    | .invokestatic x => Nat.beq len 3 && (fg_ckc M.1.cls x a b w true && fg_sta.getD a false)
    | _ => false)) = true) (C : fh_Cx Λ Γ d M) (hQ : fh_End Λ Γ M.2.2.2 Q) (hM : fg_mt[i]? = some M) (hd : decode M.2.1 pc = .ok (ins, len)) : fh_Wt l Λ Γ M.2.2.1 pc L st σ := by
  split at hc
  · simp only [Bool.and_eq_true] at hc
    obtain ⟨e1, e2, e3⟩ := hc
    cases Nat.eq_of_beq_eq_true e1
    obtain ⟨N, hj, hw, hnp, hri⟩ := fh_ckc_sp e2
    split at g
    · rename_i As r hp
      obtain ⟨d2, P, rfl, hcat, hlen, hs, k⟩ := fh_call_sp hj g
      exact fh_o_callSv C hd hj e3 hw hnp (hri.1 rfl) hp hcat hlen hs (fun y u hy => k y u hy M hM Γ C hQ)
    · exact g.elim
  · cases hc
theorem fh_d41 {i len a b w : Nat} {v : Int32} {ins : Instr} {Q : Int32 → fg_St → Prop} (g : (match fh_pop b [] st with
    | some (As, r) => fh_call (fh_S l Λ) d a As r σ (fun d x u => (fh_S l Λ) d i (pc + len) L (.int x :: r) u Q)
    | _ => False)) (hc : ((match ins with
    | .invokestatic x => Nat.beq len 3 && ((match fg_mt[a]? with
      | some y => decide (fg_nest[w]? = some (.methodLinkNest M.1.cls x y.1 "FlagSignals")) && (fg_np y.1.desc b && fg_ri y.2.2.2)
      | none => false) && fg_sta.getD a false)
    | _ => false)) = true) (C : fh_Cx Λ Γ d M) (hQ : fh_End Λ Γ M.2.2.2 Q) (hM : fg_mt[i]? = some M) (hd : decode M.2.1 pc = .ok (ins, len)) : fh_Wt l Λ Γ M.2.2.1 pc L st σ := by
  split at hc
  · simp only [Bool.and_eq_true] at hc
    obtain ⟨e1, e2, e3⟩ := hc
    cases Nat.eq_of_beq_eq_true e1
    split at e2
    · rename_i N hj
      simp only [Bool.and_eq_true, decide_eq_true_eq] at e2
      obtain ⟨hw, hnp, hri⟩ := e2
      split at g
      · rename_i As r hp
        obtain ⟨d2, P, rfl, hcat, hlen, hs, k⟩ := fh_call_sp hj g
        exact fh_o_callNi C hd hj e3 (List.mem_of_getElem? hw) (of_decide_eq_true hnp) hri hp hcat hlen hs (fun y u hy => k y u hy M hM Γ C hQ)
      · exact g.elim
    · cases e2
  · cases hc
theorem fh_d42 {i len a b w : Nat} {v : Int32} {ins : Instr} {Q : Int32 → fg_St → Prop} (g : (match st with
    | .int n :: .int dp :: .ref t :: .int sp :: .ref h :: [] => (match d with
      | 0 => False
      | d' + 1 => fh_kd h = 11 ∧ fh_kd t = 11 ∧ (¬ sp < 0 ∧ ¬ dp < 0 ∧ ¬ n < 0) ∧ sp.toNatClampNeg + n.toNatClampNeg ≤ fg_ln h ∧ dp.toNatClampNeg + n.toNatClampNeg ≤ fg_ln t ∧ (fh_S l Λ) (d' + 1) i (pc + len) L [] (σ.1, σ.2.1, σ.2.2.1, va_up σ.2.2.2 t (va_cpy (σ.2.2.2 h) (σ.2.2.2 t) sp.toNatClampNeg dp.toNatClampNeg n.toNatClampNeg)) Q)
    | _ => False)) (hc : ((match ins with
    | .invokestatic x => Nat.beq len 3 && fg_w w (.methodLink M.1.cls x arraycopyName)
    | _ => false)) = true) (C : fh_Cx Λ Γ d M) (hQ : fh_End Λ Γ M.2.2.2 Q) (hM : fg_mt[i]? = some M) (hd : decode M.2.1 pc = .ok (ins, len)) : fh_Wt l Λ Γ M.2.2.1 pc L st σ := by
  split at hc
  · simp only [Bool.and_eq_true] at hc
    obtain ⟨e1, e2⟩ := hc
    cases Nat.eq_of_beq_eq_true e1
    split at g
    · cases d with
      | zero => exact g.elim
      | succ d2 => exact fh_o_acp C hd (fh_w_in e2 rfl) (by omega) g.1 g.2.1 g.2.2.1 g.2.2.2.1 g.2.2.2.2.1 (g.2.2.2.2.2 M hM Γ C hQ)
    · exact g.elim
  · cases hc
theorem fh_d43 {i len a b w : Nat} {v : Int32} {ins : Instr} {Q : Int32 → fg_St → Prop} (g : (match st with
    | [.int x] => Q x σ
    | _ => False)) (hc : (Nat.beq len 1 && (decide (ins = .ireturn) && decide (M.2.2.2 = some .int))) = true) (C : fh_Cx Λ Γ d M) (hQ : fh_End Λ Γ M.2.2.2 Q) (hM : fg_mt[i]? = some M) (hd : decode M.2.1 pc = .ok (ins, len)) : fh_Wt l Λ Γ M.2.2.1 pc L st σ := by
  simp only [Bool.and_eq_true, decide_eq_true_eq] at hc
  obtain ⟨e1, rfl, e3⟩ := hc
  cases Nat.eq_of_beq_eq_true e1
  split at g
  · obtain ⟨p, e, R, s, m, args, below, meth, c, Qc⟩ := Γ
    obtain ⟨hx, hb, hml, hr, hlk, hown, hts, hE, hf, hlo, hin⟩ := C
    intro H locs ls hP hS hl
    exact W.iret hx hb (hr.trans e3) (fun t ht _ => by have := hQ _ _ g t (by rw [ht]; exact hP) (hS.F ht); rw [e3] at this; exact this) hS.2.2 hd hlk
  · exact g.elim
theorem fh_d44 {i len a b w : Nat} {v : Int32} {ins : Instr} {Q : Int32 → fg_St → Prop} (g : (match st with
    | [.int x] => (x = 0 ∨ x = 1) ∧ Q x σ
    | _ => False)) (hc : (Nat.beq len 1 && (decide (ins = .ireturn) && decide (M.2.2.2 = some .boolean))) = true) (C : fh_Cx Λ Γ d M) (hQ : fh_End Λ Γ M.2.2.2 Q) (hM : fg_mt[i]? = some M) (hd : decode M.2.1 pc = .ok (ins, len)) : fh_Wt l Λ Γ M.2.2.1 pc L st σ := by
  simp only [Bool.and_eq_true, decide_eq_true_eq] at hc
  obtain ⟨e1, rfl, e3⟩ := hc
  cases Nat.eq_of_beq_eq_true e1
  split at g
  · obtain ⟨p, e, R, s, m, args, below, meth, c, Qc⟩ := Γ
    obtain ⟨hx, hb, hml, hr, hlk, hown, hts, hE, hf, hlo, hin⟩ := C
    intro H locs ls hP hS hl
    exact W.zret (ty := .boolean) hx hb (hr.trans e3) (by rcases g.1 with rfl | rfl <;> decide) (fun t ht _ => by have := hQ _ _ g.2 t (by rw [ht]; exact hP) (hS.F ht); rw [e3] at this; exact this) hS.2.2 hd hlk
  · exact g.elim
theorem fh_d45 {i len a b w : Nat} {v : Int32} {ins : Instr} {Q : Int32 → fg_St → Prop} (g : (match st with
    | [] => Q 0 σ
    | _ => False)) (hc : (Nat.beq len 1 && (decide (ins = .return_) && decide (M.2.2.2 = none))) = true) (C : fh_Cx Λ Γ d M) (hQ : fh_End Λ Γ M.2.2.2 Q) (hM : fg_mt[i]? = some M) (hd : decode M.2.1 pc = .ok (ins, len)) : fh_Wt l Λ Γ M.2.2.1 pc L st σ := by
  simp only [Bool.and_eq_true, decide_eq_true_eq] at hc
  obtain ⟨e1, rfl, e3⟩ := hc
  cases Nat.eq_of_beq_eq_true e1
  split at g
  · obtain ⟨p, e, R, s, m, args, below, meth, c, Qc⟩ := Γ
    obtain ⟨hx, hb, hml, hr, hlk, hown, hts, hE, hf, hlo, hin⟩ := C
    intro H locs ls hP hS hl
    exact W.vret hx hb (hr.trans e3) (fun t ht _ => by have := hQ _ _ g t (by rw [ht]; exact hP) (hS.F ht); rw [e3] at this; exact this) hS.2.2 hd hlk
  · exact g.elim
theorem fh_d46 {i len a b w : Nat} {v : Int32} {ins : Instr} {Q : Int32 → fg_St → Prop} (g : (match st with
    | .int y :: .int x :: r => fh_m1 d r ((fh_S l Λ) d i (pc + len) L (.int (if y < x then y else x) :: r) σ Q)
    | _ => False)) (hc : ((match ins with
    | .invokestatic x => Nat.beq len 3 && fg_w w (.methodLink M.1.cls x Lib.Math.min.name)
    | _ => false)) = true) (C : fh_Cx Λ Γ d M) (hQ : fh_End Λ Γ M.2.2.2 Q) (hM : fg_mt[i]? = some M) (hd : decode M.2.1 pc = .ok (ins, len)) : fh_Wt l Λ Γ M.2.2.1 pc L st σ := by
  split at hc
  · simp only [Bool.and_eq_true] at hc
    obtain ⟨e1, e2⟩ := hc
    cases Nat.eq_of_beq_eq_true e1
    split at g
    · obtain ⟨h1, h2, g⟩ := fh_m1_sp g
      exact fh_o_min C hd (fh_w_in e2 rfl) h1 h2 (g M hM Γ C hQ)
    · exact g.elim
  · cases hc
theorem fh_d47 {i len a b w : Nat} {v : Int32} {ins : Instr} {Q : Int32 → fg_St → Prop} (g : (match st with
    | .int y :: .int x :: r => fh_m1 d r ((fh_S l Λ) d i (pc + len) L (.int (if x < y then y else x) :: r) σ Q)
    | _ => False)) (hc : ((match ins with
    | .invokestatic x => Nat.beq len 3 && fg_w w (.methodLink M.1.cls x Lib.Math.max.name)
    | _ => false)) = true) (C : fh_Cx Λ Γ d M) (hQ : fh_End Λ Γ M.2.2.2 Q) (hM : fg_mt[i]? = some M) (hd : decode M.2.1 pc = .ok (ins, len)) : fh_Wt l Λ Γ M.2.2.1 pc L st σ := by
  split at hc
  · simp only [Bool.and_eq_true] at hc
    obtain ⟨e1, e2⟩ := hc
    cases Nat.eq_of_beq_eq_true e1
    split at g
    · obtain ⟨h1, h2, g⟩ := fh_m1_sp g
      exact fh_o_max C hd (fh_w_in e2 rfl) h1 h2 (g M hM Γ C hQ)
    · exact g.elim
  · cases hc
theorem fh_disp {i len a b w op : Nat} {v : Int32} {ins : Instr} {Q : Int32 → fg_St → Prop} (C : fh_Cx Λ Γ d M) (hQ : fh_End Λ Γ M.2.2.2 Q) (hM : fg_mt[i]? = some M) (hd : decode M.2.1 pc = .ok (ins, len)) (hc : fg_cki M.1.cls M.2.2.2 pc len ins op a b v w = true) (g : fh_op (fh_S l Λ) d i (pc + len) a b v L st σ Q op) : fh_Wt l Λ Γ M.2.2.1 pc L st σ := by
  by_cases h0 : op = 0
  · subst h0
    exact fh_d0 (a := a) (b := b) (w := w) (v := v) (g := g) (hc := hc) C hQ hM hd
  by_cases h1 : op = 1
  · subst h1
    exact fh_d1 (a := a) (b := b) (w := w) (v := v) (g := g) (hc := hc) C hQ hM hd
  by_cases h2 : op = 2
  · subst h2
    exact fh_d2 (a := a) (b := b) (w := w) (v := v) (g := g) (hc := hc) C hQ hM hd
  by_cases h3 : op = 3
  · subst h3
    exact fh_d3 (a := a) (b := b) (w := w) (v := v) (g := g) (hc := hc) C hQ hM hd
  by_cases h4 : op = 4
  · subst h4
    exact fh_d4 (a := a) (b := b) (w := w) (v := v) (g := g) (hc := hc) C hQ hM hd
  by_cases h5 : op = 5
  · subst h5
    exact fh_d5 (a := a) (b := b) (w := w) (v := v) (g := g) (hc := hc) C hQ hM hd
  by_cases h6 : op = 6
  · subst h6
    exact fh_d6 (a := a) (b := b) (w := w) (v := v) (g := g) (hc := hc) C hQ hM hd
  by_cases h7 : op = 7
  · subst h7
    exact fh_d7 (a := a) (b := b) (w := w) (v := v) (g := g) (hc := hc) C hQ hM hd
  by_cases h8 : op = 8
  · subst h8
    exact fh_d8 (a := a) (b := b) (w := w) (v := v) (g := g) (hc := hc) C hQ hM hd
  by_cases h9 : op = 9
  · subst h9
    exact fh_d9 (a := a) (b := b) (w := w) (v := v) (g := g) (hc := hc) C hQ hM hd
  by_cases h10 : op = 10
  · subst h10
    exact fh_d10 (a := a) (b := b) (w := w) (v := v) (g := g) (hc := hc) C hQ hM hd
  by_cases h11 : op = 11
  · subst h11
    exact fh_d11 (a := a) (b := b) (w := w) (v := v) (g := g) (hc := hc) C hQ hM hd
  by_cases h12 : op = 12
  · subst h12
    exact fh_d12 (a := a) (b := b) (w := w) (v := v) (g := g) (hc := hc) C hQ hM hd
  by_cases h13 : op = 13
  · subst h13
    exact fh_d13 (a := a) (b := b) (w := w) (v := v) (g := g) (hc := hc) C hQ hM hd
  by_cases h14 : op = 14
  · subst h14
    exact fh_d14 (a := a) (b := b) (w := w) (v := v) (g := g) (hc := hc) C hQ hM hd
  by_cases h15 : op = 15
  · subst h15
    exact fh_d15 (a := a) (b := b) (w := w) (v := v) (g := g) (hc := hc) C hQ hM hd
  by_cases h16 : op = 16
  · subst h16
    exact fh_d16 (a := a) (b := b) (w := w) (v := v) (g := g) (hc := hc) C hQ hM hd
  by_cases h17 : op = 17
  · subst h17
    exact fh_d17 (a := a) (b := b) (w := w) (v := v) (g := g) (hc := hc) C hQ hM hd
  by_cases h18 : op = 18
  · subst h18
    exact fh_d18 (a := a) (b := b) (w := w) (v := v) (g := g) (hc := hc) C hQ hM hd
  by_cases h19 : op = 19
  · subst h19
    exact fh_d19 (a := a) (b := b) (w := w) (v := v) (g := g) (hc := hc) C hQ hM hd
  by_cases h20 : op = 20
  · subst h20
    exact fh_d20 (a := a) (b := b) (w := w) (v := v) (g := g) (hc := hc) C hQ hM hd
  by_cases h21 : op = 21
  · subst h21
    exact fh_d21 (a := a) (b := b) (w := w) (v := v) (g := g) (hc := hc) C hQ hM hd
  by_cases h22 : op = 22
  · subst h22
    exact fh_d22 (a := a) (b := b) (w := w) (v := v) (g := g) (hc := hc) C hQ hM hd
  by_cases h23 : op = 23
  · subst h23
    exact fh_d23 (a := a) (b := b) (w := w) (v := v) (g := g) (hc := hc) C hQ hM hd
  by_cases h24 : op = 24
  · subst h24
    exact fh_d24 (a := a) (b := b) (w := w) (v := v) (g := g) (hc := hc) C hQ hM hd
  by_cases h25 : op = 25
  · subst h25
    exact fh_d25 (a := a) (b := b) (w := w) (v := v) (g := g) (hc := hc) C hQ hM hd
  by_cases h26 : op = 26
  · subst h26
    exact fh_d26 (a := a) (b := b) (w := w) (v := v) (g := g) (hc := hc) C hQ hM hd
  by_cases h27 : op = 27
  · subst h27
    exact fh_d27 (a := a) (b := b) (w := w) (v := v) (g := g) (hc := hc) C hQ hM hd
  by_cases h28 : op = 28
  · subst h28
    exact fh_d28 (a := a) (b := b) (w := w) (v := v) (g := g) (hc := hc) C hQ hM hd
  by_cases h29 : op = 29
  · subst h29
    exact fh_d29 (a := a) (b := b) (w := w) (v := v) (g := g) (hc := hc) C hQ hM hd
  by_cases h30 : op = 30
  · subst h30
    exact fh_d30 (a := a) (b := b) (w := w) (v := v) (g := g) (hc := hc) C hQ hM hd
  by_cases h31 : op = 31
  · subst h31
    exact fh_d31 (a := a) (b := b) (w := w) (v := v) (g := g) (hc := hc) C hQ hM hd
  by_cases h32 : op = 32
  · subst h32
    exact fh_d32 (a := a) (b := b) (w := w) (v := v) (g := g) (hc := hc) C hQ hM hd
  by_cases h33 : op = 33
  · subst h33
    exact fh_d33 (a := a) (b := b) (w := w) (v := v) (g := g) (hc := hc) C hQ hM hd
  by_cases h34 : op = 34
  · subst h34
    exact fh_d34 (a := a) (b := b) (w := w) (v := v) (g := g) (hc := hc) C hQ hM hd
  by_cases h35 : op = 35
  · subst h35
    exact fh_d35 (a := a) (b := b) (w := w) (v := v) (g := g) (hc := hc) C hQ hM hd
  by_cases h36 : op = 36
  · subst h36
    exact fh_d36 (a := a) (b := b) (w := w) (v := v) (g := g) (hc := hc) C hQ hM hd
  by_cases h37 : op = 37
  · subst h37
    exact fh_d37 (a := a) (b := b) (w := w) (v := v) (g := g) (hc := hc) C hQ hM hd
  by_cases h38 : op = 38
  · subst h38
    exact fh_d38 (a := a) (b := b) (w := w) (v := v) (g := g) (hc := hc) C hQ hM hd
  by_cases h39 : op = 39
  · subst h39
    exact fh_d39 (a := a) (b := b) (w := w) (v := v) (g := g) (hc := hc) C hQ hM hd
  by_cases h40 : op = 40
  · subst h40
    exact fh_d40 (a := a) (b := b) (w := w) (v := v) (g := g) (hc := hc) C hQ hM hd
  by_cases h41 : op = 41
  · subst h41
    exact fh_d41 (a := a) (b := b) (w := w) (v := v) (g := g) (hc := hc) C hQ hM hd
  by_cases h42 : op = 42
  · subst h42
    exact fh_d42 (a := a) (b := b) (w := w) (v := v) (g := g) (hc := hc) C hQ hM hd
  by_cases h43 : op = 43
  · subst h43
    exact fh_d43 (a := a) (b := b) (w := w) (v := v) (g := g) (hc := hc) C hQ hM hd
  by_cases h44 : op = 44
  · subst h44
    exact fh_d44 (a := a) (b := b) (w := w) (v := v) (g := g) (hc := hc) C hQ hM hd
  by_cases h45 : op = 45
  · subst h45
    exact fh_d45 (a := a) (b := b) (w := w) (v := v) (g := g) (hc := hc) C hQ hM hd
  by_cases h46 : op = 46
  · subst h46
    exact fh_d46 (a := a) (b := b) (w := w) (v := v) (g := g) (hc := hc) C hQ hM hd
  by_cases h47 : op = 47
  · subst h47
    exact fh_d47 (a := a) (b := b) (w := w) (v := v) (g := g) (hc := hc) C hQ hM hd
  exfalso
  unfold fg_cki at hc
  split at hc <;> first | contradiction | cases hc
theorem fh_look_mem {pc : Nat} {q : Nat × Nat × Nat × Nat × Int32 × Nat} : ∀ c : List fg_I, fh_look c pc = some q → (pc, q) ∈ c := by
  intro c
  induction c with
  | nil => intro h; cases h
  | cons r t ih =>
    intro h
    obtain ⟨z, r⟩ := r
    unfold fh_look at h
    split at h
    · rename_i e
      cases h
      rw [Nat.eq_of_beq_eq_true e]
      exact List.mem_cons_self
    · exact List.mem_cons_of_mem _ (ih h)
theorem fh_step {i : Nat} {Q : Int32 → fg_St → Prop} (g : fh_G (fh_S l Λ) d i pc L st σ Q) : fh_S l Λ d i pc L st σ Q := by
  intro M hM Γ C hQ
  unfold fh_G at g
  split at g
  · exact g.elim
  · rename_i q hq
    have hin := fh_look_mem _ hq
    have hck := fg_cks i (fh_mfacts hM).1
    unfold fg_ckm at hck
    rw [hM] at hck
    have hck := List.all_eq_true.mp hck _ hin
    unfold fg_ckI at hck
    dsimp only at hck
    split at hck
    · rename_i r hr
      simp only [Bool.and_eq_true] at hck
      obtain ⟨h1, h2⟩ := hck
      have h1 := Nat.eq_of_beq_eq_true h1
      rw [h1] at g
      exact fh_disp C hQ hM hr h2 g
    · cases hck
theorem fh_sound {i : Nat} {Q : Int32 → fg_St → Prop} (r : fh_Run d i pc L st σ Q) : fh_S l Λ d i pc L st σ Q := r (fh_S l Λ) (fun _ _ _ _ _ _ _ g => fh_step g)
end

