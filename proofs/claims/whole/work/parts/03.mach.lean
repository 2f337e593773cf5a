/-! THE ABSTRACT MACHINE: the class and the reference over one pool of 209 cells whose places are numbers ('handles'); no method makes a cell -/
/-- a state: the handle of the ship, of the draft, the int fields by handle and slot, the rows by handle and place -/
abbrev fg_St : Type := Nat × Nat × (Nat → Nat → Int32) × (Nat → Nat → Int32)
abbrev fg_F (σ : fg_St) (h k : Nat) : Int32 := σ.2.2.1 h k
abbrev fg_R (σ : fg_St) (h k : Nat) : Int32 := σ.2.2.2 h k
def fg_up (f : Nat → Nat → Int32) (h k : Nat) (x : Int32) : Nat → Nat → Int32 := fun a b => if a = h ∧ b = k then x else f a b
def fg_uf (f : Nat → Nat → Int32) (h k : Nat) (x : Int32) : Nat → Nat → Int32 := fun a b => if b = k ∧ a = h then x else f a b
abbrev fg_sF (σ : fg_St) (h k : Nat) (x : Int32) : fg_St := (σ.1, σ.2.1, fg_uf σ.2.2.1 h k x, σ.2.2.2)
abbrev fg_sR (σ : fg_St) (h k : Nat) (x : Int32) : fg_St := (σ.1, σ.2.1, σ.2.2.1, fg_up σ.2.2.2 h k x)
/-- kinds of the handles: 0 to 10 the classes as vwCl has them, 11 int[], 12 boolean[], 13 Deck[], 14 Image[] -/
def fg_kl : List Nat := [9, 7, 11, 6, 11, 11, 11, 11, 11, 6, 11, 11, 11, 11, 11, 0, 11, 11, 11, 11, 11, 11, 11, 4, 13, 14, 3, 11, 11, 11, 11, 2, 11, 8, 11, 11, 11, 5, 12, 11, 11, 1, 0, 11, 11, 11, 11, 11, 11, 11, 1, 0, 11, 11, 11, 11, 11, 11, 11, 0, 11, 11, 11, 11, 11, 11, 11, 0, 11, 11, 11, 11, 11, 11, 11, 0, 11, 11, 11, 11, 11, 11, 11, 0, 11, 11, 11, 11, 11, 11, 11, 0, 11, 11, 11, 11, 11, 11, 11, 0, 11, 11, 11, 11, 11, 11, 11, 0, 11, 11, 11, 11, 11, 11, 11, 0, 11, 11, 11, 11, 11, 11, 11, 0, 11, 11, 11, 11, 11, 11, 11, 0, 11, 11, 11, 11, 11, 11, 11, 0, 11, 11, 11, 11, 11, 11, 11, 0, 11, 11, 11, 11, 11, 11, 11, 0, 11, 11, 11, 11, 11, 11, 11, 0, 11, 11, 11, 11, 11, 11, 11, 0, 11, 11, 11, 11, 11, 11, 11, 0, 11, 11, 11, 11, 11, 11, 11, 10, 11, 11, 11, 11, 11, 11, 11, 11, 11, 12, 11, 12, 11, 11, 11, 11, 11, 11, 11, 11, 12]
def fg_dl : List Nat := [0, 10, 10, 10, 10, 10, 3, 12]
/-- lengths of the rows -/
def fg_ll : List Nat := [0, 0, 240, 0, 10, 10, 10, 10, 40, 0, 10, 10, 10, 10, 40] ++ fg_dl ++ [0, 16, 2, 0, 8, 8, 15, 15, 0, 4, 0, 40, 10, 10, 0, 1024, 1024, 60, 0] ++ fg_dl ++ [0] ++ fg_dl ++ (fg_dl ++ fg_dl ++ fg_dl ++ fg_dl ++ fg_dl ++ fg_dl ++ fg_dl ++ fg_dl) ++ (fg_dl ++ fg_dl ++ fg_dl ++ fg_dl ++ fg_dl ++ fg_dl ++ fg_dl ++ fg_dl) ++ [0, 10, 10, 40, 61, 240, 10, 10, 40, 4, 10, 40, 1024, 1024, 8, 8, 60, 976, 15, 15, 124, 2]
def fg_kd (h : Nat) : Nat := fg_kl.getD h 99
def fg_ln (h : Nat) : Nat := fg_ll.getD h 0
/-- where the reference's rows lie, by the slot of their field -/
def fg_mp : List Nat := [0, 0, 0, 188, 0, 189, 190, 191, 0, 192, 0, 0, 0, 0, 0, 0, 0, 193, 0, 194, 195, 196, 197, 198, 199, 200, 0, 201, 202, 203, 0, 204, 0, 205, 206, 207, 208]
/-- what a field of a reference's type holds -/
def fg_pt (σ : fg_St) (h k : Nat) : Nat := match fg_kd h with
  | 0 => h + 1 + k
  | 1 => h + 1
  | 2 => h + 1
  | 3 => h + 1 + k
  | 4 => h + 1
  | 5 => h + 1 + k
  | 6 => h + k - 3
  | 7 => h + 1
  | 8 => h + 1 + k
  | 9 => (match k with
    | 0 => 1
    | 1 => σ.1
    | 2 => σ.2.1
    | 3 => 15
    | 4 => 23
    | 5 => 25
    | 6 => 26
    | 7 => 31
    | 8 => 33
    | 9 => 37
    | _ => 40)
  | _ => fg_mp.getD k 0
def fg_ra (h j : Nat) : Nat := if h = 24 then 59 + 8 * j else 41 + 9 * j
/-- is a slot of a class a reference's -/
def fg_rf (c k : Nat) : Bool := match c with
  | 0 => Nat.blt k 7
  | 1 => Nat.beq k 0
  | 2 => Nat.beq k 2
  | 3 => Nat.blt k 4
  | 4 => Nat.beq k 0
  | 5 => true
  | 6 => Nat.ble 4 k
  | 7 => Nat.beq k 0
  | 8 => Nat.blt k 3
  | 9 => Nat.blt k 11
  | _ => Nat.blt 0 (fg_mp.getD k 0)
def fg_nf : List Nat := [12, 3, 3, 6, 3, 2, 9, 5, 4, 13, 37]
def fg_bin (b : Nat) (x y : Int32) : Int32 := match b with
  | 0 => x + y
  | 1 => x - y
  | 2 => x * y
  | 3 => x &&& y
  | 4 => x ||| y
  | 5 => x ^^^ y
  | 6 => x <<< (y &&& 31)
  | 7 => x >>> (y &&& 31)
  | _ => (x.toUInt32 >>> (y.toUInt32 &&& Int32.toUInt32 31)).toInt32
def fg_lbin (b : Nat) (x y : Int64) : Int64 := match b with
  | 0 => x + y
  | 1 => x * y
  | _ => x &&& y
def fg_cnd (b : Nat) (x y : Int32) : Prop := match b with
  | 0 => x = y
  | 1 => ¬ x = y
  | 2 => x < y
  | 3 => y ≤ x
  | 4 => y < x
  | _ => x ≤ y
def fg_look : List fg_I → Nat → Option (Nat × Nat × Nat × Nat × Int32 × Nat)
  | [], _ => none
  | (q, r) :: t, pc => match Nat.beq q pc with
    | true => some r
    | false => fg_look t pc
abbrev fg_P : Type := Nat → Nat → Nat → List (Option Value) → List Value → fg_St → (Int32 → fg_St → Prop) → Prop
/-- is the local ahead of this one a long -/
def fg_lgb (L : List (Option Value)) (a : Nat) : Bool := match a with
  | 0 => false
  | k + 1 => match L[k]? with
    | some (some v) => Nat.beq v.category 2
    | _ => false
def fg_st1 (L : List (Option Value)) (a : Nat) (P : Prop) : Prop := match Nat.blt a L.length && !(fg_lgb L a) with
  | true => P
  | false => False
def fg_st2 (L : List (Option Value)) (a : Nat) (P : Prop) : Prop := match Nat.blt (a + 1) L.length && !(fg_lgb L a) with
  | true => P
  | false => False
def fg_sw (x : Int32) (T : Nat → Prop) (df : Nat) : Nat → List Nat → Prop
  | _, [] => T df
  | k, t :: ts => (x = Int32.ofNat k → T t) ∧ (¬ x = Int32.ofNat k → fg_sw x T df (k + 1) ts)
def fg_pop : Nat → List Value → List Value → Option (List Value × List Value)
  | 0, acc, st => some (acc, st)
  | n + 1, acc, v :: st => fg_pop n (v :: acc) st
  | _ + 1, _, [] => none
def fg_fl : List Value → List (Option Value)
  | [] => []
  | v :: r => match Nat.beq v.category 2 with
    | true => some v :: none :: fg_fl r
    | false => some v :: fg_fl r
def fg_ent (ml : Nat) (vs : List Value) : List (Option Value) := fg_fl vs ++ List.replicate (ml - (fg_fl vs).length) none
def fg_cat (st : List Value) : Nat := (st.map fun v => v.category).sum
def fg_ml (i : Nat) : Nat := match fg_mt[i]? with
  | some m => m.2.2.1
  | none => 0
/-- a call: what is behind it, by the answer -/
def fg_call (S : fg_P) (d a : Nat) (As : List Value) (r : List Value) (σ : fg_St) (K : Nat → Int32 → fg_St → Prop) : Prop := match Nat.ble (fg_cat r) 8 && Nat.ble (fg_fl As).length (fg_ml a) with
  | true => (match d with
    | 0 => False
    | d' + 1 => ∃ P : Int32 → fg_St → Prop, S d' a 0 (fg_ent (fg_ml a) As) [] σ P ∧ ∀ (x : Int32) (u : fg_St), P x u → K (d' + 1) x u)
  | false => False
/-- a call that the machine does at once -/
def fg_m1 (d : Nat) (r : List Value) (P : Prop) : Prop := match Nat.ble (fg_cat r) 8 with
  | true => (match d with
    | 0 => False
    | _ + 1 => P)
  | false => False
def fg_op (S : fg_P) (d i np a b : Nat) (v : Int32) (L : List (Option Value)) (st : List Value) (σ : fg_St) (Q : Int32 → fg_St → Prop) (op : Nat) : Prop := match op with
  | 0 => S d i np L (.int v :: st) σ Q
  | 1 => S d i np L (.long (Int64.ofNat a) :: st) σ Q
  | 2 => (match L[a]? with
    | some (some (.int x)) => S d i np L (.int x :: st) σ Q
    | _ => False)
  | 3 => (match L[a]? with
    | some (some (.ref x)) => S d i np L (.ref x :: st) σ Q
    | _ => False)
  | 4 => (match L[a]? with
    | some (some (.long x)) => S d i np L (.long x :: st) σ Q
    | _ => False)
  | 5 => (match st with
    | .int x :: r => fg_st1 L a (S d i np (L.set a (some (.int x))) r σ Q)
    | _ => False)
  | 6 => (match st with
    | .ref x :: r => fg_st1 L a (S d i np (L.set a (some (.ref x))) r σ Q)
    | _ => False)
  | 7 => (match st with
    | .long x :: r => fg_st2 L a (S d i np ((L.set a (some (.long x))).set (a + 1) none) r σ Q)
    | _ => False)
  | 8 => (match L[a]? with
    | some (some (.int x)) => fg_st1 L a (S d i np (L.set a (some (.int (x + v)))) st σ Q)
    | _ => False)
  | 9 => (match st with
    | .int y :: .int x :: r => S d i np L (.int (fg_bin b x y) :: r) σ Q
    | _ => False)
  | 10 => (match st with
    | .int y :: .int x :: r => ¬ y = 0 ∧ S d i np L (.int (x / y) :: r) σ Q
    | _ => False)
  | 11 => (match st with
    | .int y :: .int x :: r => ¬ y = 0 ∧ S d i np L (.int (x - x / y * y) :: r) σ Q
    | _ => False)
  | 12 => (match st with
    | .int x :: r => S d i np L (.int (-x) :: r) σ Q
    | _ => False)
  | 13 => (match st with
    | .int x :: r => S d i np L (.long x.toInt64 :: r) σ Q
    | _ => False)
  | 14 => (match st with
    | .long x :: r => S d i np L (.int x.toInt32 :: r) σ Q
    | _ => False)
  | 15 => (match st with
    | .long y :: .long x :: r => S d i np L (.long (fg_lbin b x y) :: r) σ Q
    | _ => False)
  | 16 => (match st with
    | .long y :: .long x :: r => ¬ y = 0 ∧ S d i np L (.long (x / y) :: r) σ Q
    | _ => False)
  | 17 => (match st with
    | .long y :: .long x :: r => ¬ y = 0 ∧ S d i np L (.long (x - x / y * y) :: r) σ Q
    | _ => False)
  | 18 => (match st with
    | .long y :: .long x :: r => S d i np L (.int (lg_cmp x y) :: r) σ Q
    | _ => False)
  | 19 => (match st with
    | .int x :: r => S d i np L (.int x :: .int x :: r) σ Q
    | .ref x :: r => S d i np L (.ref x :: .ref x :: r) σ Q
    | _ => False)
  | 20 => (match st with
    | .int _ :: r => S d i np L r σ Q
    | .ref _ :: r => S d i np L r σ Q
    | _ => False)
  | 21 => (match st with
    | .int x :: .ref y :: r => S d i np L (.int x :: .ref y :: .int x :: .ref y :: r) σ Q
    | _ => False)
  | 22 => S d i a L st σ Q
  | 23 => (match st with
    | .int x :: r => (fg_cnd b x 0 → S d i a L r σ Q) ∧ (¬ fg_cnd b x 0 → S d i np L r σ Q)
    | _ => False)
  | 24 => (match st with
    | .int y :: .int x :: r => (fg_cnd b x y → S d i a L r σ Q) ∧ (¬ fg_cnd b x y → S d i np L r σ Q)
    | _ => False)
  | 25 => (match st with
    | .int x :: r => (match fg_swt[a]? with
      | some q => fg_sw x (fun t => S d i t L r σ Q) q.2 0 q.1
      | none => False)
    | _ => False)
  | 26 => (match st with
    | .ref h :: r => fg_kd h = a ∧ S d i np L (.int (fg_F σ h b) :: r) σ Q
    | _ => False)
  | 27 => (match st with
    | .ref h :: r => fg_kd h = a ∧ S d i np L (.ref (fg_pt σ h b) :: r) σ Q
    | _ => False)
  | 28 => (match st with
    | .int x :: .ref h :: r => fg_kd h = a ∧ S d i np L r (fg_sF σ h b x) Q
    | _ => False)
  | 29 => (match st with
    | .int x :: .ref h :: r => fg_kd h = a ∧ (x = 0 ∨ x = 1) ∧ S d i np L r (fg_sF σ h b x) Q
    | _ => False)
  | 30 => (match st with
    | .ref y :: .ref h :: r => h = 0 ∧ (match b with
      | 1 => S d i np L r (y, σ.2.1, σ.2.2) Q
      | 2 => S d i np L r (σ.1, y, σ.2.2) Q
      | _ => False)
    | _ => False)
  | 31 => (match st with
    | .int j :: .ref h :: r => fg_kd h = 11 ∧ vp_in j (fg_ln h) ∧ S d i np L (.int (fg_R σ h j.toNatClampNeg) :: r) σ Q
    | _ => False)
  | 32 => (match st with
    | .int x :: .int j :: .ref h :: r => fg_kd h = 11 ∧ vp_in j (fg_ln h) ∧ S d i np L r (fg_sR σ h j.toNatClampNeg x) Q
    | _ => False)
  | 33 => (match st with
    | .int j :: .ref h :: r => fg_kd h = 12 ∧ vp_in j (fg_ln h) ∧ S d i np L (.int (fg_R σ h j.toNatClampNeg) :: r) σ Q
    | _ => False)
  | 34 => (match st with
    | .int x :: .int j :: .ref h :: r => fg_kd h = 12 ∧ vp_in j (fg_ln h) ∧ (x = 0 ∨ x = 1) ∧ S d i np L r (fg_sR σ h j.toNatClampNeg x) Q
    | _ => False)
  | 35 => (match st with
    | .int j :: .ref h :: r => (fg_kd h = 13 ∨ fg_kd h = 14) ∧ vp_in j (fg_ln h) ∧ S d i np L (.ref (fg_ra h j.toNatClampNeg) :: r) σ Q
    | _ => False)
  | 36 => (match st with
    | .ref h :: r => (11 ≤ fg_kd h ∧ fg_kd h ≤ 14) ∧ S d i np L (.int (Int32.ofNat (fg_ln h)) :: r) σ Q
    | _ => False)
  | 37 => (match fg_pop b [] st with
    | some (As, .ref h :: r) => (fg_mt[a]?.map fun m => m.1.cls) = (vwCl[fg_kd h]?.map fun q => q.1) ∧ fg_call S d a (.ref h :: As) r σ (fun d x u => S d i np L (.int x :: r) u Q)
    | _ => False)
  | 38 => (match fg_pop b [] st with
    | some (As, .ref h :: r) => (fg_mt[a]?.map fun m => m.1.cls) = (vwCl[fg_kd h]?.map fun q => q.1) ∧ fg_call S d a (.ref h :: As) r σ (fun d _ u => S d i np L r u Q)
    | _ => False)
  | 39 => (match fg_pop b [] st with
    | some (As, r) => fg_call S d a As r σ (fun d x u => S d i np L (.int x :: r) u Q)
    | _ => False)
  | 40 => (match fg_pop b [] st with
    | some (As, r) => fg_call S d a As r σ (fun d _ u => S d i np L r u Q)
    | _ => False)
  | 41 => (match fg_pop b [] st with
    | some (As, r) => fg_call S d a As r σ (fun d x u => S d i np L (.int x :: r) u Q)
    | _ => False)
  | 42 => (match st with
    | .int n :: .int dp :: .ref t :: .int sp :: .ref h :: [] => (match d with
      | 0 => False
      | d' + 1 => fg_kd h = 11 ∧ fg_kd t = 11 ∧ (¬ sp < 0 ∧ ¬ dp < 0 ∧ ¬ n < 0) ∧ sp.toNatClampNeg + n.toNatClampNeg ≤ fg_ln h ∧ dp.toNatClampNeg + n.toNatClampNeg ≤ fg_ln t ∧ S (d' + 1) i np L [] (σ.1, σ.2.1, σ.2.2.1, va_up σ.2.2.2 t (va_cpy (σ.2.2.2 h) (σ.2.2.2 t) sp.toNatClampNeg dp.toNatClampNeg n.toNatClampNeg)) Q)
    | _ => False)
  | 43 => (match st with
    | [.int x] => Q x σ
    | _ => False)
  | 44 => (match st with
    | [.int x] => (x = 0 ∨ x = 1) ∧ Q x σ
    | _ => False)
  | 45 => (match st with
    | [] => Q 0 σ
    | _ => False)
  | 46 => (match st with
    | .int y :: .int x :: r => fg_m1 d r (S d i np L (.int (if y < x then y else x) :: r) σ Q)
    | _ => False)
  | 47 => (match st with
    | .int y :: .int x :: r => fg_m1 d r (S d i np L (.int (if x < y then y else x) :: r) σ Q)
    | _ => False)
  | _ => False
def fg_G (S : fg_P) : fg_P := fun d i pc L st σ Q => match fg_look (fg_cd.getD i []) pc with
  | none => False
  | some q => fg_op S d i q.1 q.2.2.1 q.2.2.2.1 q.2.2.2.2.1 L st σ Q q.2.1
/-- it runs: the least that every step keeps -/
def fg_Run : fg_P := fun d i pc L st σ Q => ∀ S : fg_P, (∀ d i pc L st σ Q, fg_G S d i pc L st σ Q → S d i pc L st σ Q) → S d i pc L st σ Q
