/-! A RULE OF THE REAL MACHINE FOR EACH INSTRUCTION OF THE ABSTRACT ONE (laid by wip/whole/genops.py) -/
/-- a method's run on the machine: all but the launch -/
abbrev fg_Ga : Type := Program × Env × Room × State × MethodId × Array Value × List Frame × Method × Code × (Array Value → State → Outcome → State → Prop)
def fg_E (Λ : fg_La) (U : State) : Prop := va_K (fg_D Λ) vwCl (fg_tys Λ) U ∧ ∀ w ∈ fg_nest, va_Nw w U
/-- what holds all through a method's run -/
def fg_Cx (Λ : fg_La) (Γ : fg_Ga) (d : Nat) (M : fg_M) : Prop := match Γ with
  | (p, _, R, s, m, args, _, meth, c, _) => p.tables.exec = Jvm.exec ∧ c.code = M.2.1 ∧ c.maxLocals = M.2.2.1 ∧ meth.sig.returnType = M.2.2.2 ∧ meth.locks = false ∧ s.vm.findClass M.1.cls = some m.cls ∧ (∀ w ∈ fg_T, w.before args s = true) ∧ fg_E Λ s ∧ d ≤ R.frames ∧ 30 * d ≤ R.locals ∧ fg_inj Λ
/-- from here, with this picture, the method comes to its end -/
def fg_Wt (l : Launch) (Λ : fg_La) (Γ : fg_Ga) (ml pc : Nat) (L : List (Option Value)) (st : List Value) (σ : fg_St) : Prop := match Γ with
  | (p, e, R, s, m, args, below, meth, c, Qc) => ∀ (H : Heap) (locs : List Loc) (ls : Array Slot), va_P (fg_D Λ) vwCl (fg_ws Λ σ) H → va_S (fg_A Λ) s.heap H locs → fg_LV Λ.1 ls ml L → W p l e R s m args below meth c H locs 0 0 (MQ below Qc args s 0 0 (fg_A Λ)) (F0 m pc ls (st.map (fg_cv Λ.1)))
section
variable {l : Launch} {Λ : fg_La} {Γ : fg_Ga} {d pc : Nat} {M : fg_M} {L : List (Option Value)} {st : List Value} {σ : fg_St}
theorem fg_o_iconst {n : Int} {v : Int32} (C : fg_Cx Λ Γ d M) (hd : decode M.2.1 pc = .ok (.iconst n, 1)) (hv : Int32.ofInt n = v) (k : fg_Wt l Λ Γ M.2.2.1 (pc + 1) L (.int v :: st) (σ)) : fg_Wt l Λ Γ M.2.2.1 pc L (st) σ := by
  obtain ⟨p, e, R, s, m, args, below, meth, c, Qc⟩ := Γ
  obtain ⟨hx, hb, hml, hr, hlk, hown, hts, hE, hf, hlo, hin⟩ := C
  intro H locs ls hP hS hl
  exact lv_iconst hx hb hd hv (k H locs ls hP hS hl)
theorem fg_o_bipush {n : Int} {v : Int32} (C : fg_Cx Λ Γ d M) (hd : decode M.2.1 pc = .ok (.bipush n, 2)) (hv : (Int8.ofInt n).toInt32 = v) (k : fg_Wt l Λ Γ M.2.2.1 (pc + 2) L (.int v :: st) (σ)) : fg_Wt l Λ Γ M.2.2.1 pc L (st) σ := by
  obtain ⟨p, e, R, s, m, args, below, meth, c, Qc⟩ := Γ
  obtain ⟨hx, hb, hml, hr, hlk, hown, hts, hE, hf, hlo, hin⟩ := C
  intro H locs ls hP hS hl
  exact lv_bipush hx hb hd hv (k H locs ls hP hS hl)
theorem fg_o_sipush {n : Int} {v : Int32} (C : fg_Cx Λ Γ d M) (hd : decode M.2.1 pc = .ok (.sipush n, 3)) (hv : (Int16.ofInt n).toInt32 = v) (k : fg_Wt l Λ Γ M.2.2.1 (pc + 3) L (.int v :: st) (σ)) : fg_Wt l Λ Γ M.2.2.1 pc L (st) σ := by
  obtain ⟨p, e, R, s, m, args, below, meth, c, Qc⟩ := Γ
  obtain ⟨hx, hb, hml, hr, hlk, hown, hts, hE, hf, hlo, hin⟩ := C
  intro H locs ls hP hS hl
  exact lv_sipush hx hb hd hv (k H locs ls hP hS hl)
theorem fg_o_ldc {x : Nat} {v : Int32} (C : fg_Cx Λ Γ d M) (hd : decode M.2.1 pc = .ok (.ldc x, 2)) (hw : Jvm.Cond.constant M.1.cls x v ∈ fg_T) (k : fg_Wt l Λ Γ M.2.2.1 (pc + 2) L (.int v :: st) (σ)) : fg_Wt l Λ Γ M.2.2.1 pc L (st) σ := by
  obtain ⟨p, e, R, s, m, args, below, meth, c, Qc⟩ := Γ
  obtain ⟨hx, hb, hml, hr, hlk, hown, hts, hE, hf, hlo, hin⟩ := C
  intro H locs ls hP hS hl
  exact lv_ldc hx hb hown (hts _ hw) hd (k H locs ls hP hS hl)
theorem fg_o_ldcw {x : Nat} {v : Int32} (C : fg_Cx Λ Γ d M) (hd : decode M.2.1 pc = .ok (.ldc_w x, 3)) (hw : Jvm.Cond.constant M.1.cls x v ∈ fg_T) (k : fg_Wt l Λ Γ M.2.2.1 (pc + 3) L (.int v :: st) (σ)) : fg_Wt l Λ Γ M.2.2.1 pc L (st) σ := by
  obtain ⟨p, e, R, s, m, args, below, meth, c, Qc⟩ := Γ
  obtain ⟨hx, hb, hml, hr, hlk, hown, hts, hE, hf, hlo, hin⟩ := C
  intro H locs ls hP hS hl
  exact lv_ldcw hx hb hown (hts _ hw) hd (k H locs ls hP hS hl)
theorem fg_o_lconst {n : Fin 2} {v : Int64} (C : fg_Cx Λ Γ d M) (hd : decode M.2.1 pc = .ok (.lconst n, 1)) (hv : Int64.ofNat (n : Nat) = v) (k : fg_Wt l Λ Γ M.2.2.1 (pc + 1) L (.long v :: st) (σ)) : fg_Wt l Λ Γ M.2.2.1 pc L (st) σ := by
  obtain ⟨p, e, R, s, m, args, below, meth, c, Qc⟩ := Γ
  obtain ⟨hx, hb, hml, hr, hlk, hown, hts, hE, hf, hlo, hin⟩ := C
  intro H locs ls hP hS hl
  exact lv_lconst hx hb hd hv (k H locs ls hP hS hl)
theorem fg_o_ldc2 {x : Nat} {v : Int64} (C : fg_Cx Λ Γ d M) (hd : decode M.2.1 pc = .ok (.ldc2_w x, 3)) (hw : Jvm.Cond.constantLong M.1.cls x v ∈ fg_T) (k : fg_Wt l Λ Γ M.2.2.1 (pc + 3) L (.long v :: st) (σ)) : fg_Wt l Λ Γ M.2.2.1 pc L (st) σ := by
  obtain ⟨p, e, R, s, m, args, below, meth, c, Qc⟩ := Γ
  obtain ⟨hx, hb, hml, hr, hlk, hown, hts, hE, hf, hlo, hin⟩ := C
  intro H locs ls hP hS hl
  exact lv_ldc2 hx hb hown (hts _ hw) hd (k H locs ls hP hS hl)
theorem fg_o_iload_n {k0 : Fin 4} {a : Nat} {x : Int32} (C : fg_Cx Λ Γ d M) (hd : decode M.2.1 pc = .ok (.iload_n k0, 1)) (ha : (k0 : Nat) = a) (hL : L[a]? = some (some (.int x))) (k : fg_Wt l Λ Γ M.2.2.1 (pc + 1) L (.int x :: st) (σ)) : fg_Wt l Λ Γ M.2.2.1 pc L (st) σ := by
  obtain ⟨p, e, R, s, m, args, below, meth, c, Qc⟩ := Γ
  obtain ⟨hx, hb, hml, hr, hlk, hown, hts, hE, hf, hlo, hin⟩ := C
  intro H locs ls hP hS hl
  exact lv_iload_n hx hb hd ha (hl.2.2.2 _ _ hL) (k H locs ls hP hS hl)
theorem fg_o_iload {a : Nat} {x : Int32} (C : fg_Cx Λ Γ d M) (hd : decode M.2.1 pc = .ok (.iload a, 2)) (hL : L[a]? = some (some (.int x))) (k : fg_Wt l Λ Γ M.2.2.1 (pc + 2) L (.int x :: st) (σ)) : fg_Wt l Λ Γ M.2.2.1 pc L (st) σ := by
  obtain ⟨p, e, R, s, m, args, below, meth, c, Qc⟩ := Γ
  obtain ⟨hx, hb, hml, hr, hlk, hown, hts, hE, hf, hlo, hin⟩ := C
  intro H locs ls hP hS hl
  exact lv_iload hx hb hd (hl.2.2.2 _ _ hL) (k H locs ls hP hS hl)
theorem fg_o_aload_n {k0 : Fin 4} {a : Nat} {x : Nat} (C : fg_Cx Λ Γ d M) (hd : decode M.2.1 pc = .ok (.aload_n k0, 1)) (ha : (k0 : Nat) = a) (hL : L[a]? = some (some (.ref x))) (k : fg_Wt l Λ Γ M.2.2.1 (pc + 1) L (.ref x :: st) (σ)) : fg_Wt l Λ Γ M.2.2.1 pc L (st) σ := by
  obtain ⟨p, e, R, s, m, args, below, meth, c, Qc⟩ := Γ
  obtain ⟨hx, hb, hml, hr, hlk, hown, hts, hE, hf, hlo, hin⟩ := C
  intro H locs ls hP hS hl
  exact lv_aload_n hx hb hd ha (hl.2.2.2 _ _ hL) (k H locs ls hP hS hl)
theorem fg_o_aload {a : Nat} {x : Nat} (C : fg_Cx Λ Γ d M) (hd : decode M.2.1 pc = .ok (.aload a, 2)) (hL : L[a]? = some (some (.ref x))) (k : fg_Wt l Λ Γ M.2.2.1 (pc + 2) L (.ref x :: st) (σ)) : fg_Wt l Λ Γ M.2.2.1 pc L (st) σ := by
  obtain ⟨p, e, R, s, m, args, below, meth, c, Qc⟩ := Γ
  obtain ⟨hx, hb, hml, hr, hlk, hown, hts, hE, hf, hlo, hin⟩ := C
  intro H locs ls hP hS hl
  exact lv_aload hx hb hd (hl.2.2.2 _ _ hL) (k H locs ls hP hS hl)
theorem fg_o_lload_n {k0 : Fin 4} {a : Nat} {x : Int64} (C : fg_Cx Λ Γ d M) (hd : decode M.2.1 pc = .ok (.lload_n k0, 1)) (ha : (k0 : Nat) = a) (hL : L[a]? = some (some (.long x))) (k : fg_Wt l Λ Γ M.2.2.1 (pc + 1) L (.long x :: st) (σ)) : fg_Wt l Λ Γ M.2.2.1 pc L (st) σ := by
  obtain ⟨p, e, R, s, m, args, below, meth, c, Qc⟩ := Γ
  obtain ⟨hx, hb, hml, hr, hlk, hown, hts, hE, hf, hlo, hin⟩ := C
  intro H locs ls hP hS hl
  exact lv_lload_n hx hb hd ha (hl.2.2.2 _ _ hL) (k H locs ls hP hS hl)
theorem fg_o_lload {a : Nat} {x : Int64} (C : fg_Cx Λ Γ d M) (hd : decode M.2.1 pc = .ok (.lload a, 2)) (hL : L[a]? = some (some (.long x))) (k : fg_Wt l Λ Γ M.2.2.1 (pc + 2) L (.long x :: st) (σ)) : fg_Wt l Λ Γ M.2.2.1 pc L (st) σ := by
  obtain ⟨p, e, R, s, m, args, below, meth, c, Qc⟩ := Γ
  obtain ⟨hx, hb, hml, hr, hlk, hown, hts, hE, hf, hlo, hin⟩ := C
  intro H locs ls hP hS hl
  exact lv_lload hx hb hd (hl.2.2.2 _ _ hL) (k H locs ls hP hS hl)
theorem fg_o_istore_n {k0 : Fin 4} {a : Nat} {x : Int32} (C : fg_Cx Λ Γ d M) (hd : decode M.2.1 pc = .ok (.istore_n k0, 1)) (ha : (k0 : Nat) = a) (hn : a < L.length) (hg : fg_lgb L a = false) (k : fg_Wt l Λ Γ M.2.2.1 (pc + 1) (L.set a (some (.int x))) (st) (σ)) : fg_Wt l Λ Γ M.2.2.1 pc L (.int x :: st) σ := by
  obtain ⟨p, e, R, s, m, args, below, meth, c, Qc⟩ := Γ
  obtain ⟨hx, hb, hml, hr, hlk, hown, hts, hE, hf, hlo, hin⟩ := C
  intro H locs ls hP hS hl
  exact lv_istore_n hx hb hd ha hl.has (hl.1 ▸ hn) rfl (fun ls2 h2 => k H locs ls2 hP hS (fg_LV.put1 hl.1 rfl hg h2))
theorem fg_o_istore {a : Nat} {x : Int32} (C : fg_Cx Λ Γ d M) (hd : decode M.2.1 pc = .ok (.istore a, 2)) (hn : a < L.length) (hg : fg_lgb L a = false) (k : fg_Wt l Λ Γ M.2.2.1 (pc + 2) (L.set a (some (.int x))) (st) (σ)) : fg_Wt l Λ Γ M.2.2.1 pc L (.int x :: st) σ := by
  obtain ⟨p, e, R, s, m, args, below, meth, c, Qc⟩ := Γ
  obtain ⟨hx, hb, hml, hr, hlk, hown, hts, hE, hf, hlo, hin⟩ := C
  intro H locs ls hP hS hl
  exact lv_istore hx hb hd hl.has (hl.1 ▸ hn) rfl (fun ls2 h2 => k H locs ls2 hP hS (fg_LV.put1 hl.1 rfl hg h2))
theorem fg_o_astore_n {k0 : Fin 4} {a : Nat} {x : Nat} (C : fg_Cx Λ Γ d M) (hd : decode M.2.1 pc = .ok (.astore_n k0, 1)) (ha : (k0 : Nat) = a) (hn : a < L.length) (hg : fg_lgb L a = false) (k : fg_Wt l Λ Γ M.2.2.1 (pc + 1) (L.set a (some (.ref x))) (st) (σ)) : fg_Wt l Λ Γ M.2.2.1 pc L (.ref x :: st) σ := by
  obtain ⟨p, e, R, s, m, args, below, meth, c, Qc⟩ := Γ
  obtain ⟨hx, hb, hml, hr, hlk, hown, hts, hE, hf, hlo, hin⟩ := C
  intro H locs ls hP hS hl
  exact lv_astore_n hx hb hd ha hl.has (hl.1 ▸ hn) rfl (fun ls2 h2 => k H locs ls2 hP hS (fg_LV.put1 hl.1 rfl hg h2))
theorem fg_o_astore {a : Nat} {x : Nat} (C : fg_Cx Λ Γ d M) (hd : decode M.2.1 pc = .ok (.astore a, 2)) (hn : a < L.length) (hg : fg_lgb L a = false) (k : fg_Wt l Λ Γ M.2.2.1 (pc + 2) (L.set a (some (.ref x))) (st) (σ)) : fg_Wt l Λ Γ M.2.2.1 pc L (.ref x :: st) σ := by
  obtain ⟨p, e, R, s, m, args, below, meth, c, Qc⟩ := Γ
  obtain ⟨hx, hb, hml, hr, hlk, hown, hts, hE, hf, hlo, hin⟩ := C
  intro H locs ls hP hS hl
  exact lv_astore hx hb hd hl.has (hl.1 ▸ hn) rfl (fun ls2 h2 => k H locs ls2 hP hS (fg_LV.put1 hl.1 rfl hg h2))
theorem fg_o_lstore_n {k0 : Fin 4} {a : Nat} {x : Int64} (C : fg_Cx Λ Γ d M) (hd : decode M.2.1 pc = .ok (.lstore_n k0, 1)) (ha : (k0 : Nat) = a) (hn : a + 1 < L.length) (hg : fg_lgb L a = false) (k : fg_Wt l Λ Γ M.2.2.1 (pc + 1) ((L.set a (some (.long x))).set (a + 1) none) (st) (σ)) : fg_Wt l Λ Γ M.2.2.1 pc L (.long x :: st) σ := by
  obtain ⟨p, e, R, s, m, args, below, meth, c, Qc⟩ := Γ
  obtain ⟨hx, hb, hml, hr, hlk, hown, hts, hE, hf, hlo, hin⟩ := C
  intro H locs ls hP hS hl
  exact lv_lstore_n hx hb hd ha hl.has (hl.1 ▸ hn) rfl (fun ls2 h2 => k H locs ls2 hP hS (fg_LV.put2 hl.1 rfl hg h2))
theorem fg_o_lstore {a : Nat} {x : Int64} (C : fg_Cx Λ Γ d M) (hd : decode M.2.1 pc = .ok (.lstore a, 2)) (hn : a + 1 < L.length) (hg : fg_lgb L a = false) (k : fg_Wt l Λ Γ M.2.2.1 (pc + 2) ((L.set a (some (.long x))).set (a + 1) none) (st) (σ)) : fg_Wt l Λ Γ M.2.2.1 pc L (.long x :: st) σ := by
  obtain ⟨p, e, R, s, m, args, below, meth, c, Qc⟩ := Γ
  obtain ⟨hx, hb, hml, hr, hlk, hown, hts, hE, hf, hlo, hin⟩ := C
  intro H locs ls hP hS hl
  exact lv_lstore hx hb hd hl.has (hl.1 ▸ hn) rfl (fun ls2 h2 => k H locs ls2 hP hS (fg_LV.put2 hl.1 rfl hg h2))
theorem fg_o_iinc {a : Nat} {n : Int} {x v : Int32} (C : fg_Cx Λ Γ d M) (hd : decode M.2.1 pc = .ok (.iinc a n, 3)) (hv : Int32.ofInt n = v) (hL : L[a]? = some (some (.int x))) (hg : fg_lgb L a = false) (k : fg_Wt l Λ Γ M.2.2.1 (pc + 3) (L.set a (some (.int (x + v)))) st σ) : fg_Wt l Λ Γ M.2.2.1 pc L st σ := by
  obtain ⟨p, e, R, s, m, args, below, meth, c, Qc⟩ := Γ
  obtain ⟨hx, hb, hml, hr, hlk, hown, hts, hE, hf, hlo, hin⟩ := C
  intro H locs ls hP hS hl
  subst hv
  obtain ⟨j, hj⟩ := List.getElem?_of_mem (fg_as_mem.mpr ⟨.int x, hL, rfl⟩ : (a, Value.int x) ∈ fg_as Λ.1 L)
  exact lv_iinc hx hb hd hl.has hj rfl (hl.1 ▸ (List.getElem?_eq_some_iff.mp hL).1) rfl (fun ls2 h2 => k H locs ls2 hP hS (fg_LV.put1 (v := .int (x + Int32.ofInt n)) hl.1 rfl hg h2))
theorem fg_o_iadd {x y : Int32} (C : fg_Cx Λ Γ d M) (hd : decode M.2.1 pc = .ok (.iadd, 1)) (k : fg_Wt l Λ Γ M.2.2.1 (pc + 1) L (.int (x + y) :: st) (σ)) : fg_Wt l Λ Γ M.2.2.1 pc L (.int y :: .int x :: st) σ := by
  obtain ⟨p, e, R, s, m, args, below, meth, c, Qc⟩ := Γ
  obtain ⟨hx, hb, hml, hr, hlk, hown, hts, hE, hf, hlo, hin⟩ := C
  intro H locs ls hP hS hl
  exact lv_iadd hx hb hd (k H locs ls hP hS hl)
theorem fg_o_isub {x y : Int32} (C : fg_Cx Λ Γ d M) (hd : decode M.2.1 pc = .ok (.isub, 1)) (k : fg_Wt l Λ Γ M.2.2.1 (pc + 1) L (.int (x - y) :: st) (σ)) : fg_Wt l Λ Γ M.2.2.1 pc L (.int y :: .int x :: st) σ := by
  obtain ⟨p, e, R, s, m, args, below, meth, c, Qc⟩ := Γ
  obtain ⟨hx, hb, hml, hr, hlk, hown, hts, hE, hf, hlo, hin⟩ := C
  intro H locs ls hP hS hl
  exact lv_isub hx hb hd (k H locs ls hP hS hl)
theorem fg_o_imul {x y : Int32} (C : fg_Cx Λ Γ d M) (hd : decode M.2.1 pc = .ok (.imul, 1)) (k : fg_Wt l Λ Γ M.2.2.1 (pc + 1) L (.int (x * y) :: st) (σ)) : fg_Wt l Λ Γ M.2.2.1 pc L (.int y :: .int x :: st) σ := by
  obtain ⟨p, e, R, s, m, args, below, meth, c, Qc⟩ := Γ
  obtain ⟨hx, hb, hml, hr, hlk, hown, hts, hE, hf, hlo, hin⟩ := C
  intro H locs ls hP hS hl
  exact lv_imul hx hb hd (k H locs ls hP hS hl)
theorem fg_o_iand {x y : Int32} (C : fg_Cx Λ Γ d M) (hd : decode M.2.1 pc = .ok (.iand, 1)) (k : fg_Wt l Λ Γ M.2.2.1 (pc + 1) L (.int (x &&& y) :: st) (σ)) : fg_Wt l Λ Γ M.2.2.1 pc L (.int y :: .int x :: st) σ := by
  obtain ⟨p, e, R, s, m, args, below, meth, c, Qc⟩ := Γ
  obtain ⟨hx, hb, hml, hr, hlk, hown, hts, hE, hf, hlo, hin⟩ := C
  intro H locs ls hP hS hl
  exact lv_iand hx hb hd (k H locs ls hP hS hl)
theorem fg_o_ior {x y : Int32} (C : fg_Cx Λ Γ d M) (hd : decode M.2.1 pc = .ok (.ior, 1)) (k : fg_Wt l Λ Γ M.2.2.1 (pc + 1) L (.int (x ||| y) :: st) (σ)) : fg_Wt l Λ Γ M.2.2.1 pc L (.int y :: .int x :: st) σ := by
  obtain ⟨p, e, R, s, m, args, below, meth, c, Qc⟩ := Γ
  obtain ⟨hx, hb, hml, hr, hlk, hown, hts, hE, hf, hlo, hin⟩ := C
  intro H locs ls hP hS hl
  exact lv_ior hx hb hd (k H locs ls hP hS hl)
theorem fg_o_ixor {x y : Int32} (C : fg_Cx Λ Γ d M) (hd : decode M.2.1 pc = .ok (.ixor, 1)) (k : fg_Wt l Λ Γ M.2.2.1 (pc + 1) L (.int (x ^^^ y) :: st) (σ)) : fg_Wt l Λ Γ M.2.2.1 pc L (.int y :: .int x :: st) σ := by
  obtain ⟨p, e, R, s, m, args, below, meth, c, Qc⟩ := Γ
  obtain ⟨hx, hb, hml, hr, hlk, hown, hts, hE, hf, hlo, hin⟩ := C
  intro H locs ls hP hS hl
  exact lv_ixor hx hb hd (k H locs ls hP hS hl)
theorem fg_o_ishl {x y : Int32} (C : fg_Cx Λ Γ d M) (hd : decode M.2.1 pc = .ok (.ishl, 1)) (k : fg_Wt l Λ Γ M.2.2.1 (pc + 1) L (.int (x <<< (y &&& 31)) :: st) (σ)) : fg_Wt l Λ Γ M.2.2.1 pc L (.int y :: .int x :: st) σ := by
  obtain ⟨p, e, R, s, m, args, below, meth, c, Qc⟩ := Γ
  obtain ⟨hx, hb, hml, hr, hlk, hown, hts, hE, hf, hlo, hin⟩ := C
  intro H locs ls hP hS hl
  exact lv_ishl hx hb hd (k H locs ls hP hS hl)
theorem fg_o_ishr {x y : Int32} (C : fg_Cx Λ Γ d M) (hd : decode M.2.1 pc = .ok (.ishr, 1)) (k : fg_Wt l Λ Γ M.2.2.1 (pc + 1) L (.int (x >>> (y &&& 31)) :: st) (σ)) : fg_Wt l Λ Γ M.2.2.1 pc L (.int y :: .int x :: st) σ := by
  obtain ⟨p, e, R, s, m, args, below, meth, c, Qc⟩ := Γ
  obtain ⟨hx, hb, hml, hr, hlk, hown, hts, hE, hf, hlo, hin⟩ := C
  intro H locs ls hP hS hl
  exact lv_ishr hx hb hd (k H locs ls hP hS hl)
theorem fg_o_iushr {x y : Int32} (C : fg_Cx Λ Γ d M) (hd : decode M.2.1 pc = .ok (.iushr, 1)) (k : fg_Wt l Λ Γ M.2.2.1 (pc + 1) L (.int ((x.toUInt32 >>> (y.toUInt32 &&& Int32.toUInt32 31)).toInt32) :: st) (σ)) : fg_Wt l Λ Γ M.2.2.1 pc L (.int y :: .int x :: st) σ := by
  obtain ⟨p, e, R, s, m, args, below, meth, c, Qc⟩ := Γ
  obtain ⟨hx, hb, hml, hr, hlk, hown, hts, hE, hf, hlo, hin⟩ := C
  intro H locs ls hP hS hl
  exact lv_iushr hx hb hd rfl (k H locs ls hP hS hl)
theorem fg_o_idiv {x y : Int32} (C : fg_Cx Λ Γ d M) (hd : decode M.2.1 pc = .ok (.idiv, 1)) (hne : ¬ y = 0) (k : fg_Wt l Λ Γ M.2.2.1 (pc + 1) L (.int (x / y) :: st) (σ)) : fg_Wt l Λ Γ M.2.2.1 pc L (.int y :: .int x :: st) σ := by
  obtain ⟨p, e, R, s, m, args, below, meth, c, Qc⟩ := Γ
  obtain ⟨hx, hb, hml, hr, hlk, hown, hts, hE, hf, hlo, hin⟩ := C
  intro H locs ls hP hS hl
  exact lv_idiv hx hb hd hne (k H locs ls hP hS hl)
theorem fg_o_irem {x y : Int32} (C : fg_Cx Λ Γ d M) (hd : decode M.2.1 pc = .ok (.irem, 1)) (hne : ¬ y = 0) (k : fg_Wt l Λ Γ M.2.2.1 (pc + 1) L (.int (x - x / y * y) :: st) (σ)) : fg_Wt l Λ Γ M.2.2.1 pc L (.int y :: .int x :: st) σ := by
  obtain ⟨p, e, R, s, m, args, below, meth, c, Qc⟩ := Γ
  obtain ⟨hx, hb, hml, hr, hlk, hown, hts, hE, hf, hlo, hin⟩ := C
  intro H locs ls hP hS hl
  exact lv_irem hx hb hd hne (k H locs ls hP hS hl)
theorem fg_o_ldiv {x y : Int64} (C : fg_Cx Λ Γ d M) (hd : decode M.2.1 pc = .ok (.ldiv, 1)) (hne : ¬ y = 0) (k : fg_Wt l Λ Γ M.2.2.1 (pc + 1) L (.long (x / y) :: st) (σ)) : fg_Wt l Λ Γ M.2.2.1 pc L (.long y :: .long x :: st) σ := by
  obtain ⟨p, e, R, s, m, args, below, meth, c, Qc⟩ := Γ
  obtain ⟨hx, hb, hml, hr, hlk, hown, hts, hE, hf, hlo, hin⟩ := C
  intro H locs ls hP hS hl
  exact lv_ldiv hx hb hd hne (k H locs ls hP hS hl)
theorem fg_o_lrem {x y : Int64} (C : fg_Cx Λ Γ d M) (hd : decode M.2.1 pc = .ok (.lrem, 1)) (hne : ¬ y = 0) (k : fg_Wt l Λ Γ M.2.2.1 (pc + 1) L (.long (x - x / y * y) :: st) (σ)) : fg_Wt l Λ Γ M.2.2.1 pc L (.long y :: .long x :: st) σ := by
  obtain ⟨p, e, R, s, m, args, below, meth, c, Qc⟩ := Γ
  obtain ⟨hx, hb, hml, hr, hlk, hown, hts, hE, hf, hlo, hin⟩ := C
  intro H locs ls hP hS hl
  exact lv_lrem hx hb hd hne (k H locs ls hP hS hl)
theorem fg_o_ladd {x y : Int64} (C : fg_Cx Λ Γ d M) (hd : decode M.2.1 pc = .ok (.ladd, 1)) (k : fg_Wt l Λ Γ M.2.2.1 (pc + 1) L (.long (x + y) :: st) (σ)) : fg_Wt l Λ Γ M.2.2.1 pc L (.long y :: .long x :: st) σ := by
  obtain ⟨p, e, R, s, m, args, below, meth, c, Qc⟩ := Γ
  obtain ⟨hx, hb, hml, hr, hlk, hown, hts, hE, hf, hlo, hin⟩ := C
  intro H locs ls hP hS hl
  exact lv_ladd hx hb hd (k H locs ls hP hS hl)
theorem fg_o_lmul {x y : Int64} (C : fg_Cx Λ Γ d M) (hd : decode M.2.1 pc = .ok (.lmul, 1)) (k : fg_Wt l Λ Γ M.2.2.1 (pc + 1) L (.long (x * y) :: st) (σ)) : fg_Wt l Λ Γ M.2.2.1 pc L (.long y :: .long x :: st) σ := by
  obtain ⟨p, e, R, s, m, args, below, meth, c, Qc⟩ := Γ
  obtain ⟨hx, hb, hml, hr, hlk, hown, hts, hE, hf, hlo, hin⟩ := C
  intro H locs ls hP hS hl
  exact lv_lmul hx hb hd (k H locs ls hP hS hl)
theorem fg_o_land {x y : Int64} (C : fg_Cx Λ Γ d M) (hd : decode M.2.1 pc = .ok (.land, 1)) (k : fg_Wt l Λ Γ M.2.2.1 (pc + 1) L (.long (x &&& y) :: st) (σ)) : fg_Wt l Λ Γ M.2.2.1 pc L (.long y :: .long x :: st) σ := by
  obtain ⟨p, e, R, s, m, args, below, meth, c, Qc⟩ := Γ
  obtain ⟨hx, hb, hml, hr, hlk, hown, hts, hE, hf, hlo, hin⟩ := C
  intro H locs ls hP hS hl
  exact lv_land hx hb hd (k H locs ls hP hS hl)
theorem fg_o_ineg {x : Int32} (C : fg_Cx Λ Γ d M) (hd : decode M.2.1 pc = .ok (.ineg, 1)) (k : fg_Wt l Λ Γ M.2.2.1 (pc + 1) L (.int (-x) :: st) (σ)) : fg_Wt l Λ Γ M.2.2.1 pc L (.int x :: st) σ := by
  obtain ⟨p, e, R, s, m, args, below, meth, c, Qc⟩ := Γ
  obtain ⟨hx, hb, hml, hr, hlk, hown, hts, hE, hf, hlo, hin⟩ := C
  intro H locs ls hP hS hl
  exact lv_ineg hx hb hd (k H locs ls hP hS hl)
theorem fg_o_i2l {x : Int32} (C : fg_Cx Λ Γ d M) (hd : decode M.2.1 pc = .ok (.i2l, 1)) (k : fg_Wt l Λ Γ M.2.2.1 (pc + 1) L (.long x.toInt64 :: st) (σ)) : fg_Wt l Λ Γ M.2.2.1 pc L (.int x :: st) σ := by
  obtain ⟨p, e, R, s, m, args, below, meth, c, Qc⟩ := Γ
  obtain ⟨hx, hb, hml, hr, hlk, hown, hts, hE, hf, hlo, hin⟩ := C
  intro H locs ls hP hS hl
  exact lv_i2l hx hb hd rfl (k H locs ls hP hS hl)
theorem fg_o_l2i {x : Int64} (C : fg_Cx Λ Γ d M) (hd : decode M.2.1 pc = .ok (.l2i, 1)) (k : fg_Wt l Λ Γ M.2.2.1 (pc + 1) L (.int x.toInt32 :: st) (σ)) : fg_Wt l Λ Γ M.2.2.1 pc L (.long x :: st) σ := by
  obtain ⟨p, e, R, s, m, args, below, meth, c, Qc⟩ := Γ
  obtain ⟨hx, hb, hml, hr, hlk, hown, hts, hE, hf, hlo, hin⟩ := C
  intro H locs ls hP hS hl
  exact lv_l2i hx hb hd rfl (k H locs ls hP hS hl)
theorem fg_o_lcmp {x y : Int64} (C : fg_Cx Λ Γ d M) (hd : decode M.2.1 pc = .ok (.lcmp, 1)) (k : fg_Wt l Λ Γ M.2.2.1 (pc + 1) L (.int (lg_cmp x y) :: st) (σ)) : fg_Wt l Λ Γ M.2.2.1 pc L (.long y :: .long x :: st) σ := by
  obtain ⟨p, e, R, s, m, args, below, meth, c, Qc⟩ := Γ
  obtain ⟨hx, hb, hml, hr, hlk, hown, hts, hE, hf, hlo, hin⟩ := C
  intro H locs ls hP hS hl
  exact W.lcmp hx hb hd (k H locs ls hP hS hl)
theorem fg_o_dupi {x : Int32} (C : fg_Cx Λ Γ d M) (hd : decode M.2.1 pc = .ok (.dup, 1)) (k : fg_Wt l Λ Γ M.2.2.1 (pc + 1) L (.int x :: .int x :: st) (σ)) : fg_Wt l Λ Γ M.2.2.1 pc L (.int x :: st) σ := by
  obtain ⟨p, e, R, s, m, args, below, meth, c, Qc⟩ := Γ
  obtain ⟨hx, hb, hml, hr, hlk, hown, hts, hE, hf, hlo, hin⟩ := C
  intro H locs ls hP hS hl
  exact lv_dup hx hb hd rfl (k H locs ls hP hS hl)
theorem fg_o_popi {x : Int32} (C : fg_Cx Λ Γ d M) (hd : decode M.2.1 pc = .ok (.pop, 1)) (k : fg_Wt l Λ Γ M.2.2.1 (pc + 1) L (st) (σ)) : fg_Wt l Λ Γ M.2.2.1 pc L (.int x :: st) σ := by
  obtain ⟨p, e, R, s, m, args, below, meth, c, Qc⟩ := Γ
  obtain ⟨hx, hb, hml, hr, hlk, hown, hts, hE, hf, hlo, hin⟩ := C
  intro H locs ls hP hS hl
  exact lv_pop hx hb hd rfl (k H locs ls hP hS hl)
theorem fg_o_dupa {x : Nat} (C : fg_Cx Λ Γ d M) (hd : decode M.2.1 pc = .ok (.dup, 1)) (k : fg_Wt l Λ Γ M.2.2.1 (pc + 1) L (.ref x :: .ref x :: st) (σ)) : fg_Wt l Λ Γ M.2.2.1 pc L (.ref x :: st) σ := by
  obtain ⟨p, e, R, s, m, args, below, meth, c, Qc⟩ := Γ
  obtain ⟨hx, hb, hml, hr, hlk, hown, hts, hE, hf, hlo, hin⟩ := C
  intro H locs ls hP hS hl
  exact lv_dup hx hb hd rfl (k H locs ls hP hS hl)
theorem fg_o_popa {x : Nat} (C : fg_Cx Λ Γ d M) (hd : decode M.2.1 pc = .ok (.pop, 1)) (k : fg_Wt l Λ Γ M.2.2.1 (pc + 1) L (st) (σ)) : fg_Wt l Λ Γ M.2.2.1 pc L (.ref x :: st) σ := by
  obtain ⟨p, e, R, s, m, args, below, meth, c, Qc⟩ := Γ
  obtain ⟨hx, hb, hml, hr, hlk, hown, hts, hE, hf, hlo, hin⟩ := C
  intro H locs ls hP hS hl
  exact lv_pop hx hb hd rfl (k H locs ls hP hS hl)
theorem fg_o_dup2 {x : Int32} {y : Nat} (C : fg_Cx Λ Γ d M) (hd : decode M.2.1 pc = .ok (.dup2, 1)) (k : fg_Wt l Λ Γ M.2.2.1 (pc + 1) L (.int x :: .ref y :: .int x :: .ref y :: st) (σ)) : fg_Wt l Λ Γ M.2.2.1 pc L (.int x :: .ref y :: st) σ := by
  obtain ⟨p, e, R, s, m, args, below, meth, c, Qc⟩ := Γ
  obtain ⟨hx, hb, hml, hr, hlk, hown, hts, hE, hf, hlo, hin⟩ := C
  intro H locs ls hP hS hl
  exact lv_dup2_11 hx hb hd rfl rfl (k H locs ls hP hS hl)
theorem fg_o_goto {off : Int} {t : Nat} (C : fg_Cx Λ Γ d M) (hd : decode M.2.1 pc = .ok (.goto off, 3)) (ht : (pc : Int) + off = (t : Int)) (k : fg_Wt l Λ Γ M.2.2.1 t L (st) (σ)) : fg_Wt l Λ Γ M.2.2.1 pc L (st) σ := by
  obtain ⟨p, e, R, s, m, args, below, meth, c, Qc⟩ := Γ
  obtain ⟨hx, hb, hml, hr, hlk, hown, hts, hE, hf, hlo, hin⟩ := C
  intro H locs ls hP hS hl
  exact lv_goto hx hb hd ht (k H locs ls hP hS hl)
theorem fg_o_if_eq {x : Int32} {off : Int} {t : Nat} (C : fg_Cx Λ Γ d M) (hd : decode M.2.1 pc = .ok (.ifCond .eq off, 3)) (ht : (pc : Int) + off = (t : Int)) (kt : x = 0 → fg_Wt l Λ Γ M.2.2.1 t L st σ) (kf : ¬ (x = 0) → fg_Wt l Λ Γ M.2.2.1 (pc + 3) L st σ) : fg_Wt l Λ Γ M.2.2.1 pc L (.int x :: st) σ := by
  obtain ⟨p, e, R, s, m, args, below, meth, c, Qc⟩ := Γ
  obtain ⟨hx, hb, hml, hr, hlk, hown, hts, hE, hf, hlo, hin⟩ := C
  intro H locs ls hP hS hl
  exact lv_if_eq hx hb hd ht (fun q => kt q H locs ls hP hS hl) (fun q => kf q H locs ls hP hS hl)
theorem fg_o_icmp_eq {x y : Int32} {off : Int} {t : Nat} (C : fg_Cx Λ Γ d M) (hd : decode M.2.1 pc = .ok (.if_icmp .eq off, 3)) (ht : (pc : Int) + off = (t : Int)) (kt : x = y → fg_Wt l Λ Γ M.2.2.1 t L st σ) (kf : ¬ (x = y) → fg_Wt l Λ Γ M.2.2.1 (pc + 3) L st σ) : fg_Wt l Λ Γ M.2.2.1 pc L (.int y :: .int x :: st) σ := by
  obtain ⟨p, e, R, s, m, args, below, meth, c, Qc⟩ := Γ
  obtain ⟨hx, hb, hml, hr, hlk, hown, hts, hE, hf, hlo, hin⟩ := C
  intro H locs ls hP hS hl
  exact lv_icmp_eq hx hb hd ht (fun q => kt q H locs ls hP hS hl) (fun q => kf q H locs ls hP hS hl)
theorem fg_o_if_ne {x : Int32} {off : Int} {t : Nat} (C : fg_Cx Λ Γ d M) (hd : decode M.2.1 pc = .ok (.ifCond .ne off, 3)) (ht : (pc : Int) + off = (t : Int)) (kt : ¬ x = 0 → fg_Wt l Λ Γ M.2.2.1 t L st σ) (kf : ¬ (¬ x = 0) → fg_Wt l Λ Γ M.2.2.1 (pc + 3) L st σ) : fg_Wt l Λ Γ M.2.2.1 pc L (.int x :: st) σ := by
  obtain ⟨p, e, R, s, m, args, below, meth, c, Qc⟩ := Γ
  obtain ⟨hx, hb, hml, hr, hlk, hown, hts, hE, hf, hlo, hin⟩ := C
  intro H locs ls hP hS hl
  exact lv_if_ne hx hb hd ht (fun q => kt q H locs ls hP hS hl) (fun q => kf (fun z => z q) H locs ls hP hS hl)
theorem fg_o_icmp_ne {x y : Int32} {off : Int} {t : Nat} (C : fg_Cx Λ Γ d M) (hd : decode M.2.1 pc = .ok (.if_icmp .ne off, 3)) (ht : (pc : Int) + off = (t : Int)) (kt : ¬ x = y → fg_Wt l Λ Γ M.2.2.1 t L st σ) (kf : ¬ (¬ x = y) → fg_Wt l Λ Γ M.2.2.1 (pc + 3) L st σ) : fg_Wt l Λ Γ M.2.2.1 pc L (.int y :: .int x :: st) σ := by
  obtain ⟨p, e, R, s, m, args, below, meth, c, Qc⟩ := Γ
  obtain ⟨hx, hb, hml, hr, hlk, hown, hts, hE, hf, hlo, hin⟩ := C
  intro H locs ls hP hS hl
  exact lv_icmp_ne hx hb hd ht (fun q => kt q H locs ls hP hS hl) (fun q => kf (fun z => z q) H locs ls hP hS hl)
theorem fg_o_if_lt {x : Int32} {off : Int} {t : Nat} (C : fg_Cx Λ Γ d M) (hd : decode M.2.1 pc = .ok (.ifCond .lt off, 3)) (ht : (pc : Int) + off = (t : Int)) (kt : x < 0 → fg_Wt l Λ Γ M.2.2.1 t L st σ) (kf : ¬ (x < 0) → fg_Wt l Λ Γ M.2.2.1 (pc + 3) L st σ) : fg_Wt l Λ Γ M.2.2.1 pc L (.int x :: st) σ := by
  obtain ⟨p, e, R, s, m, args, below, meth, c, Qc⟩ := Γ
  obtain ⟨hx, hb, hml, hr, hlk, hown, hts, hE, hf, hlo, hin⟩ := C
  intro H locs ls hP hS hl
  exact lv_if_lt hx hb hd ht (fun q => kt q H locs ls hP hS hl) (fun q => kf q H locs ls hP hS hl)
theorem fg_o_icmp_lt {x y : Int32} {off : Int} {t : Nat} (C : fg_Cx Λ Γ d M) (hd : decode M.2.1 pc = .ok (.if_icmp .lt off, 3)) (ht : (pc : Int) + off = (t : Int)) (kt : x < y → fg_Wt l Λ Γ M.2.2.1 t L st σ) (kf : ¬ (x < y) → fg_Wt l Λ Γ M.2.2.1 (pc + 3) L st σ) : fg_Wt l Λ Γ M.2.2.1 pc L (.int y :: .int x :: st) σ := by
  obtain ⟨p, e, R, s, m, args, below, meth, c, Qc⟩ := Γ
  obtain ⟨hx, hb, hml, hr, hlk, hown, hts, hE, hf, hlo, hin⟩ := C
  intro H locs ls hP hS hl
  exact lv_icmp_lt hx hb hd ht (fun q => kt q H locs ls hP hS hl) (fun q => kf q H locs ls hP hS hl)
theorem fg_o_if_ge {x : Int32} {off : Int} {t : Nat} (C : fg_Cx Λ Γ d M) (hd : decode M.2.1 pc = .ok (.ifCond .ge off, 3)) (ht : (pc : Int) + off = (t : Int)) (kt : 0 ≤ x → fg_Wt l Λ Γ M.2.2.1 t L st σ) (kf : ¬ (0 ≤ x) → fg_Wt l Λ Γ M.2.2.1 (pc + 3) L st σ) : fg_Wt l Λ Γ M.2.2.1 pc L (.int x :: st) σ := by
  obtain ⟨p, e, R, s, m, args, below, meth, c, Qc⟩ := Γ
  obtain ⟨hx, hb, hml, hr, hlk, hown, hts, hE, hf, hlo, hin⟩ := C
  intro H locs ls hP hS hl
  exact lv_if_ge hx hb hd ht (fun q => kt q H locs ls hP hS hl) (fun q => kf q H locs ls hP hS hl)
theorem fg_o_icmp_ge {x y : Int32} {off : Int} {t : Nat} (C : fg_Cx Λ Γ d M) (hd : decode M.2.1 pc = .ok (.if_icmp .ge off, 3)) (ht : (pc : Int) + off = (t : Int)) (kt : y ≤ x → fg_Wt l Λ Γ M.2.2.1 t L st σ) (kf : ¬ (y ≤ x) → fg_Wt l Λ Γ M.2.2.1 (pc + 3) L st σ) : fg_Wt l Λ Γ M.2.2.1 pc L (.int y :: .int x :: st) σ := by
  obtain ⟨p, e, R, s, m, args, below, meth, c, Qc⟩ := Γ
  obtain ⟨hx, hb, hml, hr, hlk, hown, hts, hE, hf, hlo, hin⟩ := C
  intro H locs ls hP hS hl
  exact lv_icmp_ge hx hb hd ht (fun q => kt q H locs ls hP hS hl) (fun q => kf q H locs ls hP hS hl)
theorem fg_o_if_gt {x : Int32} {off : Int} {t : Nat} (C : fg_Cx Λ Γ d M) (hd : decode M.2.1 pc = .ok (.ifCond .gt off, 3)) (ht : (pc : Int) + off = (t : Int)) (kt : 0 < x → fg_Wt l Λ Γ M.2.2.1 t L st σ) (kf : ¬ (0 < x) → fg_Wt l Λ Γ M.2.2.1 (pc + 3) L st σ) : fg_Wt l Λ Γ M.2.2.1 pc L (.int x :: st) σ := by
  obtain ⟨p, e, R, s, m, args, below, meth, c, Qc⟩ := Γ
  obtain ⟨hx, hb, hml, hr, hlk, hown, hts, hE, hf, hlo, hin⟩ := C
  intro H locs ls hP hS hl
  exact lv_if_gt hx hb hd ht (fun q => kt q H locs ls hP hS hl) (fun q => kf q H locs ls hP hS hl)
theorem fg_o_icmp_gt {x y : Int32} {off : Int} {t : Nat} (C : fg_Cx Λ Γ d M) (hd : decode M.2.1 pc = .ok (.if_icmp .gt off, 3)) (ht : (pc : Int) + off = (t : Int)) (kt : y < x → fg_Wt l Λ Γ M.2.2.1 t L st σ) (kf : ¬ (y < x) → fg_Wt l Λ Γ M.2.2.1 (pc + 3) L st σ) : fg_Wt l Λ Γ M.2.2.1 pc L (.int y :: .int x :: st) σ := by
  obtain ⟨p, e, R, s, m, args, below, meth, c, Qc⟩ := Γ
  obtain ⟨hx, hb, hml, hr, hlk, hown, hts, hE, hf, hlo, hin⟩ := C
  intro H locs ls hP hS hl
  exact lv_icmp_gt hx hb hd ht (fun q => kt q H locs ls hP hS hl) (fun q => kf q H locs ls hP hS hl)
theorem fg_o_if_le {x : Int32} {off : Int} {t : Nat} (C : fg_Cx Λ Γ d M) (hd : decode M.2.1 pc = .ok (.ifCond .le off, 3)) (ht : (pc : Int) + off = (t : Int)) (kt : x ≤ 0 → fg_Wt l Λ Γ M.2.2.1 t L st σ) (kf : ¬ (x ≤ 0) → fg_Wt l Λ Γ M.2.2.1 (pc + 3) L st σ) : fg_Wt l Λ Γ M.2.2.1 pc L (.int x :: st) σ := by
  obtain ⟨p, e, R, s, m, args, below, meth, c, Qc⟩ := Γ
  obtain ⟨hx, hb, hml, hr, hlk, hown, hts, hE, hf, hlo, hin⟩ := C
  intro H locs ls hP hS hl
  exact lv_if_le hx hb hd ht (fun q => kt q H locs ls hP hS hl) (fun q => kf q H locs ls hP hS hl)
theorem fg_o_icmp_le {x y : Int32} {off : Int} {t : Nat} (C : fg_Cx Λ Γ d M) (hd : decode M.2.1 pc = .ok (.if_icmp .le off, 3)) (ht : (pc : Int) + off = (t : Int)) (kt : x ≤ y → fg_Wt l Λ Γ M.2.2.1 t L st σ) (kf : ¬ (x ≤ y) → fg_Wt l Λ Γ M.2.2.1 (pc + 3) L st σ) : fg_Wt l Λ Γ M.2.2.1 pc L (.int y :: .int x :: st) σ := by
  obtain ⟨p, e, R, s, m, args, below, meth, c, Qc⟩ := Γ
  obtain ⟨hx, hb, hml, hr, hlk, hown, hts, hE, hf, hlo, hin⟩ := C
  intro H locs ls hP hS hl
  exact lv_icmp_le hx hb hd ht (fun q => kt q H locs ls hP hS hl) (fun q => kf q H locs ls hP hS hl)
/-- a field is read -/
theorem fg_o_get {x a b h : Nat} {q : vw_C} {v : Value} (C : fg_Cx Λ Γ d M) (hd : decode M.2.1 pc = .ok (.getfield x, 3)) (hq : vwCl[a]? = some q) (hbq : b < q.2.2) (hw : Jvm.Cond.fieldLink M.1.cls x (q.2.1 b).1 (q.2.1 b).2.1 (q.2.1 b).2.2.1 ∈ fg_T) (hk : fg_kd h = a) (hv : fg_cv Λ.1 v = fg_fv Λ.1 σ h a b) (k : fg_Wt l Λ Γ M.2.2.1 (pc + 3) L (v :: st) σ) : fg_Wt l Λ Γ M.2.2.1 pc L (.ref h :: st) σ := by
  obtain ⟨p, e, R, s, m, args, below, meth, c, Qc⟩ := Γ
  obtain ⟨hx, hb, hml, hr, hlk, hown, hts, hE, hf, hlo, hin⟩ := C
  intro H locs ls hP hS hl
  have ha := fg_clok a q hq
  have he := fg_ws_at (Λ := Λ) (σ := σ) (fg_kd_lt hk (by omega))
  rw [fg_cell_o hk ha.1] at he
  refine va_get (D := fg_D Λ) (v := fg_fv Λ.1 σ h a b) (C := q.1) (T := q.2.1) (N := q.2.2) hx hb hts (fg_lays q (List.mem_of_getElem? hq)) hown hE.1 hP h he hq b hbq (hts _ hw) (fun _ h9 => h9) ?_ hd ?_
  · rw [List.getElem?_map, List.getElem?_range (by rw [← ha.2]; exact hbq)]
    rfl
  · have k1 := k H locs ls hP hS hl
    rw [List.map_cons, hv] at k1
    exact k1
/-- a field is written -/
theorem fg_o_put {x a b h : Nat} {q : vw_C} {v : Value} {ty : FieldType} {σ2 : fg_St} (C : fg_Cx Λ Γ d M) (hd : decode M.2.1 pc = .ok (.putfield x, 3)) (hq : vwCl[a]? = some q) (hbq : b < q.2.2) (hw : Jvm.Cond.fieldLink M.1.cls x (q.2.1 b).1 (q.2.1 b).2.1 (q.2.1 b).2.2.1 ∈ fg_T) (hk : fg_kd h = a) (hfp : (q.2.1 b).2.2.2 = false) (hty : parseFieldDescriptor (q.2.1 b).2.2.1 = some ty) (hn : narrow ty (fg_cv Λ.1 v) = fg_cv Λ.1 v) (hfit : fits ty (fg_cv Λ.1 v) = true) (hs : Sum.inr (a, ((List.range (fg_nf.getD a 0)).map (fg_fv Λ.1 σ h a)).set b (fg_cv Λ.1 v)) = fg_cell Λ σ2 h) (ho : ∀ g, g < 209 → g ≠ h → fg_cell Λ σ2 g = fg_cell Λ σ g) (k : fg_Wt l Λ Γ M.2.2.1 (pc + 3) L st σ2) : fg_Wt l Λ Γ M.2.2.1 pc L (v :: .ref h :: st) σ := by
  obtain ⟨p, e, R, s, m, args, below, meth, c, Qc⟩ := Γ
  obtain ⟨hx, hb, hml, hr, hlk, hown, hts, hE, hf, hlo, hin⟩ := C
  intro H locs ls hP hS hl
  have ha := fg_clok a q hq
  have he := fg_ws_at (Λ := Λ) (σ := σ) (fg_kd_lt hk (by omega))
  rw [fg_cell_o hk ha.1] at he
  obtain ⟨ty0, h1, h2⟩ := fg_clty a q hq
  refine va_put (D := fg_D Λ) (ty := ty) (v := fg_cv Λ.1 v) (C := q.1) (T := q.2.1) (N := q.2.2) hx hb hts (fg_lays q (List.mem_of_getElem? hq)) ty0 h1 h2 hown hE.1 hP (fg_ws_D hin σ) hS h he hq b hbq (hts _ hw) (fun _ h9 => h9) hfp hty hn hfit ?_ hd (fun H1 locs1 hP1 hD1 hS1 => ?_)
  · rw [List.length_map, List.length_range, ← ha.2]
    exact hbq
  · rw [fg_ws_set hs ho] at hP1
    exact k H1 locs1 ls hP1 hS1 hl
theorem fg_o_iald {j : Int32} {h : Nat} (C : fg_Cx Λ Γ d M) (hd : decode M.2.1 pc = .ok (.iaload, 1)) (hk : fg_kd h = 11) (hj : vp_in j (fg_ln h)) (k : fg_Wt l Λ Γ M.2.2.1 (pc + 1) L (.int (fg_R σ h j.toNatClampNeg) :: st) σ) : fg_Wt l Λ Γ M.2.2.1 pc L (.int j :: .ref h :: st) σ := by
  obtain ⟨p, e, R, s, m, args, below, meth, c, Qc⟩ := Γ
  obtain ⟨hx, hb, hml, hr, hlk, hown, hts, hE, hf, hlo, hin⟩ := C
  intro H locs ls hP hS hl
  have he := fg_ws_at (Λ := Λ) (σ := σ) (fg_kd_lt hk (by decide))
  rw [fg_cell_i hk] at he
  exact va_iald hx hb hE.1 hP h 0 he rfl hj hd (k H locs ls hP hS hl)
theorem fg_o_zald {j : Int32} {h : Nat} (C : fg_Cx Λ Γ d M) (hd : decode M.2.1 pc = .ok (.baload, 1)) (hk : fg_kd h = 12) (hj : vp_in j (fg_ln h)) (k : fg_Wt l Λ Γ M.2.2.1 (pc + 1) L (.int (fg_R σ h j.toNatClampNeg) :: st) σ) : fg_Wt l Λ Γ M.2.2.1 pc L (.int j :: .ref h :: st) σ := by
  obtain ⟨p, e, R, s, m, args, below, meth, c, Qc⟩ := Γ
  obtain ⟨hx, hb, hml, hr, hlk, hown, hts, hE, hf, hlo, hin⟩ := C
  intro H locs ls hP hS hl
  have he := fg_ws_at (Λ := Λ) (σ := σ) (fg_kd_lt hk (by decide))
  rw [fg_cell_z hk] at he
  exact va_zald hx hb hE.1 hP h 1 he rfl hj hd (k H locs ls hP hS hl)
theorem fg_o_iast {j x : Int32} {h : Nat} (C : fg_Cx Λ Γ d M) (hd : decode M.2.1 pc = .ok (.iastore, 1)) (hk : fg_kd h = 11) (hj : vp_in j (fg_ln h)) (k : fg_Wt l Λ Γ M.2.2.1 (pc + 1) L st (fg_sR σ h j.toNatClampNeg x)) : fg_Wt l Λ Γ M.2.2.1 pc L (.int x :: .int j :: .ref h :: st) σ := by
  obtain ⟨p, e, R, s, m, args, below, meth, c, Qc⟩ := Γ
  obtain ⟨hx, hb, hml, hr, hlk, hown, hts, hE, hf, hlo, hin⟩ := C
  intro H locs ls hP hS hl
  have he := fg_ws_at (Λ := Λ) (σ := σ) (fg_kd_lt hk (by decide))
  rw [fg_cell_i hk] at he
  refine va_iast hx hb hE.1 hP (fg_ws_D hin σ) hS h 0 he rfl hj hd (fun H1 locs1 hP1 hD1 hS1 => ?_)
  rw [fg_ws_set (σ' := fg_sR σ h j.toNatClampNeg x) (by rw [fg_cell_i hk]; show _ = Sum.inl (_, _, Sum.inl (fg_up _ _ _ _ h)); rw [fg_up_upd]) (fun g _ hg => fg_cell_sRo (fun a ha => fg_up_ne _ _ _ _ ha) g hg)] at hP1
  exact k H1 locs1 ls hP1 hS1 hl
theorem fg_o_zast {j x : Int32} {h : Nat} (C : fg_Cx Λ Γ d M) (hd : decode M.2.1 pc = .ok (.bastore, 1)) (hk : fg_kd h = 12) (hj : vp_in j (fg_ln h)) (hz : x = 0 ∨ x = 1) (k : fg_Wt l Λ Γ M.2.2.1 (pc + 1) L st (fg_sR σ h j.toNatClampNeg x)) : fg_Wt l Λ Γ M.2.2.1 pc L (.int x :: .int j :: .ref h :: st) σ := by
  obtain ⟨p, e, R, s, m, args, below, meth, c, Qc⟩ := Γ
  obtain ⟨hx, hb, hml, hr, hlk, hown, hts, hE, hf, hlo, hin⟩ := C
  intro H locs ls hP hS hl
  have he := fg_ws_at (Λ := Λ) (σ := σ) (fg_kd_lt hk (by decide))
  rw [fg_cell_z hk] at he
  have hn : vp_nar .boolean x = x := by rcases hz with rfl | rfl <;> decide
  refine va_zast hx hb hE.1 hP (fg_ws_D hin σ) hS h 1 he rfl hj hd (fun H1 locs1 hP1 hD1 hS1 => ?_)
  rw [hn, fg_ws_set (σ' := fg_sR σ h j.toNatClampNeg x) (by rw [fg_cell_z hk]; show _ = Sum.inl (_, _, Sum.inl (fg_up _ _ _ _ h)); rw [fg_up_upd]) (fun g _ hg => fg_cell_sRo (fun a ha => fg_up_ne _ _ _ _ ha) g hg)] at hP1
  exact k H1 locs1 ls hP1 hS1 hl
theorem fg_o_aald {j : Int32} {h : Nat} (C : fg_Cx Λ Γ d M) (hd : decode M.2.1 pc = .ok (.aaload, 1)) (hk : fg_kd h = 13 ∨ fg_kd h = 14) (hj : vp_in j (fg_ln h)) (k : fg_Wt l Λ Γ M.2.2.1 (pc + 1) L (.ref (fg_ra h j.toNatClampNeg) :: st) σ) : fg_Wt l Λ Γ M.2.2.1 pc L (.int j :: .ref h :: st) σ := by
  obtain ⟨p, e, R, s, m, args, below, meth, c, Qc⟩ := Γ
  obtain ⟨hx, hb, hml, hr, hlk, hown, hts, hE, hf, hlo, hin⟩ := C
  intro H locs ls hP hS hl
  rcases hk with hk | hk
  · have he := fg_ws_at (Λ := Λ) (σ := σ) (fg_kd_lt hk (by decide))
    rw [fg_cell_d hk] at he
    exact va_aldq hx hb hE.1 hP h 2 he rfl hj hd (k H locs ls hP hS hl)
  · have he := fg_ws_at (Λ := Λ) (σ := σ) (fg_kd_lt hk (by decide))
    rw [fg_cell_m hk] at he
    exact va_aldq hx hb hE.1 hP h 3 he rfl hj hd (k H locs ls hP hS hl)
theorem fg_o_alen {h : Nat} (C : fg_Cx Λ Γ d M) (hd : decode M.2.1 pc = .ok (.arraylength, 1)) (hk : 11 ≤ fg_kd h ∧ fg_kd h ≤ 14) (k : fg_Wt l Λ Γ M.2.2.1 (pc + 1) L (.int (Int32.ofNat (fg_ln h)) :: st) σ) : fg_Wt l Λ Γ M.2.2.1 pc L (.ref h :: st) σ := by
  obtain ⟨p, e, R, s, m, args, below, meth, c, Qc⟩ := Γ
  obtain ⟨hx, hb, hml, hr, hlk, hown, hts, hE, hf, hlo, hin⟩ := C
  intro H locs ls hP hS hl
  have he := fg_ws_at (Λ := Λ) (σ := σ) (fg_kd_lt (h := h) rfl (by omega))
  rcases (show fg_kd h = 11 ∨ fg_kd h = 12 ∨ fg_kd h = 13 ∨ fg_kd h = 14 by omega) with hk | hk | hk | hk
  · rw [fg_cell_i hk] at he
    exact va_alen hx hb hE.1 hP h 0 he rfl rfl hd (k H locs ls hP hS hl)
  · rw [fg_cell_z hk] at he
    exact va_alen hx hb hE.1 hP h 1 he rfl rfl hd (k H locs ls hP hS hl)
  · rw [fg_cell_d hk] at he
    exact va_alen hx hb hE.1 hP h 2 he rfl rfl hd (k H locs ls hP hS hl)
  · rw [fg_cell_m hk] at he
    exact va_alen hx hb hE.1 hP h 3 he rfl rfl hd (k H locs ls hP hS hl)
theorem fg_cat_cv (ad : Nat → Nat) (r : List Value) : ((r.map (fg_cv ad)).map fun v => v.category).sum = fg_cat r := by
  unfold fg_cat
  rw [List.map_map]
  congr 2
  funext v
  exact fg_cv_cat ad v
set_option maxRecDepth 100000 in
theorem fg_mmin_w : Jvm.Cond.static Lib.Math.min.name ∈ fg_T ∧ Jvm.Cond.initialized "java/lang/Math" ∈ fg_T ∧ Jvm.Cond.code Lib.Math.min.name Lib.Math.min.code 2 (some .int) ∈ fg_T := by decide +kernel
set_option maxRecDepth 100000 in
theorem fg_mmax_w : Jvm.Cond.static Lib.Math.max.name ∈ fg_T ∧ Jvm.Cond.initialized "java/lang/Math" ∈ fg_T ∧ Jvm.Cond.code Lib.Math.max.name Lib.Math.max.code 2 (some .int) ∈ fg_T := by decide +kernel
set_option maxRecDepth 100000 in
theorem fg_acp_w : Jvm.Cond.static arraycopyName ∈ fg_T ∧ Jvm.Cond.native arraycopyName ∈ fg_T ∧ Jvm.Cond.initialized "java/lang/System" ∈ fg_T := by decide +kernel
theorem fg_o_min {q : Nat} {x y : Int32} (C : fg_Cx Λ Γ d M) (hd : decode M.2.1 pc = .ok (.invokestatic q, 3)) (hw : Jvm.Cond.methodLink M.1.cls q Lib.Math.min.name ∈ fg_T) (hd1 : 1 ≤ d) (hc : fg_cat st ≤ 8) (k : fg_Wt l Λ Γ M.2.2.1 (pc + 3) L (.int (if y < x then y else x) :: st) σ) : fg_Wt l Λ Γ M.2.2.1 pc L (.int y :: .int x :: st) σ := by
  obtain ⟨p, e, R, s, m, args, below, meth, c, Qc⟩ := Γ
  obtain ⟨hx, hb, hml, hr, hlk, hown, hts, hE, hf, hlo, hin⟩ := C
  intro H locs ls hP hS hl
  exact va_mmin hx hb (hml.trans hl.2.1.symm) hown (hts _ hw) (hts _ fg_mmin_w.1) (hts _ fg_mmin_w.2.1) (hts _ fg_mmin_w.2.2) (by omega) (by rw [fg_cat_cv]; omega) (Nat.zero_le _) (Nat.zero_le _) hd (k H locs ls hP hS hl)
theorem fg_o_max {q : Nat} {x y : Int32} (C : fg_Cx Λ Γ d M) (hd : decode M.2.1 pc = .ok (.invokestatic q, 3)) (hw : Jvm.Cond.methodLink M.1.cls q Lib.Math.max.name ∈ fg_T) (hd1 : 1 ≤ d) (hc : fg_cat st ≤ 8) (k : fg_Wt l Λ Γ M.2.2.1 (pc + 3) L (.int (if x < y then y else x) :: st) σ) : fg_Wt l Λ Γ M.2.2.1 pc L (.int y :: .int x :: st) σ := by
  obtain ⟨p, e, R, s, m, args, below, meth, c, Qc⟩ := Γ
  obtain ⟨hx, hb, hml, hr, hlk, hown, hts, hE, hf, hlo, hin⟩ := C
  intro H locs ls hP hS hl
  exact va_mmax hx hb (hml.trans hl.2.1.symm) hown (hts _ hw) (hts _ fg_mmax_w.1) (hts _ fg_mmax_w.2.1) (hts _ fg_mmax_w.2.2) (by omega) (by rw [fg_cat_cv]; omega) (Nat.zero_le _) (Nat.zero_le _) hd (k H locs ls hP hS hl)
theorem fg_o_acp {q : Nat} {n dp sp : Int32} {t h : Nat} (C : fg_Cx Λ Γ d M) (hd : decode M.2.1 pc = .ok (.invokestatic q, 3)) (hw : Jvm.Cond.methodLink M.1.cls q arraycopyName ∈ fg_T) (hd1 : 1 ≤ d) (hk : fg_kd h = 11) (ht : fg_kd t = 11) (hz : ¬ sp < 0 ∧ ¬ dp < 0 ∧ ¬ n < 0) (h1 : sp.toNatClampNeg + n.toNatClampNeg ≤ fg_ln h) (h2 : dp.toNatClampNeg + n.toNatClampNeg ≤ fg_ln t) (k : fg_Wt l Λ Γ M.2.2.1 (pc + 3) L [] (fg_cp σ h t sp.toNatClampNeg dp.toNatClampNeg n.toNatClampNeg)) : fg_Wt l Λ Γ M.2.2.1 pc L [.int n, .int dp, .ref t, .int sp, .ref h] σ := by
  obtain ⟨p, e, R, s, m, args, below, meth, c, Qc⟩ := Γ
  obtain ⟨hx, hb, hml, hr, hlk, hown, hts, hE, hf, hlo, hin⟩ := C
  intro H locs ls hP hS hl
  have he := fg_ws_at (Λ := Λ) (σ := σ) (fg_kd_lt hk (by decide))
  have he2 := fg_ws_at (Λ := Λ) (σ := σ) (fg_kd_lt ht (by decide))
  rw [fg_cell_i hk] at he
  rw [fg_cell_i ht] at he2
  refine va_copyi hx hb (hml.trans hl.2.1.symm) hown (hts _ hw) (hts _ fg_acp_w.2.1) (hts _ fg_acp_w.1) (hts _ fg_acp_w.2.2) hE.1 hP (fg_ws_D hin σ) hS h t 0 0 he he2 rfl rfl rfl hz.1 hz.2.1 hz.2.2 h1 h2 (fun _ _ => rfl) (by omega) (by show 0 + (7 + 11) ≤ R.locals; omega) hd (fun H1 locs1 hP1 hD1 hS1 => ?_)
  rw [fg_ws_set (σ' := fg_cp σ h t sp.toNatClampNeg dp.toNatClampNeg n.toNatClampNeg) (by rw [fg_cell_i ht]; simp [va_up]) (fun g _ hg => fg_cell_sRo (fun a ha => by simp [va_up, ha]) g hg)] at hP1
  exact k H1 locs1 ls hP1 hS1 hl
end
