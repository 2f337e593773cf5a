/-! EACH STEP OF THE ABSTRACT MACHINE IS A STEP OF THE REAL ONE (laid by wip/whole/gendisp.py) -/
theorem fg_st1_sp {L : List (Option Value)} {a : Nat} {P : Prop} (g : fg_st1 L a P) : a < L.length ∧ fg_lgb L a = false ∧ P := by
  unfold fg_st1 at g
  split at g
  · rename_i e
    simp only [Bool.and_eq_true, Bool.not_eq_true'] at e
    exact ⟨Nat.le_of_ble_eq_true e.1, e.2, g⟩
  · exact g.elim
theorem fg_st2_sp {L : List (Option Value)} {a : Nat} {P : Prop} (g : fg_st2 L a P) : a + 1 < L.length ∧ fg_lgb L a = false ∧ P := by
  unfold fg_st2 at g
  split at g
  · rename_i e
    simp only [Bool.and_eq_true, Bool.not_eq_true'] at e
    exact ⟨Nat.le_of_ble_eq_true e.1, e.2, g⟩
  · exact g.elim
theorem fg_m1_sp {d : Nat} {r : List Value} {P : Prop} (g : fg_m1 d r P) : 1 ≤ d ∧ fg_cat r ≤ 8 ∧ P := by
  unfold fg_m1 at g
  split at g
  · rename_i e
    cases d with
    | zero => exact g.elim
    | succ d => exact ⟨by omega, Nat.le_of_ble_eq_true e, g⟩
  · exact g.elim
theorem fg_fk_sp {own : String} {x a b w : Nat} (h : fg_fk own x a b w = true) : ∃ q : vw_C, vwCl[a]? = some q ∧ b < q.2.2 ∧ Jvm.Cond.fieldLink own x (q.2.1 b).1 (q.2.1 b).2.1 (q.2.1 b).2.2.1 ∈ fg_T := by
  unfold fg_fk at h
  split at h
  · rename_i q e
    simp only [Bool.and_eq_true, decide_eq_true_eq] at h
    exact ⟨q, e, h.1, fg_w_in h.2 rfl⟩
  · cases h
theorem fg_fp_sp {a b : Nat} {ty : FieldType} {q : vw_C} (hq : vwCl[a]? = some q) (h : fg_fp a b ty = true) : (q.2.1 b).2.2.2 = false ∧ parseFieldDescriptor (q.2.1 b).2.2.1 = some ty := by
  unfold fg_fp at h
  rw [hq] at h
  simp only [Bool.and_eq_true, decide_eq_true_eq] at h
  exact h
theorem fg_ckc_sp {own : String} {x a b w : Nat} {z : Bool} (h : fg_ckc own x a b w z = true) : ∃ N : fg_M, fg_mt[a]? = some N ∧ Jvm.Cond.methodLink own x N.1 ∈ fg_T ∧ (parseMethodDescriptor N.1.desc).map (fun d => d.parameters.length) = some b ∧ (z = true → fg_rz N.2.2.2 = true) ∧ (z = false → fg_ri N.2.2.2 = true) := by
  unfold fg_ckc at h
  split at h
  · rename_i N e
    simp only [Bool.and_eq_true] at h
    refine ⟨N, e, fg_w_in h.1 rfl, of_decide_eq_true h.2.1, fun q => ?_, fun q => ?_⟩
    · subst q; exact h.2.2
    · subst q; exact h.2.2
  · cases h
theorem fg_call_sp {S : fg_P} {d a : Nat} {As r : List Value} {σ : fg_St} {K : Nat → Int32 → fg_St → Prop} {N : fg_M} (hj : fg_mt[a]? = some N) (g : fg_call S d a As r σ K) : ∃ (d2 : Nat) (P : Int32 → fg_St → Prop), d = d2 + 1 ∧ fg_cat r ≤ 8 ∧ (fg_fl As).length ≤ N.2.2.1 ∧ S d2 a 0 (fg_ent N.2.2.1 As) [] σ P ∧ ∀ y u, P y u → K (d2 + 1) y u := by
  have hm : fg_ml a = N.2.2.1 := by unfold fg_ml; rw [hj]
  unfold fg_call at g
  rw [hm] at g
  split at g
  · rename_i e
    simp only [Bool.and_eq_true] at e
    cases d with
    | zero => exact g.elim
    | succ d2 =>
      obtain ⟨P, h1, h2⟩ := g
      exact ⟨d2, P, rfl, Nat.le_of_ble_eq_true e.1, Nat.le_of_ble_eq_true e.2, h1, h2⟩
  · exact g.elim
theorem fg_cell_spo {Λ : fg_La} {σ : fg_St} (y z : Nat) (g : Nat) (hl : g < 209) (hg : g ≠ 0) : fg_cell Λ (y, z, σ.2.2) g = fg_cell Λ σ g := by
  have h9 : fg_kd g ≠ 9 := fun e => hg (fg_kd9 g hl e)
  have : fg_fv Λ.1 (y, z, σ.2.2) g (fg_kd g) = fg_fv Λ.1 σ g (fg_kd g) := by
    funext j
    unfold fg_fv
    cases fg_rf (fg_kd g) j
    · rfl
    · show Value.ref (Λ.1 (fg_pt _ g j)) = Value.ref (Λ.1 (fg_pt _ g j))
      congr 2
      unfold fg_pt
      split <;> first | rfl | (rename_i e; exact absurd e h9)
  unfold fg_cell
  rw [this]
theorem fg_cell_s1 (Λ : fg_La) (σ : fg_St) (y : Nat) : fg_cell Λ (y, σ.2.1, σ.2.2) 0 = Sum.inr (9, ((List.range (fg_nf.getD 9 0)).map (fg_fv Λ.1 σ 0 9)).set 1 (fg_cv Λ.1 (.ref y))) := by
  rw [fg_cell_o (c := 9) rfl (by decide)]
  rfl
theorem fg_cell_s2 (Λ : fg_La) (σ : fg_St) (y : Nat) : fg_cell Λ (σ.1, y, σ.2.2) 0 = Sum.inr (9, ((List.range (fg_nf.getD 9 0)).map (fg_fv Λ.1 σ 0 9)).set 2 (fg_cv Λ.1 (.ref y))) := by
  rw [fg_cell_o (c := 9) rfl (by decide)]
  rfl
section
variable {l : Launch} {Λ : fg_La} {Γ : fg_Ga} {d pc : Nat} {M : fg_M} {L : List (Option Value)} {st : List Value} {σ : fg_St}
theorem fg_d0 {i len a b w : Nat} {v : Int32} {ins : Instr} {Q : Int32 → fg_St → Prop} (g : (fg_S l Λ) d i (pc + len) L (.int v :: st) σ Q) (hc : ((match ins with
    | .iconst n => Nat.beq len 1 && decide (Int32.ofInt n = v)
    | .bipush n => Nat.beq len 2 && decide ((Int8.ofInt n).toInt32 = v)
    | .sipush n => Nat.beq len 3 && decide ((Int16.ofInt n).toInt32 = v)
    | .ldc x => Nat.beq len 2 && fg_w w (.constant M.1.cls x v)
    | .ldc_w x => Nat.beq len 3 && fg_w w (.constant M.1.cls x v)
    | _ => false)) = true) (C : fg_Cx Λ Γ d M) (hQ : fg_End Λ Γ M.2.2.2 Q) (hM : fg_mt[i]? = some M) (hd : decode M.2.1 pc = .ok (ins, len)) : fg_Wt l Λ Γ M.2.2.1 pc L st σ := by
  split at hc
  · simp only [Bool.and_eq_true, decide_eq_true_eq] at hc
    obtain ⟨e1, e2⟩ := hc
    cases Nat.eq_of_beq_eq_true e1
    exact fg_o_iconst C hd e2 (g M hM Γ C hQ)
  · simp only [Bool.and_eq_true, decide_eq_true_eq] at hc
    obtain ⟨e1, e2⟩ := hc
    cases Nat.eq_of_beq_eq_true e1
    exact fg_o_bipush C hd e2 (g M hM Γ C hQ)
  · simp only [Bool.and_eq_true, decide_eq_true_eq] at hc
    obtain ⟨e1, e2⟩ := hc
    cases Nat.eq_of_beq_eq_true e1
    exact fg_o_sipush C hd e2 (g M hM Γ C hQ)
  · simp only [Bool.and_eq_true, decide_eq_true_eq] at hc
    obtain ⟨e1, e2⟩ := hc
    cases Nat.eq_of_beq_eq_true e1
    exact fg_o_ldc C hd (fg_w_in e2 rfl) (g M hM Γ C hQ)
  · simp only [Bool.and_eq_true, decide_eq_true_eq] at hc
    obtain ⟨e1, e2⟩ := hc
    cases Nat.eq_of_beq_eq_true e1
    exact fg_o_ldcw C hd (fg_w_in e2 rfl) (g M hM Γ C hQ)
  · cases hc
theorem fg_d1 {i len a b w : Nat} {v : Int32} {ins : Instr} {Q : Int32 → fg_St → Prop} (g : (fg_S l Λ) d i (pc + len) L (.long (Int64.ofNat a) :: st) σ Q) (hc : ((match ins with
    | .lconst n => Nat.beq len 1 && Nat.beq n.val a
    | .ldc2_w x => Nat.beq len 3 && fg_w w (.constantLong M.1.cls x (Int64.ofNat a))
    | _ => false)) = true) (C : fg_Cx Λ Γ d M) (hQ : fg_End Λ Γ M.2.2.2 Q) (hM : fg_mt[i]? = some M) (hd : decode M.2.1 pc = .ok (ins, len)) : fg_Wt l Λ Γ M.2.2.1 pc L st σ := by
  split at hc
  · simp only [Bool.and_eq_true, decide_eq_true_eq] at hc
    obtain ⟨e1, e2⟩ := hc
    cases Nat.eq_of_beq_eq_true e1
    exact fg_o_lconst C hd (by rw [Nat.eq_of_beq_eq_true e2]) (g M hM Γ C hQ)
  · simp only [Bool.and_eq_true, decide_eq_true_eq] at hc
    obtain ⟨e1, e2⟩ := hc
    cases Nat.eq_of_beq_eq_true e1
    exact fg_o_ldc2 C hd (fg_w_in e2 rfl) (g M hM Γ C hQ)
  · cases hc
theorem fg_d2 {i len a b w : Nat} {v : Int32} {ins : Instr} {Q : Int32 → fg_St → Prop} (g : (match L[a]? with
    | some (some (.int x)) => (fg_S l Λ) d i (pc + len) L (.int x :: st) σ Q
    | _ => False)) (hc : ((match ins with
    | .iload_n k => Nat.beq len 1 && Nat.beq k.val a
    | .iload k => Nat.beq len 2 && Nat.beq k a
    | _ => false)) = true) (C : fg_Cx Λ Γ d M) (hQ : fg_End Λ Γ M.2.2.2 Q) (hM : fg_mt[i]? = some M) (hd : decode M.2.1 pc = .ok (ins, len)) : fg_Wt l Λ Γ M.2.2.1 pc L st σ := by
  split at hc
  · simp only [Bool.and_eq_true, decide_eq_true_eq] at hc
    obtain ⟨e1, e2⟩ := hc
    cases Nat.eq_of_beq_eq_true e1
    split at g
    · rename_i e
      exact fg_o_iload_n C hd (Nat.eq_of_beq_eq_true e2) e (g M hM Γ C hQ)
    · exact g.elim
  · simp only [Bool.and_eq_true, decide_eq_true_eq] at hc
    obtain ⟨e1, e2⟩ := hc
    cases Nat.eq_of_beq_eq_true e1
    cases Nat.eq_of_beq_eq_true e2
    split at g
    · rename_i e
      exact fg_o_iload C hd e (g M hM Γ C hQ)
    · exact g.elim
  · cases hc
theorem fg_d3 {i len a b w : Nat} {v : Int32} {ins : Instr} {Q : Int32 → fg_St → Prop} (g : (match L[a]? with
    | some (some (.ref x)) => (fg_S l Λ) d i (pc + len) L (.ref x :: st) σ Q
    | _ => False)) (hc : ((match ins with
    | .aload_n k => Nat.beq len 1 && Nat.beq k.val a
    | .aload k => Nat.beq len 2 && Nat.beq k a
    | _ => false)) = true) (C : fg_Cx Λ Γ d M) (hQ : fg_End Λ Γ M.2.2.2 Q) (hM : fg_mt[i]? = some M) (hd : decode M.2.1 pc = .ok (ins, len)) : fg_Wt l Λ Γ M.2.2.1 pc L st σ := by
  split at hc
  · simp only [Bool.and_eq_true, decide_eq_true_eq] at hc
    obtain ⟨e1, e2⟩ := hc
    cases Nat.eq_of_beq_eq_true e1
    split at g
    · rename_i e
      exact fg_o_aload_n C hd (Nat.eq_of_beq_eq_true e2) e (g M hM Γ C hQ)
    · exact g.elim
  · simp only [Bool.and_eq_true, decide_eq_true_eq] at hc
    obtain ⟨e1, e2⟩ := hc
    cases Nat.eq_of_beq_eq_true e1
    cases Nat.eq_of_beq_eq_true e2
    split at g
    · rename_i e
      exact fg_o_aload C hd e (g M hM Γ C hQ)
    · exact g.elim
  · cases hc
theorem fg_d4 {i len a b w : Nat} {v : Int32} {ins : Instr} {Q : Int32 → fg_St → Prop} (g : (match L[a]? with
    | some (some (.long x)) => (fg_S l Λ) d i (pc + len) L (.long x :: st) σ Q
    | _ => False)) (hc : ((match ins with
    | .lload_n k => Nat.beq len 1 && Nat.beq k.val a
    | .lload k => Nat.beq len 2 && Nat.beq k a
    | _ => false)) = true) (C : fg_Cx Λ Γ d M) (hQ : fg_End Λ Γ M.2.2.2 Q) (hM : fg_mt[i]? = some M) (hd : decode M.2.1 pc = .ok (ins, len)) : fg_Wt l Λ Γ M.2.2.1 pc L st σ := by
  split at hc
  · simp only [Bool.and_eq_true, decide_eq_true_eq] at hc
    obtain ⟨e1, e2⟩ := hc
    cases Nat.eq_of_beq_eq_true e1
    split at g
    · rename_i e
      exact fg_o_lload_n C hd (Nat.eq_of_beq_eq_true e2) e (g M hM Γ C hQ)
    · exact g.elim
  · simp only [Bool.and_eq_true, decide_eq_true_eq] at hc
    obtain ⟨e1, e2⟩ := hc
    cases Nat.eq_of_beq_eq_true e1
    cases Nat.eq_of_beq_eq_true e2
    split at g
    · rename_i e
      exact fg_o_lload C hd e (g M hM Γ C hQ)
    · exact g.elim
  · cases hc
theorem fg_d5 {i len a b w : Nat} {v : Int32} {ins : Instr} {Q : Int32 → fg_St → Prop} (g : (match st with
    | .int x :: r => fg_st1 L a ((fg_S l Λ) d i (pc + len) (L.set a (some (.int x))) r σ Q)
    | _ => False)) (hc : ((match ins with
    | .istore_n k => Nat.beq len 1 && Nat.beq k.val a
    | .istore k => Nat.beq len 2 && Nat.beq k a
    | _ => false)) = true) (C : fg_Cx Λ Γ d M) (hQ : fg_End Λ Γ M.2.2.2 Q) (hM : fg_mt[i]? = some M) (hd : decode M.2.1 pc = .ok (ins, len)) : fg_Wt l Λ Γ M.2.2.1 pc L st σ := by
  split at hc
  · simp only [Bool.and_eq_true, decide_eq_true_eq] at hc
    obtain ⟨e1, e2⟩ := hc
    cases Nat.eq_of_beq_eq_true e1
    split at g
    · obtain ⟨hn, hg, g⟩ := fg_st1_sp g
      exact fg_o_istore_n C hd (Nat.eq_of_beq_eq_true e2) hn hg (g M hM Γ C hQ)
    · exact g.elim
  · simp only [Bool.and_eq_true, decide_eq_true_eq] at hc
    obtain ⟨e1, e2⟩ := hc
    cases Nat.eq_of_beq_eq_true e1
    cases Nat.eq_of_beq_eq_true e2
    split at g
    · obtain ⟨hn, hg, g⟩ := fg_st1_sp g
      exact fg_o_istore C hd hn hg (g M hM Γ C hQ)
    · exact g.elim
  · cases hc
theorem fg_d6 {i len a b w : Nat} {v : Int32} {ins : Instr} {Q : Int32 → fg_St → Prop} (g : (match st with
    | .ref x :: r => fg_st1 L a ((fg_S l Λ) d i (pc + len) (L.set a (some (.ref x))) r σ Q)
    | _ => False)) (hc : ((match ins with
    | .astore_n k => Nat.beq len 1 && Nat.beq k.val a
    | .astore k => Nat.beq len 2 && Nat.beq k a
    | _ => false)) = true) (C : fg_Cx Λ Γ d M) (hQ : fg_End Λ Γ M.2.2.2 Q) (hM : fg_mt[i]? = some M) (hd : decode M.2.1 pc = .ok (ins, len)) : fg_Wt l Λ Γ M.2.2.1 pc L st σ := by
  split at hc
  · simp only [Bool.and_eq_true, decide_eq_true_eq] at hc
    obtain ⟨e1, e2⟩ := hc
    cases Nat.eq_of_beq_eq_true e1
    split at g
    · obtain ⟨hn, hg, g⟩ := fg_st1_sp g
      exact fg_o_astore_n C hd (Nat.eq_of_beq_eq_true e2) hn hg (g M hM Γ C hQ)
    · exact g.elim
  · simp only [Bool.and_eq_true, decide_eq_true_eq] at hc
    obtain ⟨e1, e2⟩ := hc
    cases Nat.eq_of_beq_eq_true e1
    cases Nat.eq_of_beq_eq_true e2
    split at g
    · obtain ⟨hn, hg, g⟩ := fg_st1_sp g
      exact fg_o_astore C hd hn hg (g M hM Γ C hQ)
    · exact g.elim
  · cases hc
theorem fg_d7 {i len a b w : Nat} {v : Int32} {ins : Instr} {Q : Int32 → fg_St → Prop} (g : (match st with
    | .long x :: r => fg_st2 L a ((fg_S l Λ) d i (pc + len) ((L.set a (some (.long x))).set (a + 1) none) r σ Q)
    | _ => False)) (hc : ((match ins with
    | .lstore_n k => Nat.beq len 1 && Nat.beq k.val a
    | .lstore k => Nat.beq len 2 && Nat.beq k a
    | _ => false)) = true) (C : fg_Cx Λ Γ d M) (hQ : fg_End Λ Γ M.2.2.2 Q) (hM : fg_mt[i]? = some M) (hd : decode M.2.1 pc = .ok (ins, len)) : fg_Wt l Λ Γ M.2.2.1 pc L st σ := by
  split at hc
  · simp only [Bool.and_eq_true, decide_eq_true_eq] at hc
    obtain ⟨e1, e2⟩ := hc
    cases Nat.eq_of_beq_eq_true e1
    split at g
    · obtain ⟨hn, hg, g⟩ := fg_st2_sp g
      exact fg_o_lstore_n C hd (Nat.eq_of_beq_eq_true e2) hn hg (g M hM Γ C hQ)
    · exact g.elim
  · simp only [Bool.and_eq_true, decide_eq_true_eq] at hc
    obtain ⟨e1, e2⟩ := hc
    cases Nat.eq_of_beq_eq_true e1
    cases Nat.eq_of_beq_eq_true e2
    split at g
    · obtain ⟨hn, hg, g⟩ := fg_st2_sp g
      exact fg_o_lstore C hd hn hg (g M hM Γ C hQ)
    · exact g.elim
  · cases hc
theorem fg_d8 {i len a b w : Nat} {v : Int32} {ins : Instr} {Q : Int32 → fg_St → Prop} (g : (match L[a]? with
    | some (some (.int x)) => fg_st1 L a ((fg_S l Λ) d i (pc + len) (L.set a (some (.int (x + v)))) st σ Q)
    | _ => False)) (hc : ((match ins with
    | .iinc k n => Nat.beq len 3 && (Nat.beq k a && decide (Int32.ofInt n = v))
    | _ => false)) = true) (C : fg_Cx Λ Γ d M) (hQ : fg_End Λ Γ M.2.2.2 Q) (hM : fg_mt[i]? = some M) (hd : decode M.2.1 pc = .ok (ins, len)) : fg_Wt l Λ Γ M.2.2.1 pc L st σ := by
  split at hc
  · simp only [Bool.and_eq_true, decide_eq_true_eq] at hc
    obtain ⟨e1, e2, e3⟩ := hc
    cases Nat.eq_of_beq_eq_true e1
    cases Nat.eq_of_beq_eq_true e2
    split at g
    · rename_i e
      obtain ⟨hn, hg, g⟩ := fg_st1_sp g
      exact fg_o_iinc C hd e3 e hg (g M hM Γ C hQ)
    · exact g.elim
  · cases hc
theorem fg_d9 {i len a b w : Nat} {v : Int32} {ins : Instr} {Q : Int32 → fg_St → Prop} (hc : ((match b with
    | 0 => Nat.beq len 1 && decide (ins = .iadd)
    | 1 => Nat.beq len 1 && decide (ins = .isub)
    | 2 => Nat.beq len 1 && decide (ins = .imul)
    | 3 => Nat.beq len 1 && decide (ins = .iand)
    | 4 => Nat.beq len 1 && decide (ins = .ior)
    | 5 => Nat.beq len 1 && decide (ins = .ixor)
    | 6 => Nat.beq len 1 && decide (ins = .ishl)
    | 7 => Nat.beq len 1 && decide (ins = .ishr)
    | _ => Nat.beq len 1 && decide (ins = .iushr))) = true) (g : (match st with
    | .int y :: .int x :: r => (fg_S l Λ) d i (pc + len) L (.int (fg_bin b x y) :: r) σ Q
    | _ => False)) (C : fg_Cx Λ Γ d M) (hQ : fg_End Λ Γ M.2.2.2 Q) (hM : fg_mt[i]? = some M) (hd : decode M.2.1 pc = .ok (ins, len)) : fg_Wt l Λ Γ M.2.2.1 pc L st σ := by
  have hb8 : (b = 0 → False) → (b = 1 → False) → (b = 2 → False) → (b = 3 → False) → (b = 4 → False) → (b = 5 → False) → (b = 6 → False) → (b = 7 → False) → ∀ x y, fg_bin b x y = (x.toUInt32 >>> (y.toUInt32 &&& Int32.toUInt32 31)).toInt32 := by
    intro h0 h1 h2 h3 h4 h5 h6 h7 x y
    unfold fg_bin
    split <;> first | (exact absurd rfl h0) | (exact absurd rfl h1) | (exact absurd rfl h2) | (exact absurd rfl h3) | (exact absurd rfl h4) | (exact absurd rfl h5) | (exact absurd rfl h6) | (exact absurd rfl h7) | rfl
  split at hc
  · simp only [Bool.and_eq_true, decide_eq_true_eq] at hc
    obtain ⟨e1, rfl⟩ := hc
    cases Nat.eq_of_beq_eq_true e1
    split at g
    · exact fg_o_iadd C hd (g M hM Γ C hQ)
    · exact g.elim
  · simp only [Bool.and_eq_true, decide_eq_true_eq] at hc
    obtain ⟨e1, rfl⟩ := hc
    cases Nat.eq_of_beq_eq_true e1
    split at g
    · exact fg_o_isub C hd (g M hM Γ C hQ)
    · exact g.elim
  · simp only [Bool.and_eq_true, decide_eq_true_eq] at hc
    obtain ⟨e1, rfl⟩ := hc
    cases Nat.eq_of_beq_eq_true e1
    split at g
    · exact fg_o_imul C hd (g M hM Γ C hQ)
    · exact g.elim
  · simp only [Bool.and_eq_true, decide_eq_true_eq] at hc
    obtain ⟨e1, rfl⟩ := hc
    cases Nat.eq_of_beq_eq_true e1
    split at g
    · exact fg_o_iand C hd (g M hM Γ C hQ)
    · exact g.elim
  · simp only [Bool.and_eq_true, decide_eq_true_eq] at hc
    obtain ⟨e1, rfl⟩ := hc
    cases Nat.eq_of_beq_eq_true e1
    split at g
    · exact fg_o_ior C hd (g M hM Γ C hQ)
    · exact g.elim
  · simp only [Bool.and_eq_true, decide_eq_true_eq] at hc
    obtain ⟨e1, rfl⟩ := hc
    cases Nat.eq_of_beq_eq_true e1
    split at g
    · exact fg_o_ixor C hd (g M hM Γ C hQ)
    · exact g.elim
  · simp only [Bool.and_eq_true, decide_eq_true_eq] at hc
    obtain ⟨e1, rfl⟩ := hc
    cases Nat.eq_of_beq_eq_true e1
    split at g
    · exact fg_o_ishl C hd (g M hM Γ C hQ)
    · exact g.elim
  · simp only [Bool.and_eq_true, decide_eq_true_eq] at hc
    obtain ⟨e1, rfl⟩ := hc
    cases Nat.eq_of_beq_eq_true e1
    split at g
    · exact fg_o_ishr C hd (g M hM Γ C hQ)
    · exact g.elim
  · simp only [Bool.and_eq_true, decide_eq_true_eq] at hc
    obtain ⟨e1, rfl⟩ := hc
    cases Nat.eq_of_beq_eq_true e1
    simp only [hb8 ‹b = 0 → False› ‹b = 1 → False› ‹b = 2 → False› ‹b = 3 → False› ‹b = 4 → False› ‹b = 5 → False› ‹b = 6 → False› ‹b = 7 → False›] at g
    split at g
    · exact fg_o_iushr C hd (g M hM Γ C hQ)
    · exact g.elim
theorem fg_d10 {i len a b w : Nat} {v : Int32} {ins : Instr} {Q : Int32 → fg_St → Prop} (g : (match st with
    | .int y :: .int x :: r => ¬ y = 0 ∧ (fg_S l Λ) d i (pc + len) L (.int (x / y) :: r) σ Q
    | _ => False)) (hc : (Nat.beq len 1 && decide (ins = .idiv)) = true) (C : fg_Cx Λ Γ d M) (hQ : fg_End Λ Γ M.2.2.2 Q) (hM : fg_mt[i]? = some M) (hd : decode M.2.1 pc = .ok (ins, len)) : fg_Wt l Λ Γ M.2.2.1 pc L st σ := by
  simp only [Bool.and_eq_true, decide_eq_true_eq] at hc
  obtain ⟨e1, rfl⟩ := hc
  cases Nat.eq_of_beq_eq_true e1
  split at g
  · exact fg_o_idiv C hd g.1 (g.2 M hM Γ C hQ)
  · exact g.elim
theorem fg_d11 {i len a b w : Nat} {v : Int32} {ins : Instr} {Q : Int32 → fg_St → Prop} (g : (match st with
    | .int y :: .int x :: r => ¬ y = 0 ∧ (fg_S l Λ) d i (pc + len) L (.int (x - x / y * y) :: r) σ Q
    | _ => False)) (hc : (Nat.beq len 1 && decide (ins = .irem)) = true) (C : fg_Cx Λ Γ d M) (hQ : fg_End Λ Γ M.2.2.2 Q) (hM : fg_mt[i]? = some M) (hd : decode M.2.1 pc = .ok (ins, len)) : fg_Wt l Λ Γ M.2.2.1 pc L st σ := by
  simp only [Bool.and_eq_true, decide_eq_true_eq] at hc
  obtain ⟨e1, rfl⟩ := hc
  cases Nat.eq_of_beq_eq_true e1
  split at g
  · exact fg_o_irem C hd g.1 (g.2 M hM Γ C hQ)
  · exact g.elim
theorem fg_d12 {i len a b w : Nat} {v : Int32} {ins : Instr} {Q : Int32 → fg_St → Prop} (g : (match st with
    | .int x :: r => (fg_S l Λ) d i (pc + len) L (.int (-x) :: r) σ Q
    | _ => False)) (hc : (Nat.beq len 1 && decide (ins = .ineg)) = true) (C : fg_Cx Λ Γ d M) (hQ : fg_End Λ Γ M.2.2.2 Q) (hM : fg_mt[i]? = some M) (hd : decode M.2.1 pc = .ok (ins, len)) : fg_Wt l Λ Γ M.2.2.1 pc L st σ := by
  simp only [Bool.and_eq_true, decide_eq_true_eq] at hc
  obtain ⟨e1, rfl⟩ := hc
  cases Nat.eq_of_beq_eq_true e1
  split at g
  · exact fg_o_ineg C hd (g M hM Γ C hQ)
  · exact g.elim
theorem fg_d13 {i len a b w : Nat} {v : Int32} {ins : Instr} {Q : Int32 → fg_St → Prop} (g : (match st with
    | .int x :: r => (fg_S l Λ) d i (pc + len) L (.long x.toInt64 :: r) σ Q
    | _ => False)) (hc : (Nat.beq len 1 && decide (ins = .i2l)) = true) (C : fg_Cx Λ Γ d M) (hQ : fg_End Λ Γ M.2.2.2 Q) (hM : fg_mt[i]? = some M) (hd : decode M.2.1 pc = .ok (ins, len)) : fg_Wt l Λ Γ M.2.2.1 pc L st σ := by
  simp only [Bool.and_eq_true, decide_eq_true_eq] at hc
  obtain ⟨e1, rfl⟩ := hc
  cases Nat.eq_of_beq_eq_true e1
  split at g
  · exact fg_o_i2l C hd (g M hM Γ C hQ)
  · exact g.elim
theorem fg_d14 {i len a b w : Nat} {v : Int32} {ins : Instr} {Q : Int32 → fg_St → Prop} (g : (match st with
    | .long x :: r => (fg_S l Λ) d i (pc + len) L (.int x.toInt32 :: r) σ Q
    | _ => False)) (hc : (Nat.beq len 1 && decide (ins = .l2i)) = true) (C : fg_Cx Λ Γ d M) (hQ : fg_End Λ Γ M.2.2.2 Q) (hM : fg_mt[i]? = some M) (hd : decode M.2.1 pc = .ok (ins, len)) : fg_Wt l Λ Γ M.2.2.1 pc L st σ := by
  simp only [Bool.and_eq_true, decide_eq_true_eq] at hc
  obtain ⟨e1, rfl⟩ := hc
  cases Nat.eq_of_beq_eq_true e1
  split at g
  · exact fg_o_l2i C hd (g M hM Γ C hQ)
  · exact g.elim
theorem fg_d15 {i len a b w : Nat} {v : Int32} {ins : Instr} {Q : Int32 → fg_St → Prop} (hc : ((match b with
    | 0 => Nat.beq len 1 && decide (ins = .ladd)
    | 1 => Nat.beq len 1 && decide (ins = .lmul)
    | _ => Nat.beq len 1 && decide (ins = .land))) = true) (g : (match st with
    | .long y :: .long x :: r => (fg_S l Λ) d i (pc + len) L (.long (fg_lbin b x y) :: r) σ Q
    | _ => False)) (C : fg_Cx Λ Γ d M) (hQ : fg_End Λ Γ M.2.2.2 Q) (hM : fg_mt[i]? = some M) (hd : decode M.2.1 pc = .ok (ins, len)) : fg_Wt l Λ Γ M.2.2.1 pc L st σ := by
  have hb2 : (b = 0 → False) → (b = 1 → False) → ∀ x y, fg_lbin b x y = x &&& y := by
    intro h0 h1 x y
    unfold fg_lbin
    split <;> first | (exact absurd rfl h0) | (exact absurd rfl h1) | rfl
  split at hc
  · simp only [Bool.and_eq_true, decide_eq_true_eq] at hc
    obtain ⟨e1, rfl⟩ := hc
    cases Nat.eq_of_beq_eq_true e1
    split at g
    · exact fg_o_ladd C hd (g M hM Γ C hQ)
    · exact g.elim
  · simp only [Bool.and_eq_true, decide_eq_true_eq] at hc
    obtain ⟨e1, rfl⟩ := hc
    cases Nat.eq_of_beq_eq_true e1
    split at g
    · exact fg_o_lmul C hd (g M hM Γ C hQ)
    · exact g.elim
  · simp only [Bool.and_eq_true, decide_eq_true_eq] at hc
    obtain ⟨e1, rfl⟩ := hc
    cases Nat.eq_of_beq_eq_true e1
    simp only [hb2 ‹b = 0 → False› ‹b = 1 → False›] at g
    split at g
    · exact fg_o_land C hd (g M hM Γ C hQ)
    · exact g.elim
theorem fg_d16 {i len a b w : Nat} {v : Int32} {ins : Instr} {Q : Int32 → fg_St → Prop} (g : (match st with
    | .long y :: .long x :: r => ¬ y = 0 ∧ (fg_S l Λ) d i (pc + len) L (.long (x / y) :: r) σ Q
    | _ => False)) (hc : (Nat.beq len 1 && decide (ins = .ldiv)) = true) (C : fg_Cx Λ Γ d M) (hQ : fg_End Λ Γ M.2.2.2 Q) (hM : fg_mt[i]? = some M) (hd : decode M.2.1 pc = .ok (ins, len)) : fg_Wt l Λ Γ M.2.2.1 pc L st σ := by
  simp only [Bool.and_eq_true, decide_eq_true_eq] at hc
  obtain ⟨e1, rfl⟩ := hc
  cases Nat.eq_of_beq_eq_true e1
  split at g
  · exact fg_o_ldiv C hd g.1 (g.2 M hM Γ C hQ)
  · exact g.elim
theorem fg_d17 {i len a b w : Nat} {v : Int32} {ins : Instr} {Q : Int32 → fg_St → Prop} (g : (match st with
    | .long y :: .long x :: r => ¬ y = 0 ∧ (fg_S l Λ) d i (pc + len) L (.long (x - x / y * y) :: r) σ Q
    | _ => False)) (hc : (Nat.beq len 1 && decide (ins = .lrem)) = true) (C : fg_Cx Λ Γ d M) (hQ : fg_End Λ Γ M.2.2.2 Q) (hM : fg_mt[i]? = some M) (hd : decode M.2.1 pc = .ok (ins, len)) : fg_Wt l Λ Γ M.2.2.1 pc L st σ := by
  simp only [Bool.and_eq_true, decide_eq_true_eq] at hc
  obtain ⟨e1, rfl⟩ := hc
  cases Nat.eq_of_beq_eq_true e1
  split at g
  · exact fg_o_lrem C hd g.1 (g.2 M hM Γ C hQ)
  · exact g.elim
theorem fg_d18 {i len a b w : Nat} {v : Int32} {ins : Instr} {Q : Int32 → fg_St → Prop} (g : (match st with
    | .long y :: .long x :: r => (fg_S l Λ) d i (pc + len) L (.int (lg_cmp x y) :: r) σ Q
    | _ => False)) (hc : (Nat.beq len 1 && decide (ins = .lcmp)) = true) (C : fg_Cx Λ Γ d M) (hQ : fg_End Λ Γ M.2.2.2 Q) (hM : fg_mt[i]? = some M) (hd : decode M.2.1 pc = .ok (ins, len)) : fg_Wt l Λ Γ M.2.2.1 pc L st σ := by
  simp only [Bool.and_eq_true, decide_eq_true_eq] at hc
  obtain ⟨e1, rfl⟩ := hc
  cases Nat.eq_of_beq_eq_true e1
  split at g
  · exact fg_o_lcmp C hd (g M hM Γ C hQ)
  · exact g.elim
theorem fg_d19 {i len a b w : Nat} {v : Int32} {ins : Instr} {Q : Int32 → fg_St → Prop} (g : (match st with
    | .int x :: r => (fg_S l Λ) d i (pc + len) L (.int x :: .int x :: r) σ Q
    | .ref x :: r => (fg_S l Λ) d i (pc + len) L (.ref x :: .ref x :: r) σ Q
    | _ => False)) (hc : (Nat.beq len 1 && decide (ins = .dup)) = true) (C : fg_Cx Λ Γ d M) (hQ : fg_End Λ Γ M.2.2.2 Q) (hM : fg_mt[i]? = some M) (hd : decode M.2.1 pc = .ok (ins, len)) : fg_Wt l Λ Γ M.2.2.1 pc L st σ := by
  simp only [Bool.and_eq_true, decide_eq_true_eq] at hc
  obtain ⟨e1, rfl⟩ := hc
  cases Nat.eq_of_beq_eq_true e1
  split at g
  · exact fg_o_dupi C hd (g M hM Γ C hQ)
  · exact fg_o_dupa C hd (g M hM Γ C hQ)
  · exact g.elim
theorem fg_d20 {i len a b w : Nat} {v : Int32} {ins : Instr} {Q : Int32 → fg_St → Prop} (g : (match st with
    | .int _ :: r => (fg_S l Λ) d i (pc + len) L r σ Q
    | .ref _ :: r => (fg_S l Λ) d i (pc + len) L r σ Q
    | _ => False)) (hc : (Nat.beq len 1 && decide (ins = .pop)) = true) (C : fg_Cx Λ Γ d M) (hQ : fg_End Λ Γ M.2.2.2 Q) (hM : fg_mt[i]? = some M) (hd : decode M.2.1 pc = .ok (ins, len)) : fg_Wt l Λ Γ M.2.2.1 pc L st σ := by
  simp only [Bool.and_eq_true, decide_eq_true_eq] at hc
  obtain ⟨e1, rfl⟩ := hc
  cases Nat.eq_of_beq_eq_true e1
  split at g
  · exact fg_o_popi C hd (g M hM Γ C hQ)
  · exact fg_o_popa C hd (g M hM Γ C hQ)
  · exact g.elim
theorem fg_d21 {i len a b w : Nat} {v : Int32} {ins : Instr} {Q : Int32 → fg_St → Prop} (g : (match st with
    | .int x :: .ref y :: r => (fg_S l Λ) d i (pc + len) L (.int x :: .ref y :: .int x :: .ref y :: r) σ Q
    | _ => False)) (hc : (Nat.beq len 1 && decide (ins = .dup2)) = true) (C : fg_Cx Λ Γ d M) (hQ : fg_End Λ Γ M.2.2.2 Q) (hM : fg_mt[i]? = some M) (hd : decode M.2.1 pc = .ok (ins, len)) : fg_Wt l Λ Γ M.2.2.1 pc L st σ := by
  simp only [Bool.and_eq_true, decide_eq_true_eq] at hc
  obtain ⟨e1, rfl⟩ := hc
  cases Nat.eq_of_beq_eq_true e1
  split at g
  · exact fg_o_dup2 C hd (g M hM Γ C hQ)
  · exact g.elim
theorem fg_d22 {i len a b w : Nat} {v : Int32} {ins : Instr} {Q : Int32 → fg_St → Prop} (g : (fg_S l Λ) d i a L st σ Q) (hc : ((match ins with
    | .goto off => Nat.beq len 3 && decide ((pc : Int) + off = (a : Int))
    | _ => false)) = true) (C : fg_Cx Λ Γ d M) (hQ : fg_End Λ Γ M.2.2.2 Q) (hM : fg_mt[i]? = some M) (hd : decode M.2.1 pc = .ok (ins, len)) : fg_Wt l Λ Γ M.2.2.1 pc L st σ := by
  split at hc
  · simp only [Bool.and_eq_true, decide_eq_true_eq] at hc
    obtain ⟨e1, e2⟩ := hc
    cases Nat.eq_of_beq_eq_true e1
    exact fg_o_goto C hd e2 (g M hM Γ C hQ)
  · cases hc
theorem fg_d23 {i len a b w : Nat} {v : Int32} {ins : Instr} {Q : Int32 → fg_St → Prop} (g : (match st with
    | .int x :: r => (fg_cnd b x 0 → (fg_S l Λ) d i a L r σ Q) ∧ (¬ fg_cnd b x 0 → (fg_S l Λ) d i (pc + len) L r σ Q)
    | _ => False)) (hc : ((match ins with
    | .ifCond o off => Nat.beq len 3 && (Nat.beq (fg_cq o) b && decide ((pc : Int) + off = (a : Int)))
    | _ => false)) = true) (C : fg_Cx Λ Γ d M) (hQ : fg_End Λ Γ M.2.2.2 Q) (hM : fg_mt[i]? = some M) (hd : decode M.2.1 pc = .ok (ins, len)) : fg_Wt l Λ Γ M.2.2.1 pc L st σ := by
  split at hc
  · simp only [Bool.and_eq_true, decide_eq_true_eq] at hc
    obtain ⟨e1, e2, e3⟩ := hc
    cases Nat.eq_of_beq_eq_true e1
    rename_i o off
    have e2 := Nat.eq_of_beq_eq_true e2
    subst e2
    split at g
    · cases o
      · exact fg_o_if_eq C hd e3 (fun q => g.1 q M hM Γ C hQ) (fun q => g.2 q M hM Γ C hQ)
      · exact fg_o_if_ne C hd e3 (fun q => g.1 q M hM Γ C hQ) (fun q => g.2 q M hM Γ C hQ)
      · exact fg_o_if_lt C hd e3 (fun q => g.1 q M hM Γ C hQ) (fun q => g.2 q M hM Γ C hQ)
      · exact fg_o_if_ge C hd e3 (fun q => g.1 q M hM Γ C hQ) (fun q => g.2 q M hM Γ C hQ)
      · exact fg_o_if_gt C hd e3 (fun q => g.1 q M hM Γ C hQ) (fun q => g.2 q M hM Γ C hQ)
      · exact fg_o_if_le C hd e3 (fun q => g.1 q M hM Γ C hQ) (fun q => g.2 q M hM Γ C hQ)
    · exact g.elim
  · cases hc
theorem fg_d24 {i len a b w : Nat} {v : Int32} {ins : Instr} {Q : Int32 → fg_St → Prop} (g : (match st with
    | .int y :: .int x :: r => (fg_cnd b x y → (fg_S l Λ) d i a L r σ Q) ∧ (¬ fg_cnd b x y → (fg_S l Λ) d i (pc + len) L r σ Q)
    | _ => False)) (hc : ((match ins with
    | .if_icmp o off => Nat.beq len 3 && (Nat.beq (fg_cq o) b && decide ((pc : Int) + off = (a : Int)))
    | _ => false)) = true) (C : fg_Cx Λ Γ d M) (hQ : fg_End Λ Γ M.2.2.2 Q) (hM : fg_mt[i]? = some M) (hd : decode M.2.1 pc = .ok (ins, len)) : fg_Wt l Λ Γ M.2.2.1 pc L st σ := by
  split at hc
  · simp only [Bool.and_eq_true, decide_eq_true_eq] at hc
    obtain ⟨e1, e2, e3⟩ := hc
    cases Nat.eq_of_beq_eq_true e1
    rename_i o off
    have e2 := Nat.eq_of_beq_eq_true e2
    subst e2
    split at g
    · cases o
      · exact fg_o_icmp_eq C hd e3 (fun q => g.1 q M hM Γ C hQ) (fun q => g.2 q M hM Γ C hQ)
      · exact fg_o_icmp_ne C hd e3 (fun q => g.1 q M hM Γ C hQ) (fun q => g.2 q M hM Γ C hQ)
      · exact fg_o_icmp_lt C hd e3 (fun q => g.1 q M hM Γ C hQ) (fun q => g.2 q M hM Γ C hQ)
      · exact fg_o_icmp_ge C hd e3 (fun q => g.1 q M hM Γ C hQ) (fun q => g.2 q M hM Γ C hQ)
      · exact fg_o_icmp_gt C hd e3 (fun q => g.1 q M hM Γ C hQ) (fun q => g.2 q M hM Γ C hQ)
      · exact fg_o_icmp_le C hd e3 (fun q => g.1 q M hM Γ C hQ) (fun q => g.2 q M hM Γ C hQ)
    · exact g.elim
  · cases hc
theorem fg_d25 {i len a b w : Nat} {v : Int32} {ins : Instr} {Q : Int32 → fg_St → Prop} (g : (match st with
    | .int x :: r => (match fg_swt[a]? with
      | some q => fg_sw x (fun t => (fg_S l Λ) d i t L r σ Q) q.2 0 q.1
      | none => False)
    | _ => False)) (hc : ((match ins with
    | .tableswitch df lo hi offs => (match fg_swt[a]? with
      | some q => decide (lo = 0) && (decide (hi = (q.1.length : Int) - 1) && (Nat.ble q.1.length 1000 && (decide ((pc : Int) + df = (q.2 : Int)) && decide (offs.toList.map (fun o => (pc : Int) + o) = q.1.map (fun t : Nat => (t : Int))))))
      | none => false)
    | _ => false)) = true) (C : fg_Cx Λ Γ d M) (hQ : fg_End Λ Γ M.2.2.2 Q) (hM : fg_mt[i]? = some M) (hd : decode M.2.1 pc = .ok (ins, len)) : fg_Wt l Λ Γ M.2.2.1 pc L st σ := by
  split at hc
  · split at hc
    · rename_i q hq
      simp only [Bool.and_eq_true, decide_eq_true_eq] at hc
      obtain ⟨e1, e2, e3, e4, e5⟩ := hc
      split at g
      · rw [hq] at g
        exact fg_o_switch C hd e1 e2 (Nat.le_of_ble_eq_true e3) e4 e5 (fg_sw_mono (fun t z => z M hM Γ C hQ) _ _ g)
      · exact g.elim
    · cases hc
  · cases hc
theorem fg_d26 {i len a b w : Nat} {v : Int32} {ins : Instr} {Q : Int32 → fg_St → Prop} (g : (match st with
    | .ref h :: r => fg_kd h = a ∧ (fg_S l Λ) d i (pc + len) L (.int (fg_F σ h b) :: r) σ Q
    | _ => False)) (hc : ((match ins with
    | .getfield x => Nat.beq len 3 && (fg_fk M.1.cls x a b w && !(fg_rf a b))
    | _ => false)) = true) (C : fg_Cx Λ Γ d M) (hQ : fg_End Λ Γ M.2.2.2 Q) (hM : fg_mt[i]? = some M) (hd : decode M.2.1 pc = .ok (ins, len)) : fg_Wt l Λ Γ M.2.2.1 pc L st σ := by
  split at hc
  · simp only [Bool.and_eq_true, Bool.not_eq_true'] at hc
    obtain ⟨e1, e2, e3⟩ := hc
    cases Nat.eq_of_beq_eq_true e1
    obtain ⟨q, hq, hbq, hw⟩ := fg_fk_sp e2
    split at g
    · exact fg_o_get C hd hq hbq hw g.1 (by unfold fg_fv; rw [e3]; rfl) (g.2 M hM Γ C hQ)
    · exact g.elim
  · cases hc
theorem fg_d27 {i len a b w : Nat} {v : Int32} {ins : Instr} {Q : Int32 → fg_St → Prop} (g : (match st with
    | .ref h :: r => fg_kd h = a ∧ (fg_S l Λ) d i (pc + len) L (.ref (fg_pt σ h b) :: r) σ Q
    | _ => False)) (hc : ((match ins with
    | .getfield x => Nat.beq len 3 && (fg_fk M.1.cls x a b w && fg_rf a b)
    | _ => false)) = true) (C : fg_Cx Λ Γ d M) (hQ : fg_End Λ Γ M.2.2.2 Q) (hM : fg_mt[i]? = some M) (hd : decode M.2.1 pc = .ok (ins, len)) : fg_Wt l Λ Γ M.2.2.1 pc L st σ := by
  split at hc
  · simp only [Bool.and_eq_true] at hc
    obtain ⟨e1, e2, e3⟩ := hc
    cases Nat.eq_of_beq_eq_true e1
    obtain ⟨q, hq, hbq, hw⟩ := fg_fk_sp e2
    split at g
    · exact fg_o_get C hd hq hbq hw g.1 (by unfold fg_fv; rw [e3]; rfl) (g.2 M hM Γ C hQ)
    · exact g.elim
  · cases hc
theorem fg_d28 {i len a b w : Nat} {v : Int32} {ins : Instr} {Q : Int32 → fg_St → Prop} (g : (match st with
    | .int x :: .ref h :: r => fg_kd h = a ∧ (fg_S l Λ) d i (pc + len) L r (fg_sF σ h b x) Q
    | _ => False)) (hc : ((match ins with
    | .putfield x => Nat.beq len 3 && (fg_fk M.1.cls x a b w && (!(fg_rf a b) && fg_fp a b .int))
    | _ => false)) = true) (C : fg_Cx Λ Γ d M) (hQ : fg_End Λ Γ M.2.2.2 Q) (hM : fg_mt[i]? = some M) (hd : decode M.2.1 pc = .ok (ins, len)) : fg_Wt l Λ Γ M.2.2.1 pc L st σ := by
  split at hc
  · simp only [Bool.and_eq_true, Bool.not_eq_true'] at hc
    obtain ⟨e1, e2, e3, e4⟩ := hc
    cases Nat.eq_of_beq_eq_true e1
    obtain ⟨q, hq, hbq, hw⟩ := fg_fk_sp e2
    obtain ⟨f1, f2⟩ := fg_fp_sp hq e4
    split at g
    · exact fg_o_put C hd hq hbq hw g.1 f1 f2 rfl rfl (fg_cell_sF g.1 (fg_clok _ _ hq).1 e3).symm (fun z _ hz => fg_cell_sFo z hz) (g.2 M hM Γ C hQ)
    · exact g.elim
  · cases hc
theorem fg_d29 {i len a b w : Nat} {v : Int32} {ins : Instr} {Q : Int32 → fg_St → Prop} (g : (match st with
    | .int x :: .ref h :: r => fg_kd h = a ∧ (x = 0 ∨ x = 1) ∧ (fg_S l Λ) d i (pc + len) L r (fg_sF σ h b x) Q
    | _ => False)) (hc : ((match ins with
    | .putfield x => Nat.beq len 3 && (fg_fk M.1.cls x a b w && (!(fg_rf a b) && fg_fp a b .boolean))
    | _ => false)) = true) (C : fg_Cx Λ Γ d M) (hQ : fg_End Λ Γ M.2.2.2 Q) (hM : fg_mt[i]? = some M) (hd : decode M.2.1 pc = .ok (ins, len)) : fg_Wt l Λ Γ M.2.2.1 pc L st σ := by
  split at hc
  · simp only [Bool.and_eq_true, Bool.not_eq_true'] at hc
    obtain ⟨e1, e2, e3, e4⟩ := hc
    cases Nat.eq_of_beq_eq_true e1
    obtain ⟨q, hq, hbq, hw⟩ := fg_fk_sp e2
    obtain ⟨f1, f2⟩ := fg_fp_sp hq e4
    split at g
    · exact fg_o_put C hd hq hbq hw g.1 f1 f2 (by rcases g.2.1 with rfl | rfl <;> rfl) (by rcases g.2.1 with rfl | rfl <;> rfl) (fg_cell_sF g.1 (fg_clok _ _ hq).1 e3).symm (fun z _ hz => fg_cell_sFo z hz) (g.2.2 M hM Γ C hQ)
    · exact g.elim
  · cases hc
theorem fg_d30 {i len a b w : Nat} {v : Int32} {ins : Instr} {Q : Int32 → fg_St → Prop} (g : (match st with
    | .ref y :: .ref h :: r => h = 0 ∧ (match b with
      | 1 => (fg_S l Λ) d i (pc + len) L r (y, σ.2.1, σ.2.2) Q
      | 2 => (fg_S l Λ) d i (pc + len) L r (σ.1, y, σ.2.2) Q
      | _ => False)
    | _ => False)) (hc : ((match ins with
    | .putfield x => Nat.beq len 3 && (fg_fk M.1.cls x a b w && (Nat.beq a 9 && ((Nat.beq b 1 || Nat.beq b 2) && fg_fp a b (.object "FlagSignals$Ship"))))
    | _ => false)) = true) (C : fg_Cx Λ Γ d M) (hQ : fg_End Λ Γ M.2.2.2 Q) (hM : fg_mt[i]? = some M) (hd : decode M.2.1 pc = .ok (ins, len)) : fg_Wt l Λ Γ M.2.2.1 pc L st σ := by
  split at hc
  · simp only [Bool.and_eq_true, Bool.or_eq_true] at hc
    obtain ⟨e1, e2, e3, e4, e5⟩ := hc
    cases Nat.eq_of_beq_eq_true e1
    obtain ⟨q, hq, hbq, hw⟩ := fg_fk_sp e2
    obtain ⟨f1, f2⟩ := fg_fp_sp hq e5
    have e3 := Nat.eq_of_beq_eq_true e3
    subst e3
    split at g
    · obtain ⟨rfl, g⟩ := g
      rcases e4 with e4 | e4
      · cases Nat.eq_of_beq_eq_true e4
        exact fg_o_put C hd hq hbq hw rfl f1 f2 rfl rfl (fg_cell_s1 _ _ _).symm (fun z hl hz => fg_cell_spo _ _ z hl hz) (g M hM Γ C hQ)
      · cases Nat.eq_of_beq_eq_true e4
        exact fg_o_put C hd hq hbq hw rfl f1 f2 rfl rfl (fg_cell_s2 _ _ _).symm (fun z hl hz => fg_cell_spo _ _ z hl hz) (g M hM Γ C hQ)
    · exact g.elim
  · cases hc
theorem fg_d31 {i len a b w : Nat} {v : Int32} {ins : Instr} {Q : Int32 → fg_St → Prop} (g : (match st with
    | .int j :: .ref h :: r => fg_kd h = 11 ∧ vp_in j (fg_ln h) ∧ (fg_S l Λ) d i (pc + len) L (.int (fg_R σ h j.toNatClampNeg) :: r) σ Q
    | _ => False)) (hc : (Nat.beq len 1 && decide (ins = .iaload)) = true) (C : fg_Cx Λ Γ d M) (hQ : fg_End Λ Γ M.2.2.2 Q) (hM : fg_mt[i]? = some M) (hd : decode M.2.1 pc = .ok (ins, len)) : fg_Wt l Λ Γ M.2.2.1 pc L st σ := by
  simp only [Bool.and_eq_true, decide_eq_true_eq] at hc
  obtain ⟨e1, rfl⟩ := hc
  cases Nat.eq_of_beq_eq_true e1
  split at g
  · exact fg_o_iald C hd g.1 g.2.1 (g.2.2 M hM Γ C hQ)
  · exact g.elim
theorem fg_d32 {i len a b w : Nat} {v : Int32} {ins : Instr} {Q : Int32 → fg_St → Prop} (g : (match st with
    | .int x :: .int j :: .ref h :: r => fg_kd h = 11 ∧ vp_in j (fg_ln h) ∧ (fg_S l Λ) d i (pc + len) L r (fg_sR σ h j.toNatClampNeg x) Q
    | _ => False)) (hc : (Nat.beq len 1 && decide (ins = .iastore)) = true) (C : fg_Cx Λ Γ d M) (hQ : fg_End Λ Γ M.2.2.2 Q) (hM : fg_mt[i]? = some M) (hd : decode M.2.1 pc = .ok (ins, len)) : fg_Wt l Λ Γ M.2.2.1 pc L st σ := by
  simp only [Bool.and_eq_true, decide_eq_true_eq] at hc
  obtain ⟨e1, rfl⟩ := hc
  cases Nat.eq_of_beq_eq_true e1
  split at g
  · exact fg_o_iast C hd g.1 g.2.1 (g.2.2 M hM Γ C hQ)
  · exact g.elim
theorem fg_d33 {i len a b w : Nat} {v : Int32} {ins : Instr} {Q : Int32 → fg_St → Prop} (g : (match st with
    | .int j :: .ref h :: r => fg_kd h = 12 ∧ vp_in j (fg_ln h) ∧ (fg_S l Λ) d i (pc + len) L (.int (fg_R σ h j.toNatClampNeg) :: r) σ Q
    | _ => False)) (hc : (Nat.beq len 1 && decide (ins = .baload)) = true) (C : fg_Cx Λ Γ d M) (hQ : fg_End Λ Γ M.2.2.2 Q) (hM : fg_mt[i]? = some M) (hd : decode M.2.1 pc = .ok (ins, len)) : fg_Wt l Λ Γ M.2.2.1 pc L st σ := by
  simp only [Bool.and_eq_true, decide_eq_true_eq] at hc
  obtain ⟨e1, rfl⟩ := hc
  cases Nat.eq_of_beq_eq_true e1
  split at g
  · exact fg_o_zald C hd g.1 g.2.1 (g.2.2 M hM Γ C hQ)
  · exact g.elim
theorem fg_d34 {i len a b w : Nat} {v : Int32} {ins : Instr} {Q : Int32 → fg_St → Prop} (g : (match st with
    | .int x :: .int j :: .ref h :: r => fg_kd h = 12 ∧ vp_in j (fg_ln h) ∧ (x = 0 ∨ x = 1) ∧ (fg_S l Λ) d i (pc + len) L r (fg_sR σ h j.toNatClampNeg x) Q
    | _ => False)) (hc : (Nat.beq len 1 && decide (ins = .bastore)) = true) (C : fg_Cx Λ Γ d M) (hQ : fg_End Λ Γ M.2.2.2 Q) (hM : fg_mt[i]? = some M) (hd : decode M.2.1 pc = .ok (ins, len)) : fg_Wt l Λ Γ M.2.2.1 pc L st σ := by
  simp only [Bool.and_eq_true, decide_eq_true_eq] at hc
  obtain ⟨e1, rfl⟩ := hc
  cases Nat.eq_of_beq_eq_true e1
  split at g
  · exact fg_o_zast C hd g.1 g.2.1 g.2.2.1 (g.2.2.2 M hM Γ C hQ)
  · exact g.elim
theorem fg_d35 {i len a b w : Nat} {v : Int32} {ins : Instr} {Q : Int32 → fg_St → Prop} (g : (match st with
    | .int j :: .ref h :: r => (fg_kd h = 13 ∨ fg_kd h = 14) ∧ vp_in j (fg_ln h) ∧ (fg_S l Λ) d i (pc + len) L (.ref (fg_ra h j.toNatClampNeg) :: r) σ Q
    | _ => False)) (hc : (Nat.beq len 1 && decide (ins = .aaload)) = true) (C : fg_Cx Λ Γ d M) (hQ : fg_End Λ Γ M.2.2.2 Q) (hM : fg_mt[i]? = some M) (hd : decode M.2.1 pc = .ok (ins, len)) : fg_Wt l Λ Γ M.2.2.1 pc L st σ := by
  simp only [Bool.and_eq_true, decide_eq_true_eq] at hc
  obtain ⟨e1, rfl⟩ := hc
  cases Nat.eq_of_beq_eq_true e1
  split at g
  · exact fg_o_aald C hd g.1 g.2.1 (g.2.2 M hM Γ C hQ)
  · exact g.elim
theorem fg_d36 {i len a b w : Nat} {v : Int32} {ins : Instr} {Q : Int32 → fg_St → Prop} (g : (match st with
    | .ref h :: r => (11 ≤ fg_kd h ∧ fg_kd h ≤ 14) ∧ (fg_S l Λ) d i (pc + len) L (.int (Int32.ofNat (fg_ln h)) :: r) σ Q
    | _ => False)) (hc : (Nat.beq len 1 && decide (ins = .arraylength)) = true) (C : fg_Cx Λ Γ d M) (hQ : fg_End Λ Γ M.2.2.2 Q) (hM : fg_mt[i]? = some M) (hd : decode M.2.1 pc = .ok (ins, len)) : fg_Wt l Λ Γ M.2.2.1 pc L st σ := by
  simp only [Bool.and_eq_true, decide_eq_true_eq] at hc
  obtain ⟨e1, rfl⟩ := hc
  cases Nat.eq_of_beq_eq_true e1
  split at g
  · exact fg_o_alen C hd g.1 (g.2 M hM Γ C hQ)
  · exact g.elim
theorem fg_d37 {i len a b w : Nat} {v : Int32} {ins : Instr} {Q : Int32 → fg_St → Prop} (g : (match fg_pop b [] st with
    | some (As, .ref h :: r) => (fg_mt[a]?.map fun m => m.1.cls) = (vwCl[fg_kd h]?.map fun q => q.1) ∧ fg_call (fg_S l Λ) d a (.ref h :: As) r σ (fun d x u => (fg_S l Λ) d i (pc + len) L (.int x :: r) u Q)
    | _ => False)) (hc : ((match ins with
    | .invokevirtual x => Nat.beq len 3 && (fg_ckc M.1.cls x a b w false && !(fg_sta.getD a false))
    | _ => false)) = true) (C : fg_Cx Λ Γ d M) (hQ : fg_End Λ Γ M.2.2.2 Q) (hM : fg_mt[i]? = some M) (hd : decode M.2.1 pc = .ok (ins, len)) : fg_Wt l Λ Γ M.2.2.1 pc L st σ := by
  split at hc
  · simp only [Bool.and_eq_true, Bool.not_eq_true'] at hc
    obtain ⟨e1, e2, e3⟩ := hc
    cases Nat.eq_of_beq_eq_true e1
    obtain ⟨N, hj, hw, hnp, hri⟩ := fg_ckc_sp e2
    split at g
    · rename_i As h r hp
      obtain ⟨hcl, g⟩ := g
      rw [hj] at hcl
      cases hq : vwCl[fg_kd h]? with
      | none => rw [hq] at hcl; cases hcl
      | some q =>
        rw [hq] at hcl
        have hcl : N.1.cls = q.1 := Option.some.inj hcl
        obtain ⟨d2, P, rfl, hcat, hlen, hs, k⟩ := fg_call_sp hj g
        exact fg_o_callVi C hd hj e3 hw hnp (hri.2 rfl) hp hq hcl hcat hlen hs (fun y u hy => k y u hy M hM Γ C hQ)
    · exact g.elim
  · cases hc
theorem fg_d38 {i len a b w : Nat} {v : Int32} {ins : Instr} {Q : Int32 → fg_St → Prop} (g : (match fg_pop b [] st with
    | some (As, .ref h :: r) => (fg_mt[a]?.map fun m => m.1.cls) = (vwCl[fg_kd h]?.map fun q => q.1) ∧ fg_call (fg_S l Λ) d a (.ref h :: As) r σ (fun d _ u => (fg_S l Λ) d i (pc + len) L r u Q)
    | _ => False)) (hc : ((match ins with
    | .invokevirtual x => Nat.beq len 3 && (fg_ckc M.1.cls x a b w true && !(fg_sta.getD a false))
    | _ => false)) = true) (C : fg_Cx Λ Γ d M) (hQ : fg_End Λ Γ M.2.2.2 Q) (hM : fg_mt[i]? = some M) (hd : decode M.2.1 pc = .ok (ins, len)) : fg_Wt l Λ Γ M.2.2.1 pc L st σ := by
  split at hc
  · simp only [Bool.and_eq_true, Bool.not_eq_true'] at hc
    obtain ⟨e1, e2, e3⟩ := hc
    cases Nat.eq_of_beq_eq_true e1
    obtain ⟨N, hj, hw, hnp, hri⟩ := fg_ckc_sp e2
    split at g
    · rename_i As h r hp
      obtain ⟨hcl, g⟩ := g
      rw [hj] at hcl
      cases hq : vwCl[fg_kd h]? with
      | none => rw [hq] at hcl; cases hcl
      | some q =>
        rw [hq] at hcl
        have hcl : N.1.cls = q.1 := Option.some.inj hcl
        obtain ⟨d2, P, rfl, hcat, hlen, hs, k⟩ := fg_call_sp hj g
        exact fg_o_callVv C hd hj e3 hw hnp (hri.1 rfl) hp hq hcl hcat hlen hs (fun y u hy => k y u hy M hM Γ C hQ)
    · exact g.elim
  · cases hc
theorem fg_d39 {i len a b w : Nat} {v : Int32} {ins : Instr} {Q : Int32 → fg_St → Prop} (g : (match fg_pop b [] st with
    | some (As, r) => fg_call (fg_S l Λ) d a As r σ (fun d x u => (fg_S l Λ) d i (pc + len) L (.int x :: r) u Q)
    | _ => False)) (hc : ((match ins with
    | .invokestatic x => Nat.beq len 3 && (fg_ckc M.1.cls x a b w false && fg_sta.getD a false)
    | _ => false)) = true) (C : fg_Cx Λ Γ d M) (hQ : fg_End Λ Γ M.2.2.2 Q) (hM : fg_mt[i]? = some M) (hd : decode M.2.1 pc = .ok (ins, len)) : fg_Wt l Λ Γ M.2.2.1 pc L st σ := by
  split at hc
  · simp only [Bool.and_eq_true] at hc
    obtain ⟨e1, e2, e3⟩ := hc
    cases Nat.eq_of_beq_eq_true e1
    obtain ⟨N, hj, hw, hnp, hri⟩ := fg_ckc_sp e2
    split at g
    · rename_i As r hp
      obtain ⟨d2, P, rfl, hcat, hlen, hs, k⟩ := fg_call_sp hj g
      exact fg_o_callSi C hd hj e3 hw hnp (hri.2 rfl) hp hcat hlen hs (fun y u hy => k y u hy M hM Γ C hQ)
    · exact g.elim
  · cases hc
theorem fg_d40 {i len a b w : Nat} {v : Int32} {ins : Instr} {Q : Int32 → fg_St → Prop} (g : (match fg_pop b [] st with
    | some (As, r) => fg_call (fg_S l Λ) d a As r σ (fun d _ u => (fg_S l Λ) d i (pc + len) L r u Q)
    | _ => False)) (hc : ((match ins with
    | .invokestatic x => Nat.beq len 3 && (fg_ckc M.1.cls x a b w true && fg_sta.getD a false)
    | _ => false)) = true) (C : fg_Cx Λ Γ d M) (hQ : fg_End Λ Γ M.2.2.2 Q) (hM : fg_mt[i]? = some M) (hd : decode M.2.1 pc = .ok (ins, len)) : fg_Wt l Λ Γ M.2.2.1 pc L st σ := by
  split at hc
  · simp only [Bool.and_eq_true] at hc
    obtain ⟨e1, e2, e3⟩ := hc
    cases Nat.eq_of_beq_eq_true e1
    obtain ⟨N, hj, hw, hnp, hri⟩ := fg_ckc_sp e2
    split at g
    · rename_i As r hp
      obtain ⟨d2, P, rfl, hcat, hlen, hs, k⟩ := fg_call_sp hj g
      exact fg_o_callSv C hd hj e3 hw hnp (hri.1 rfl) hp hcat hlen hs (fun y u hy => k y u hy M hM Γ C hQ)
    · exact g.elim
  · cases hc
theorem fg_d41 {i len a b w : Nat} {v : Int32} {ins : Instr} {Q : Int32 → fg_St → Prop} (g : (match fg_pop b [] st with
    | some (As, r) => fg_call (fg_S l Λ) d a As r σ (fun d x u => (fg_S l Λ) d i (pc + len) L (.int x :: r) u Q)
    | _ => False)) (hc : ((match ins with
    | .invokestatic x => Nat.beq len 3 && ((match fg_mt[a]? with
      | some y => decide (fg_nest[w]? = some (.methodLinkNest M.1.cls x y.1 "FlagSignals")) && (fg_np y.1.desc b && fg_ri y.2.2.2)
      | none => false) && fg_sta.getD a false)
    | _ => false)) = true) (C : fg_Cx Λ Γ d M) (hQ : fg_End Λ Γ M.2.2.2 Q) (hM : fg_mt[i]? = some M) (hd : decode M.2.1 pc = .ok (ins, len)) : fg_Wt l Λ Γ M.2.2.1 pc L st σ := by
  split at hc
  · simp only [Bool.and_eq_true] at hc
    obtain ⟨e1, e2, e3⟩ := hc
    cases Nat.eq_of_beq_eq_true e1
    split at e2
    · rename_i N hj
      simp only [Bool.and_eq_true, decide_eq_true_eq] at e2
      obtain ⟨hw, hnp, hri⟩ := e2
      split at g
      · rename_i As r hp
        obtain ⟨d2, P, rfl, hcat, hlen, hs, k⟩ := fg_call_sp hj g
        exact fg_o_callNi C hd hj e3 (List.mem_of_getElem? hw) (of_decide_eq_true hnp) hri hp hcat hlen hs (fun y u hy => k y u hy M hM Γ C hQ)
      · exact g.elim
    · cases e2
  · cases hc
theorem fg_d42 {i len a b w : Nat} {v : Int32} {ins : Instr} {Q : Int32 → fg_St → Prop} (g : (match st with
    | .int n :: .int dp :: .ref t :: .int sp :: .ref h :: [] => (match d with
      | 0 => False
      | d' + 1 => fg_kd h = 11 ∧ fg_kd t = 11 ∧ (¬ sp < 0 ∧ ¬ dp < 0 ∧ ¬ n < 0) ∧ sp.toNatClampNeg + n.toNatClampNeg ≤ fg_ln h ∧ dp.toNatClampNeg + n.toNatClampNeg ≤ fg_ln t ∧ (fg_S l Λ) (d' + 1) i (pc + len) L [] (σ.1, σ.2.1, σ.2.2.1, va_up σ.2.2.2 t (va_cpy (σ.2.2.2 h) (σ.2.2.2 t) sp.toNatClampNeg dp.toNatClampNeg n.toNatClampNeg)) Q)
    | _ => False)) (hc : ((match ins with
    | .invokestatic x => Nat.beq len 3 && fg_w w (.methodLink M.1.cls x arraycopyName)
    | _ => false)) = true) (C : fg_Cx Λ Γ d M) (hQ : fg_End Λ Γ M.2.2.2 Q) (hM : fg_mt[i]? = some M) (hd : decode M.2.1 pc = .ok (ins, len)) : fg_Wt l Λ Γ M.2.2.1 pc L st σ := by
  split at hc
  · simp only [Bool.and_eq_true] at hc
    obtain ⟨e1, e2⟩ := hc
    cases Nat.eq_of_beq_eq_true e1
    split at g
    · cases d with
      | zero => exact g.elim
      | succ d2 => exact fg_o_acp C hd (fg_w_in e2 rfl) (by omega) g.1 g.2.1 g.2.2.1 g.2.2.2.1 g.2.2.2.2.1 (g.2.2.2.2.2 M hM Γ C hQ)
    · exact g.elim
  · cases hc
theorem fg_d43 {i len a b w : Nat} {v : Int32} {ins : Instr} {Q : Int32 → fg_St → Prop} (g : (match st with
    | [.int x] => Q x σ
    | _ => False)) (hc : (Nat.beq len 1 && (decide (ins = .ireturn) && decide (M.2.2.2 = some .int))) = true) (C : fg_Cx Λ Γ d M) (hQ : fg_End Λ Γ M.2.2.2 Q) (hM : fg_mt[i]? = some M) (hd : decode M.2.1 pc = .ok (ins, len)) : fg_Wt l Λ Γ M.2.2.1 pc L st σ := by
  simp only [Bool.and_eq_true, decide_eq_true_eq] at hc
  obtain ⟨e1, rfl, e3⟩ := hc
  cases Nat.eq_of_beq_eq_true e1
  split at g
  · obtain ⟨p, e, R, s, m, args, below, meth, c, Qc⟩ := Γ
    obtain ⟨hx, hb, hml, hr, hlk, hown, hts, hE, hf, hlo, hin⟩ := C
    intro H locs ls hP hS hl
    exact W.iret hx hb (hr.trans e3) (fun t ht _ => by have := hQ _ _ g t (by rw [ht]; exact hP) (hS.F ht); rw [e3] at this; exact this) hS.2.2 hd hlk
  · exact g.elim
theorem fg_d44 {i len a b w : Nat} {v : Int32} {ins : Instr} {Q : Int32 → fg_St → Prop} (g : (match st with
    | [.int x] => (x = 0 ∨ x = 1) ∧ Q x σ
    | _ => False)) (hc : (Nat.beq len 1 && (decide (ins = .ireturn) && decide (M.2.2.2 = some .boolean))) = true) (C : fg_Cx Λ Γ d M) (hQ : fg_End Λ Γ M.2.2.2 Q) (hM : fg_mt[i]? = some M) (hd : decode M.2.1 pc = .ok (ins, len)) : fg_Wt l Λ Γ M.2.2.1 pc L st σ := by
  simp only [Bool.and_eq_true, decide_eq_true_eq] at hc
  obtain ⟨e1, rfl, e3⟩ := hc
  cases Nat.eq_of_beq_eq_true e1
  split at g
  · obtain ⟨p, e, R, s, m, args, below, meth, c, Qc⟩ := Γ
    obtain ⟨hx, hb, hml, hr, hlk, hown, hts, hE, hf, hlo, hin⟩ := C
    intro H locs ls hP hS hl
    exact W.zret (ty := .boolean) hx hb (hr.trans e3) (by rcases g.1 with rfl | rfl <;> decide) (fun t ht _ => by have := hQ _ _ g.2 t (by rw [ht]; exact hP) (hS.F ht); rw [e3] at this; exact this) hS.2.2 hd hlk
  · exact g.elim
theorem fg_d45 {i len a b w : Nat} {v : Int32} {ins : Instr} {Q : Int32 → fg_St → Prop} (g : (match st with
    | [] => Q 0 σ
    | _ => False)) (hc : (Nat.beq len 1 && (decide (ins = .return_) && decide (M.2.2.2 = none))) = true) (C : fg_Cx Λ Γ d M) (hQ : fg_End Λ Γ M.2.2.2 Q) (hM : fg_mt[i]? = some M) (hd : decode M.2.1 pc = .ok (ins, len)) : fg_Wt l Λ Γ M.2.2.1 pc L st σ := by
  simp only [Bool.and_eq_true, decide_eq_true_eq] at hc
  obtain ⟨e1, rfl, e3⟩ := hc
  cases Nat.eq_of_beq_eq_true e1
  split at g
  · obtain ⟨p, e, R, s, m, args, below, meth, c, Qc⟩ := Γ
    obtain ⟨hx, hb, hml, hr, hlk, hown, hts, hE, hf, hlo, hin⟩ := C
    intro H locs ls hP hS hl
    exact W.vret hx hb (hr.trans e3) (fun t ht _ => by have := hQ _ _ g t (by rw [ht]; exact hP) (hS.F ht); rw [e3] at this; exact this) hS.2.2 hd hlk
  · exact g.elim
theorem fg_d46 {i len a b w : Nat} {v : Int32} {ins : Instr} {Q : Int32 → fg_St → Prop} (g : (match st with
    | .int y :: .int x :: r => fg_m1 d r ((fg_S l Λ) d i (pc + len) L (.int (if y < x then y else x) :: r) σ Q)
    | _ => False)) (hc : ((match ins with
    | .invokestatic x => Nat.beq len 3 && fg_w w (.methodLink M.1.cls x Lib.Math.min.name)
    | _ => false)) = true) (C : fg_Cx Λ Γ d M) (hQ : fg_End Λ Γ M.2.2.2 Q) (hM : fg_mt[i]? = some M) (hd : decode M.2.1 pc = .ok (ins, len)) : fg_Wt l Λ Γ M.2.2.1 pc L st σ := by
  split at hc
  · simp only [Bool.and_eq_true] at hc
    obtain ⟨e1, e2⟩ := hc
    cases Nat.eq_of_beq_eq_true e1
    split at g
    · obtain ⟨h1, h2, g⟩ := fg_m1_sp g
      exact fg_o_min C hd (fg_w_in e2 rfl) h1 h2 (g M hM Γ C hQ)
    · exact g.elim
  · cases hc
theorem fg_d47 {i len a b w : Nat} {v : Int32} {ins : Instr} {Q : Int32 → fg_St → Prop} (g : (match st with
    | .int y :: .int x :: r => fg_m1 d r ((fg_S l Λ) d i (pc + len) L (.int (if x < y then y else x) :: r) σ Q)
    | _ => False)) (hc : ((match ins with
    | .invokestatic x => Nat.beq len 3 && fg_w w (.methodLink M.1.cls x Lib.Math.max.name)
    | _ => false)) = true) (C : fg_Cx Λ Γ d M) (hQ : fg_End Λ Γ M.2.2.2 Q) (hM : fg_mt[i]? = some M) (hd : decode M.2.1 pc = .ok (ins, len)) : fg_Wt l Λ Γ M.2.2.1 pc L st σ := by
  split at hc
  · simp only [Bool.and_eq_true] at hc
    obtain ⟨e1, e2⟩ := hc
    cases Nat.eq_of_beq_eq_true e1
    split at g
    · obtain ⟨h1, h2, g⟩ := fg_m1_sp g
      exact fg_o_max C hd (fg_w_in e2 rfl) h1 h2 (g M hM Γ C hQ)
    · exact g.elim
  · cases hc
theorem fg_disp {i len a b w op : Nat} {v : Int32} {ins : Instr} {Q : Int32 → fg_St → Prop} (C : fg_Cx Λ Γ d M) (hQ : fg_End Λ Γ M.2.2.2 Q) (hM : fg_mt[i]? = some M) (hd : decode M.2.1 pc = .ok (ins, len)) (hc : fg_cki M.1.cls M.2.2.2 pc len ins op a b v w = true) (g : fg_op (fg_S l Λ) d i (pc + len) a b v L st σ Q op) : fg_Wt l Λ Γ M.2.2.1 pc L st σ := by
  by_cases h0 : op = 0
  · subst h0
    exact fg_d0 (a := a) (b := b) (w := w) (v := v) (g := g) (hc := hc) C hQ hM hd
  by_cases h1 : op = 1
  · subst h1
    exact fg_d1 (a := a) (b := b) (w := w) (v := v) (g := g) (hc := hc) C hQ hM hd
  by_cases h2 : op = 2
  · subst h2
    exact fg_d2 (a := a) (b := b) (w := w) (v := v) (g := g) (hc := hc) C hQ hM hd
  by_cases h3 : op = 3
  · subst h3
    exact fg_d3 (a := a) (b := b) (w := w) (v := v) (g := g) (hc := hc) C hQ hM hd
  by_cases h4 : op = 4
  · subst h4
    exact fg_d4 (a := a) (b := b) (w := w) (v := v) (g := g) (hc := hc) C hQ hM hd
  by_cases h5 : op = 5
  · subst h5
    exact fg_d5 (a := a) (b := b) (w := w) (v := v) (g := g) (hc := hc) C hQ hM hd
  by_cases h6 : op = 6
  · subst h6
    exact fg_d6 (a := a) (b := b) (w := w) (v := v) (g := g) (hc := hc) C hQ hM hd
  by_cases h7 : op = 7
  · subst h7
    exact fg_d7 (a := a) (b := b) (w := w) (v := v) (g := g) (hc := hc) C hQ hM hd
  by_cases h8 : op = 8
  · subst h8
    exact fg_d8 (a := a) (b := b) (w := w) (v := v) (g := g) (hc := hc) C hQ hM hd
  by_cases h9 : op = 9
  · subst h9
    exact fg_d9 (a := a) (b := b) (w := w) (v := v) (g := g) (hc := hc) C hQ hM hd
  by_cases h10 : op = 10
  · subst h10
    exact fg_d10 (a := a) (b := b) (w := w) (v := v) (g := g) (hc := hc) C hQ hM hd
  by_cases h11 : op = 11
  · subst h11
    exact fg_d11 (a := a) (b := b) (w := w) (v := v) (g := g) (hc := hc) C hQ hM hd
  by_cases h12 : op = 12
  · subst h12
    exact fg_d12 (a := a) (b := b) (w := w) (v := v) (g := g) (hc := hc) C hQ hM hd
  by_cases h13 : op = 13
  · subst h13
    exact fg_d13 (a := a) (b := b) (w := w) (v := v) (g := g) (hc := hc) C hQ hM hd
  by_cases h14 : op = 14
  · subst h14
    exact fg_d14 (a := a) (b := b) (w := w) (v := v) (g := g) (hc := hc) C hQ hM hd
  by_cases h15 : op = 15
  · subst h15
    exact fg_d15 (a := a) (b := b) (w := w) (v := v) (g := g) (hc := hc) C hQ hM hd
  by_cases h16 : op = 16
  · subst h16
    exact fg_d16 (a := a) (b := b) (w := w) (v := v) (g := g) (hc := hc) C hQ hM hd
  by_cases h17 : op = 17
  · subst h17
    exact fg_d17 (a := a) (b := b) (w := w) (v := v) (g := g) (hc := hc) C hQ hM hd
  by_cases h18 : op = 18
  · subst h18
    exact fg_d18 (a := a) (b := b) (w := w) (v := v) (g := g) (hc := hc) C hQ hM hd
  by_cases h19 : op = 19
  · subst h19
    exact fg_d19 (a := a) (b := b) (w := w) (v := v) (g := g) (hc := hc) C hQ hM hd
  by_cases h20 : op = 20
  · subst h20
    exact fg_d20 (a := a) (b := b) (w := w) (v := v) (g := g) (hc := hc) C hQ hM hd
  by_cases h21 : op = 21
  · subst h21
    exact fg_d21 (a := a) (b := b) (w := w) (v := v) (g := g) (hc := hc) C hQ hM hd
  by_cases h22 : op = 22
  · subst h22
    exact fg_d22 (a := a) (b := b) (w := w) (v := v) (g := g) (hc := hc) C hQ hM hd
  by_cases h23 : op = 23
  · subst h23
    exact fg_d23 (a := a) (b := b) (w := w) (v := v) (g := g) (hc := hc) C hQ hM hd
  by_cases h24 : op = 24
  · subst h24
    exact fg_d24 (a := a) (b := b) (w := w) (v := v) (g := g) (hc := hc) C hQ hM hd
  by_cases h25 : op = 25
  · subst h25
    exact fg_d25 (a := a) (b := b) (w := w) (v := v) (g := g) (hc := hc) C hQ hM hd
  by_cases h26 : op = 26
  · subst h26
    exact fg_d26 (a := a) (b := b) (w := w) (v := v) (g := g) (hc := hc) C hQ hM hd
  by_cases h27 : op = 27
  · subst h27
    exact fg_d27 (a := a) (b := b) (w := w) (v := v) (g := g) (hc := hc) C hQ hM hd
  by_cases h28 : op = 28
  · subst h28
    exact fg_d28 (a := a) (b := b) (w := w) (v := v) (g := g) (hc := hc) C hQ hM hd
  by_cases h29 : op = 29
  · subst h29
    exact fg_d29 (a := a) (b := b) (w := w) (v := v) (g := g) (hc := hc) C hQ hM hd
  by_cases h30 : op = 30
  · subst h30
    exact fg_d30 (a := a) (b := b) (w := w) (v := v) (g := g) (hc := hc) C hQ hM hd
  by_cases h31 : op = 31
  · subst h31
    exact fg_d31 (a := a) (b := b) (w := w) (v := v) (g := g) (hc := hc) C hQ hM hd
  by_cases h32 : op = 32
  · subst h32
    exact fg_d32 (a := a) (b := b) (w := w) (v := v) (g := g) (hc := hc) C hQ hM hd
  by_cases h33 : op = 33
  · subst h33
    exact fg_d33 (a := a) (b := b) (w := w) (v := v) (g := g) (hc := hc) C hQ hM hd
  by_cases h34 : op = 34
  · subst h34
    exact fg_d34 (a := a) (b := b) (w := w) (v := v) (g := g) (hc := hc) C hQ hM hd
  by_cases h35 : op = 35
  · subst h35
    exact fg_d35 (a := a) (b := b) (w := w) (v := v) (g := g) (hc := hc) C hQ hM hd
  by_cases h36 : op = 36
  · subst h36
    exact fg_d36 (a := a) (b := b) (w := w) (v := v) (g := g) (hc := hc) C hQ hM hd
  by_cases h37 : op = 37
  · subst h37
    exact fg_d37 (a := a) (b := b) (w := w) (v := v) (g := g) (hc := hc) C hQ hM hd
  by_cases h38 : op = 38
  · subst h38
    exact fg_d38 (a := a) (b := b) (w := w) (v := v) (g := g) (hc := hc) C hQ hM hd
  by_cases h39 : op = 39
  · subst h39
    exact fg_d39 (a := a) (b := b) (w := w) (v := v) (g := g) (hc := hc) C hQ hM hd
  by_cases h40 : op = 40
  · subst h40
    exact fg_d40 (a := a) (b := b) (w := w) (v := v) (g := g) (hc := hc) C hQ hM hd
  by_cases h41 : op = 41
  · subst h41
    exact fg_d41 (a := a) (b := b) (w := w) (v := v) (g := g) (hc := hc) C hQ hM hd
  by_cases h42 : op = 42
  · subst h42
    exact fg_d42 (a := a) (b := b) (w := w) (v := v) (g := g) (hc := hc) C hQ hM hd
  by_cases h43 : op = 43
  · subst h43
    exact fg_d43 (a := a) (b := b) (w := w) (v := v) (g := g) (hc := hc) C hQ hM hd
  by_cases h44 : op = 44
  · subst h44
    exact fg_d44 (a := a) (b := b) (w := w) (v := v) (g := g) (hc := hc) C hQ hM hd
  by_cases h45 : op = 45
  · subst h45
    exact fg_d45 (a := a) (b := b) (w := w) (v := v) (g := g) (hc := hc) C hQ hM hd
  by_cases h46 : op = 46
  · subst h46
    exact fg_d46 (a := a) (b := b) (w := w) (v := v) (g := g) (hc := hc) C hQ hM hd
  by_cases h47 : op = 47
  · subst h47
    exact fg_d47 (a := a) (b := b) (w := w) (v := v) (g := g) (hc := hc) C hQ hM hd
  exfalso
  unfold fg_cki at hc
  split at hc <;> first | contradiction | cases hc
theorem fg_look_mem {pc : Nat} {q : Nat × Nat × Nat × Nat × Int32 × Nat} : ∀ c : List fg_I, fg_look c pc = some q → (pc, q) ∈ c := by
  intro c
  induction c with
  | nil => intro h; cases h
  | cons r t ih =>
    intro h
    obtain ⟨z, r⟩ := r
    unfold fg_look at h
    split at h
    · rename_i e
      cases h
      rw [Nat.eq_of_beq_eq_true e]
      exact List.mem_cons_self
    · exact List.mem_cons_of_mem _ (ih h)
theorem fg_step {i : Nat} {Q : Int32 → fg_St → Prop} (g : fg_G (fg_S l Λ) d i pc L st σ Q) : fg_S l Λ d i pc L st σ Q := by
  intro M hM Γ C hQ
  unfold fg_G at g
  split at g
  · exact g.elim
  · rename_i q hq
    have hin := fg_look_mem _ hq
    have hck := fg_cks i (fg_mfacts hM).1
    unfold fg_ckm at hck
    rw [hM] at hck
    have hck := List.all_eq_true.mp hck _ hin
    unfold fg_ckI at hck
    dsimp only at hck
    split at hck
    · rename_i r hr
      simp only [Bool.and_eq_true] at hck
      obtain ⟨h1, h2⟩ := hck
      have h1 := Nat.eq_of_beq_eq_true h1
      rw [h1] at g
      exact fg_disp C hQ hM hr h2 g
    · cases hck
/-- WHAT RUNS IS SO -/
theorem fg_sound {i : Nat} {Q : Int32 → fg_St → Prop} (r : fg_Run d i pc L st σ Q) : fg_S l Λ d i pc L st σ Q := r (fg_S l Λ) (fun _ _ _ _ _ _ _ g => fg_step g)
end
