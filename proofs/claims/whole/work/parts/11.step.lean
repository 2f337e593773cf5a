/-! EACH STEP OF THE ABSTRACT MACHINE IS A STEP OF THE REAL ONE (laid by wip/whole/gendisp.py) -/
theorem fg_st1_sp {L : List (Option Value)} {a : Nat} {P : Prop} (g : fg_st1 L a P) : a < L.length ∧ fg_lgb L a = false ∧ P := by
  unfold fg_st1 at g
  split at g
  · rename_i e
    simp only [Bool.and_eq_true, Bool.not_eq_true'] at e
    exact ⟨Nat.le_of_ble_eq_true e.1, e.2, g⟩
  · exact g.elim
theorem fg_st2_sp {L : List (Option Value)} {a : Nat} {P : Prop} (g : fg_st2 L a P) : a + 1 < L.length ∧ fg_lgb L a = false ∧ P := by
  unfold fg_st2 at g
  split at g
  · rename_i e
    simp only [Bool.and_eq_true, Bool.not_eq_true'] at e
    exact ⟨Nat.le_of_ble_eq_true e.1, e.2, g⟩
  · exact g.elim
theorem fg_m1_sp {d : Nat} {r : List Value} {P : Prop} (g : fg_m1 d r P) : 1 ≤ d ∧ fg_cat r ≤ 8 ∧ P := by
  unfold fg_m1 at g
  split at g
  · rename_i e
    cases d with
    | zero => exact g.elim
    | succ d => exact ⟨by omega, Nat.le_of_ble_eq_true e, g⟩
  · exact g.elim
theorem fg_fk_sp {own : String} {x a b w : Nat} (h : fg_fk own x a b w = true) : ∃ q : vw_C, vwCl[a]? = some q ∧ b < q.2.2 ∧ Jvm.Cond.fieldLink own x (q.2.1 b).1 (q.2.1 b).2.1 (q.2.1 b).2.2.1 ∈ fg_T := by
  unfold fg_fk at h
  split at h
  · rename_i q e
    simp only [Bool.and_eq_true, decide_eq_true_eq] at h
    exact ⟨q, e, h.1, fg_w_in h.2 rfl⟩
  · cases h
theorem fg_fp_sp {a b : Nat} {ty : FieldType} {q : vw_C} (hq : vwCl[a]? = some q) (h : fg_fp a b ty = true) : (q.2.1 b).2.2.2 = false ∧ parseFieldDescriptor (q.2.1 b).2.2.1 = some ty := by
  unfold fg_fp at h
  rw [hq] at h
  simp only [Bool.and_eq_true, decide_eq_true_eq] at h
  exact h
theorem fg_ckc_sp {own : String} {x a b w : Nat} {z : Bool} (h : fg_ckc own x a b w z = true) : ∃ N : fg_M, fg_mt[a]? = some N ∧ Jvm.Cond.methodLink own x N.1 ∈ fg_T ∧ (parseMethodDescriptor N.1.desc).map (fun d => d.parameters.length) = some b ∧ (match z with | true => fg_rz N.2.2.2 | false => fg_ri N.2.2.2) = true := by
  unfold fg_ckc at h
  split at h
  · rename_i N e
    simp only [Bool.and_eq_true] at h
    exact ⟨N, e, fg_w_in h.1 rfl, of_decide_eq_true h.2.1, h.2.2⟩
  · cases h
theorem fg_call_sp {S : fg_P} {d a : Nat} {As r : List Value} {σ : fg_St} {K : Nat → Int32 → fg_St → Prop} {N : fg_M} (hj : fg_mt[a]? = some N) (g : fg_call S d a As r σ K) : ∃ (d2 : Nat) (P : Int32 → fg_St → Prop), d = d2 + 1 ∧ fg_cat r ≤ 8 ∧ (fg_fl As).length ≤ N.2.2.1 ∧ S d2 a 0 (fg_ent N.2.2.1 As) [] σ P ∧ ∀ y u, P y u → K (d2 + 1) y u := by
  have hm : fg_ml a = N.2.2.1 := by unfold fg_ml; rw [hj]
  unfold fg_call at g
  rw [hm] at g
  split at g
  · rename_i e
    simp only [Bool.and_eq_true] at e
    cases d with
    | zero => exact g.elim
    | succ d2 =>
      obtain ⟨P, h1, h2⟩ := g
      exact ⟨d2, P, rfl, Nat.le_of_ble_eq_true e.1, Nat.le_of_ble_eq_true e.2, h1, h2⟩
  · exact g.elim
theorem fg_cell_spo {Λ : fg_La} {σ : fg_St} (y z : Nat) (g : Nat) (hl : g < 209) (hg : g ≠ 0) : fg_cell Λ (y, z, σ.2.2) g = fg_cell Λ σ g := by
  have h9 : fg_kd g ≠ 9 := fun e => hg (fg_kd9 g hl e)
  have : fg_fv Λ.1 (y, z, σ.2.2) g (fg_kd g) = fg_fv Λ.1 σ g (fg_kd g) := by
    funext j
    unfold fg_fv
    cases fg_rf (fg_kd g) j
    · rfl
    · show Value.ref (Λ.1 (fg_pt _ g j)) = Value.ref (Λ.1 (fg_pt _ g j))
      congr 2
      unfold fg_pt
      split <;> first | rfl | (rename_i e; exact absurd e h9)
  unfold fg_cell
  rw [this]
theorem fg_cell_s1 (Λ : fg_La) (σ : fg_St) (y : Nat) : fg_cell Λ (y, σ.2.1, σ.2.2) 0 = Sum.inr (9, ((List.range (fg_nf.getD 9 0)).map (fg_fv Λ.1 σ 0 9)).set 1 (fg_cv Λ.1 (.ref y))) := by
  rw [fg_cell_o (c := 9) rfl (by decide)]
  rfl
theorem fg_cell_s2 (Λ : fg_La) (σ : fg_St) (y : Nat) : fg_cell Λ (σ.1, y, σ.2.2) 0 = Sum.inr (9, ((List.range (fg_nf.getD 9 0)).map (fg_fv Λ.1 σ 0 9)).set 2 (fg_cv Λ.1 (.ref y))) := by
  rw [fg_cell_o (c := 9) rfl (by decide)]
  rfl
section
variable {l : Launch} {Λ : fg_La} {Γ : fg_Ga} {d pc : Nat} {M : fg_M} {L : List (Option Value)} {st : List Value} {σ : fg_St}
theorem fg_d0 {i len a b w : Nat} {v : Int32} {ins : Instr} {Q : Int32 → fg_St → Prop} (C : fg_Cx Λ Γ d M) (hQ : fg_End Λ Γ M.2.2.2 Q) (hM : fg_mt[i]? = some M) (hd : decode M.2.1 pc = .ok (ins, len)) (hc : fg_cki M.1.cls M.2.2.2 pc len ins 0 a b v w = true) (g : fg_op (fg_S l Λ) d i (pc + len) a b v L st σ Q 0) : fg_Wt l Λ Γ M.2.2.1 pc L st σ := by
  unfold fg_cki at hc
  unfold fg_op at g
  dsimp only at hc g
  split at hc
  · simp only [Bool.and_eq_true, decide_eq_true_eq] at hc
    obtain ⟨e1, e2⟩ := hc
    cases Nat.eq_of_beq_eq_true e1
    exact fg_o_iconst C hd e2 (g M hM Γ C hQ)
  · simp only [Bool.and_eq_true, decide_eq_true_eq] at hc
    obtain ⟨e1, e2⟩ := hc
    cases Nat.eq_of_beq_eq_true e1
    exact fg_o_bipush C hd e2 (g M hM Γ C hQ)
  · simp only [Bool.and_eq_true, decide_eq_true_eq] at hc
    obtain ⟨e1, e2⟩ := hc
    cases Nat.eq_of_beq_eq_true e1
    exact fg_o_sipush C hd e2 (g M hM Γ C hQ)
  · simp only [Bool.and_eq_true, decide_eq_true_eq] at hc
    obtain ⟨e1, e2⟩ := hc
    cases Nat.eq_of_beq_eq_true e1
    exact fg_o_ldc C hd (fg_w_in e2 rfl) (g M hM Γ C hQ)
  · simp only [Bool.and_eq_true, decide_eq_true_eq] at hc
    obtain ⟨e1, e2⟩ := hc
    cases Nat.eq_of_beq_eq_true e1
    exact fg_o_ldcw C hd (fg_w_in e2 rfl) (g M hM Γ C hQ)
  · cases hc
theorem fg_d1 {i len a b w : Nat} {v : Int32} {ins : Instr} {Q : Int32 → fg_St → Prop} (C : fg_Cx Λ Γ d M) (hQ : fg_End Λ Γ M.2.2.2 Q) (hM : fg_mt[i]? = some M) (hd : decode M.2.1 pc = .ok (ins, len)) (hc : fg_cki M.1.cls M.2.2.2 pc len ins 1 a b v w = true) (g : fg_op (fg_S l Λ) d i (pc + len) a b v L st σ Q 1) : fg_Wt l Λ Γ M.2.2.1 pc L st σ := by
  unfold fg_cki at hc
  unfold fg_op at g
  dsimp only at hc g
  split at hc
  · simp only [Bool.and_eq_true, decide_eq_true_eq] at hc
    obtain ⟨e1, e2⟩ := hc
    cases Nat.eq_of_beq_eq_true e1
    exact fg_o_lconst C hd (by rw [Nat.eq_of_beq_eq_true e2]) (g M hM Γ C hQ)
  · simp only [Bool.and_eq_true, decide_eq_true_eq] at hc
    obtain ⟨e1, e2⟩ := hc
    cases Nat.eq_of_beq_eq_true e1
    exact fg_o_ldc2 C hd (fg_w_in e2 rfl) (g M hM Γ C hQ)
  · cases hc
theorem fg_d2 {i len a b w : Nat} {v : Int32} {ins : Instr} {Q : Int32 → fg_St → Prop} (C : fg_Cx Λ Γ d M) (hQ : fg_End Λ Γ M.2.2.2 Q) (hM : fg_mt[i]? = some M) (hd : decode M.2.1 pc = .ok (ins, len)) (hc : fg_cki M.1.cls M.2.2.2 pc len ins 2 a b v w = true) (g : fg_op (fg_S l Λ) d i (pc + len) a b v L st σ Q 2) : fg_Wt l Λ Γ M.2.2.1 pc L st σ := by
  unfold fg_cki at hc
  unfold fg_op at g
  dsimp only at hc g
  split at hc
  · simp only [Bool.and_eq_true, decide_eq_true_eq] at hc
    obtain ⟨e1, e2⟩ := hc
    cases Nat.eq_of_beq_eq_true e1
    split at g
    · rename_i e
      exact fg_o_iload_n C hd (Nat.eq_of_beq_eq_true e2) e (g M hM Γ C hQ)
    · exact g.elim
  · simp only [Bool.and_eq_true, decide_eq_true_eq] at hc
    obtain ⟨e1, e2⟩ := hc
    cases Nat.eq_of_beq_eq_true e1
    cases Nat.eq_of_beq_eq_true e2
    split at g
    · rename_i e
      exact fg_o_iload C hd e (g M hM Γ C hQ)
    · exact g.elim
  · cases hc
theorem fg_d3 {i len a b w : Nat} {v : Int32} {ins : Instr} {Q : Int32 → fg_St → Prop} (C : fg_Cx Λ Γ d M) (hQ : fg_End Λ Γ M.2.2.2 Q) (hM : fg_mt[i]? = some M) (hd : decode M.2.1 pc = .ok (ins, len)) (hc : fg_cki M.1.cls M.2.2.2 pc len ins 3 a b v w = true) (g : fg_op (fg_S l Λ) d i (pc + len) a b v L st σ Q 3) : fg_Wt l Λ Γ M.2.2.1 pc L st σ := by
  unfold fg_cki at hc
  unfold fg_op at g
  dsimp only at hc g
  split at hc
  · simp only [Bool.and_eq_true, decide_eq_true_eq] at hc
    obtain ⟨e1, e2⟩ := hc
    cases Nat.eq_of_beq_eq_true e1
    split at g
    · rename_i e
      exact fg_o_aload_n C hd (Nat.eq_of_beq_eq_true e2) e (g M hM Γ C hQ)
    · exact g.elim
  · simp only [Bool.and_eq_true, decide_eq_true_eq] at hc
    obtain ⟨e1, e2⟩ := hc
    cases Nat.eq_of_beq_eq_true e1
    cases Nat.eq_of_beq_eq_true e2
    split at g
    · rename_i e
      exact fg_o_aload C hd e (g M hM Γ C hQ)
    · exact g.elim
  · cases hc
theorem fg_d4 {i len a b w : Nat} {v : Int32} {ins : Instr} {Q : Int32 → fg_St → Prop} (C : fg_Cx Λ Γ d M) (hQ : fg_End Λ Γ M.2.2.2 Q) (hM : fg_mt[i]? = some M) (hd : decode M.2.1 pc = .ok (ins, len)) (hc : fg_cki M.1.cls M.2.2.2 pc len ins 4 a b v w = true) (g : fg_op (fg_S l Λ) d i (pc + len) a b v L st σ Q 4) : fg_Wt l Λ Γ M.2.2.1 pc L st σ := by
  unfold fg_cki at hc
  unfold fg_op at g
  dsimp only at hc g
  split at hc
  · simp only [Bool.and_eq_true, decide_eq_true_eq] at hc
    obtain ⟨e1, e2⟩ := hc
    cases Nat.eq_of_beq_eq_true e1
    split at g
    · rename_i e
      exact fg_o_lload_n C hd (Nat.eq_of_beq_eq_true e2) e (g M hM Γ C hQ)
    · exact g.elim
  · simp only [Bool.and_eq_true, decide_eq_true_eq] at hc
    obtain ⟨e1, e2⟩ := hc
    cases Nat.eq_of_beq_eq_true e1
    cases Nat.eq_of_beq_eq_true e2
    split at g
    · rename_i e
      exact fg_o_lload C hd e (g M hM Γ C hQ)
    · exact g.elim
  · cases hc
theorem fg_d5 {i len a b w : Nat} {v : Int32} {ins : Instr} {Q : Int32 → fg_St → Prop} (C : fg_Cx Λ Γ d M) (hQ : fg_End Λ Γ M.2.2.2 Q) (hM : fg_mt[i]? = some M) (hd : decode M.2.1 pc = .ok (ins, len)) (hc : fg_cki M.1.cls M.2.2.2 pc len ins 5 a b v w = true) (g : fg_op (fg_S l Λ) d i (pc + len) a b v L st σ Q 5) : fg_Wt l Λ Γ M.2.2.1 pc L st σ := by
  unfold fg_cki at hc
  unfold fg_op at g
  dsimp only at hc g
  split at hc
  · simp only [Bool.and_eq_true, decide_eq_true_eq] at hc
    obtain ⟨e1, e2⟩ := hc
    cases Nat.eq_of_beq_eq_true e1
    split at g
    · obtain ⟨hn, hg, g⟩ := fg_st1_sp g
      exact fg_o_istore_n C hd (Nat.eq_of_beq_eq_true e2) hn hg (g M hM Γ C hQ)
    · exact g.elim
  · simp only [Bool.and_eq_true, decide_eq_true_eq] at hc
    obtain ⟨e1, e2⟩ := hc
    cases Nat.eq_of_beq_eq_true e1
    cases Nat.eq_of_beq_eq_true e2
    split at g
    · obtain ⟨hn, hg, g⟩ := fg_st1_sp g
      exact fg_o_istore C hd hn hg (g M hM Γ C hQ)
    · exact g.elim
  · cases hc
theorem fg_d6 {i len a b w : Nat} {v : Int32} {ins : Instr} {Q : Int32 → fg_St → Prop} (C : fg_Cx Λ Γ d M) (hQ : fg_End Λ Γ M.2.2.2 Q) (hM : fg_mt[i]? = some M) (hd : decode M.2.1 pc = .ok (ins, len)) (hc : fg_cki M.1.cls M.2.2.2 pc len ins 6 a b v w = true) (g : fg_op (fg_S l Λ) d i (pc + len) a b v L st σ Q 6) : fg_Wt l Λ Γ M.2.2.1 pc L st σ := by
  unfold fg_cki at hc
  unfold fg_op at g
  dsimp only at hc g
  split at hc
  · simp only [Bool.and_eq_true, decide_eq_true_eq] at hc
    obtain ⟨e1, e2⟩ := hc
    cases Nat.eq_of_beq_eq_true e1
    split at g
    · obtain ⟨hn, hg, g⟩ := fg_st1_sp g
      exact fg_o_astore_n C hd (Nat.eq_of_beq_eq_true e2) hn hg (g M hM Γ C hQ)
    · exact g.elim
  · simp only [Bool.and_eq_true, decide_eq_true_eq] at hc
    obtain ⟨e1, e2⟩ := hc
    cases Nat.eq_of_beq_eq_true e1
    cases Nat.eq_of_beq_eq_true e2
    split at g
    · obtain ⟨hn, hg, g⟩ := fg_st1_sp g
      exact fg_o_astore C hd hn hg (g M hM Γ C hQ)
    · exact g.elim
  · cases hc
theorem fg_d7 {i len a b w : Nat} {v : Int32} {ins : Instr} {Q : Int32 → fg_St → Prop} (C : fg_Cx Λ Γ d M) (hQ : fg_End Λ Γ M.2.2.2 Q) (hM : fg_mt[i]? = some M) (hd : decode M.2.1 pc = .ok (ins, len)) (hc : fg_cki M.1.cls M.2.2.2 pc len ins 7 a b v w = true) (g : fg_op (fg_S l Λ) d i (pc + len) a b v L st σ Q 7) : fg_Wt l Λ Γ M.2.2.1 pc L st σ := by
  unfold fg_cki at hc
  unfold fg_op at g
  dsimp only at hc g
  split at hc
  · simp only [Bool.and_eq_true, decide_eq_true_eq] at hc
    obtain ⟨e1, e2⟩ := hc
    cases Nat.eq_of_beq_eq_true e1
    split at g
    · obtain ⟨hn, hg, g⟩ := fg_st2_sp g
      exact fg_o_lstore_n C hd (Nat.eq_of_beq_eq_true e2) hn hg (g M hM Γ C hQ)
    · exact g.elim
  · simp only [Bool.and_eq_true, decide_eq_true_eq] at hc
    obtain ⟨e1, e2⟩ := hc
    cases Nat.eq_of_beq_eq_true e1
    cases Nat.eq_of_beq_eq_true e2
    split at g
    · obtain ⟨hn, hg, g⟩ := fg_st2_sp g
      exact fg_o_lstore C hd hn hg (g M hM Γ C hQ)
    · exact g.elim
  · cases hc
theorem fg_d8 {i len a b w : Nat} {v : Int32} {ins : Instr} {Q : Int32 → fg_St → Prop} (C : fg_Cx Λ Γ d M) (hQ : fg_End Λ Γ M.2.2.2 Q) (hM : fg_mt[i]? = some M) (hd : decode M.2.1 pc = .ok (ins, len)) (hc : fg_cki M.1.cls M.2.2.2 pc len ins 8 a b v w = true) (g : fg_op (fg_S l Λ) d i (pc + len) a b v L st σ Q 8) : fg_Wt l Λ Γ M.2.2.1 pc L st σ := by
  unfold fg_cki at hc
  unfold fg_op at g
  dsimp only at hc g
  split at hc
  · simp only [Bool.and_eq_true, decide_eq_true_eq] at hc
    obtain ⟨e1, e2, e3⟩ := hc
    cases Nat.eq_of_beq_eq_true e1
    cases Nat.eq_of_beq_eq_true e2
    split at g
    · rename_i e
      obtain ⟨hn, hg, g⟩ := fg_st1_sp g
      exact fg_o_iinc C hd e3 e hg (g M hM Γ C hQ)
    · exact g.elim
  · cases hc
theorem fg_d9 {i len a b w : Nat} {v : Int32} {ins : Instr} {Q : Int32 → fg_St → Prop} (C : fg_Cx Λ Γ d M) (hQ : fg_End Λ Γ M.2.2.2 Q) (hM : fg_mt[i]? = some M) (hd : decode M.2.1 pc = .ok (ins, len)) (hc : fg_cki M.1.cls M.2.2.2 pc len ins 9 a b v w = true) (g : fg_op (fg_S l Λ) d i (pc + len) a b v L st σ Q 9) : fg_Wt l Λ Γ M.2.2.1 pc L st σ := by
  unfold fg_cki at hc
  unfold fg_op at g
  dsimp only at hc g
  split at hc
  · simp only [Bool.and_eq_true, decide_eq_true_eq] at hc
    obtain ⟨e1, rfl⟩ := hc
    cases Nat.eq_of_beq_eq_true e1
    split at g
    · exact fg_o_iadd C hd (g M hM Γ C hQ)
    · exact g.elim
  · simp only [Bool.and_eq_true, decide_eq_true_eq] at hc
    obtain ⟨e1, rfl⟩ := hc
    cases Nat.eq_of_beq_eq_true e1
    split at g
    · exact fg_o_isub C hd (g M hM Γ C hQ)
    · exact g.elim
  · simp only [Bool.and_eq_true, decide_eq_true_eq] at hc
    obtain ⟨e1, rfl⟩ := hc
    cases Nat.eq_of_beq_eq_true e1
    split at g
    · exact fg_o_imul C hd (g M hM Γ C hQ)
    · exact g.elim
  · simp only [Bool.and_eq_true, decide_eq_true_eq] at hc
    obtain ⟨e1, rfl⟩ := hc
    cases Nat.eq_of_beq_eq_true e1
    split at g
    · exact fg_o_iand C hd (g M hM Γ C hQ)
    · exact g.elim
  · simp only [Bool.and_eq_true, decide_eq_true_eq] at hc
    obtain ⟨e1, rfl⟩ := hc
    cases Nat.eq_of_beq_eq_true e1
    split at g
    · exact fg_o_ior C hd (g M hM Γ C hQ)
    · exact g.elim
  · simp only [Bool.and_eq_true, decide_eq_true_eq] at hc
    obtain ⟨e1, rfl⟩ := hc
    cases Nat.eq_of_beq_eq_true e1
    split at g
    · exact fg_o_ixor C hd (g M hM Γ C hQ)
    · exact g.elim
  · simp only [Bool.and_eq_true, decide_eq_true_eq] at hc
    obtain ⟨e1, rfl⟩ := hc
    cases Nat.eq_of_beq_eq_true e1
    split at g
    · exact fg_o_ishl C hd (g M hM Γ C hQ)
    · exact g.elim
  · simp only [Bool.and_eq_true, decide_eq_true_eq] at hc
    obtain ⟨e1, rfl⟩ := hc
    cases Nat.eq_of_beq_eq_true e1
    split at g
    · exact fg_o_ishr C hd (g M hM Γ C hQ)
    · exact g.elim
  · simp only [Bool.and_eq_true, decide_eq_true_eq] at hc
    obtain ⟨e1, rfl⟩ := hc
    cases Nat.eq_of_beq_eq_true e1
    split at g
    · exact fg_o_iushr C hd (g M hM Γ C hQ)
    · exact g.elim
theorem fg_d10 {i len a b w : Nat} {v : Int32} {ins : Instr} {Q : Int32 → fg_St → Prop} (C : fg_Cx Λ Γ d M) (hQ : fg_End Λ Γ M.2.2.2 Q) (hM : fg_mt[i]? = some M) (hd : decode M.2.1 pc = .ok (ins, len)) (hc : fg_cki M.1.cls M.2.2.2 pc len ins 10 a b v w = true) (g : fg_op (fg_S l Λ) d i (pc + len) a b v L st σ Q 10) : fg_Wt l Λ Γ M.2.2.1 pc L st σ := by
  unfold fg_cki at hc
  unfold fg_op at g
  dsimp only at hc g
  simp only [Bool.and_eq_true, decide_eq_true_eq] at hc
  obtain ⟨e1, rfl⟩ := hc
  cases Nat.eq_of_beq_eq_true e1
  split at g
  · exact fg_o_idiv C hd g.1 (g.2 M hM Γ C hQ)
  · exact g.elim
theorem fg_d11 {i len a b w : Nat} {v : Int32} {ins : Instr} {Q : Int32 → fg_St → Prop} (C : fg_Cx Λ Γ d M) (hQ : fg_End Λ Γ M.2.2.2 Q) (hM : fg_mt[i]? = some M) (hd : decode M.2.1 pc = .ok (ins, len)) (hc : fg_cki M.1.cls M.2.2.2 pc len ins 11 a b v w = true) (g : fg_op (fg_S l Λ) d i (pc + len) a b v L st σ Q 11) : fg_Wt l Λ Γ M.2.2.1 pc L st σ := by
  unfold fg_cki at hc
  unfold fg_op at g
  dsimp only at hc g
  simp only [Bool.and_eq_true, decide_eq_true_eq] at hc
  obtain ⟨e1, rfl⟩ := hc
  cases Nat.eq_of_beq_eq_true e1
  split at g
  · exact fg_o_irem C hd g.1 (g.2 M hM Γ C hQ)
  · exact g.elim
theorem fg_d12 {i len a b w : Nat} {v : Int32} {ins : Instr} {Q : Int32 → fg_St → Prop} (C : fg_Cx Λ Γ d M) (hQ : fg_End Λ Γ M.2.2.2 Q) (hM : fg_mt[i]? = some M) (hd : decode M.2.1 pc = .ok (ins, len)) (hc : fg_cki M.1.cls M.2.2.2 pc len ins 12 a b v w = true) (g : fg_op (fg_S l Λ) d i (pc + len) a b v L st σ Q 12) : fg_Wt l Λ Γ M.2.2.1 pc L st σ := by
  unfold fg_cki at hc
  unfold fg_op at g
  dsimp only at hc g
  simp only [Bool.and_eq_true, decide_eq_true_eq] at hc
  obtain ⟨e1, rfl⟩ := hc
  cases Nat.eq_of_beq_eq_true e1
  split at g
  · exact fg_o_ineg C hd (g M hM Γ C hQ)
  · exact g.elim
theorem fg_d13 {i len a b w : Nat} {v : Int32} {ins : Instr} {Q : Int32 → fg_St → Prop} (C : fg_Cx Λ Γ d M) (hQ : fg_End Λ Γ M.2.2.2 Q) (hM : fg_mt[i]? = some M) (hd : decode M.2.1 pc = .ok (ins, len)) (hc : fg_cki M.1.cls M.2.2.2 pc len ins 13 a b v w = true) (g : fg_op (fg_S l Λ) d i (pc + len) a b v L st σ Q 13) : fg_Wt l Λ Γ M.2.2.1 pc L st σ := by
  unfold fg_cki at hc
  unfold fg_op at g
  dsimp only at hc g
  simp only [Bool.and_eq_true, decide_eq_true_eq] at hc
  obtain ⟨e1, rfl⟩ := hc
  cases Nat.eq_of_beq_eq_true e1
  split at g
  · exact fg_o_i2l C hd (g M hM Γ C hQ)
  · exact g.elim
theorem fg_d14 {i len a b w : Nat} {v : Int32} {ins : Instr} {Q : Int32 → fg_St → Prop} (C : fg_Cx Λ Γ d M) (hQ : fg_End Λ Γ M.2.2.2 Q) (hM : fg_mt[i]? = some M) (hd : decode M.2.1 pc = .ok (ins, len)) (hc : fg_cki M.1.cls M.2.2.2 pc len ins 14 a b v w = true) (g : fg_op (fg_S l Λ) d i (pc + len) a b v L st σ Q 14) : fg_Wt l Λ Γ M.2.2.1 pc L st σ := by
  unfold fg_cki at hc
  unfold fg_op at g
  dsimp only at hc g
  simp only [Bool.and_eq_true, decide_eq_true_eq] at hc
  obtain ⟨e1, rfl⟩ := hc
  cases Nat.eq_of_beq_eq_true e1
  split at g
  · exact fg_o_l2i C hd (g M hM Γ C hQ)
  · exact g.elim
theorem fg_d15 {i len a b w : Nat} {v : Int32} {ins : Instr} {Q : Int32 → fg_St → Prop} (C : fg_Cx Λ Γ d M) (hQ : fg_End Λ Γ M.2.2.2 Q) (hM : fg_mt[i]? = some M) (hd : decode M.2.1 pc = .ok (ins, len)) (hc : fg_cki M.1.cls M.2.2.2 pc len ins 15 a b v w = true) (g : fg_op (fg_S l Λ) d i (pc + len) a b v L st σ Q 15) : fg_Wt l Λ Γ M.2.2.1 pc L st σ := by
  unfold fg_cki at hc
  unfold fg_op at g
  dsimp only at hc g
  split at hc
  · simp only [Bool.and_eq_true, decide_eq_true_eq] at hc
    obtain ⟨e1, rfl⟩ := hc
    cases Nat.eq_of_beq_eq_true e1
    split at g
    · exact fg_o_ladd C hd (g M hM Γ C hQ)
    · exact g.elim
  · simp only [Bool.and_eq_true, decide_eq_true_eq] at hc
    obtain ⟨e1, rfl⟩ := hc
    cases Nat.eq_of_beq_eq_true e1
    split at g
    · exact fg_o_lmul C hd (g M hM Γ C hQ)
    · exact g.elim
  · simp only [Bool.and_eq_true, decide_eq_true_eq] at hc
    obtain ⟨e1, rfl⟩ := hc
    cases Nat.eq_of_beq_eq_true e1
    split at g
    · exact fg_o_land C hd (g M hM Γ C hQ)
    · exact g.elim
theorem fg_d16 {i len a b w : Nat} {v : Int32} {ins : Instr} {Q : Int32 → fg_St → Prop} (C : fg_Cx Λ Γ d M) (hQ : fg_End Λ Γ M.2.2.2 Q) (hM : fg_mt[i]? = some M) (hd : decode M.2.1 pc = .ok (ins, len)) (hc : fg_cki M.1.cls M.2.2.2 pc len ins 16 a b v w = true) (g : fg_op (fg_S l Λ) d i (pc + len) a b v L st σ Q 16) : fg_Wt l Λ Γ M.2.2.1 pc L st σ := by
  unfold fg_cki at hc
  unfold fg_op at g
  dsimp only at hc g
  simp only [Bool.and_eq_true, decide_eq_true_eq] at hc
  obtain ⟨e1, rfl⟩ := hc
  cases Nat.eq_of_beq_eq_true e1
  split at g
  · exact fg_o_ldiv C hd g.1 (g.2 M hM Γ C hQ)
  · exact g.elim
theorem fg_d17 {i len a b w : Nat} {v : Int32} {ins : Instr} {Q : Int32 → fg_St → Prop} (C : fg_Cx Λ Γ d M) (hQ : fg_End Λ Γ M.2.2.2 Q) (hM : fg_mt[i]? = some M) (hd : decode M.2.1 pc = .ok (ins, len)) (hc : fg_cki M.1.cls M.2.2.2 pc len ins 17 a b v w = true) (g : fg_op (fg_S l Λ) d i (pc + len) a b v L st σ Q 17) : fg_Wt l Λ Γ M.2.2.1 pc L st σ := by
  unfold fg_cki at hc
  unfold fg_op at g
  dsimp only at hc g
  simp only [Bool.and_eq_true, decide_eq_true_eq] at hc
  obtain ⟨e1, rfl⟩ := hc
  cases Nat.eq_of_beq_eq_true e1
  split at g
  · exact fg_o_lrem C hd g.1 (g.2 M hM Γ C hQ)
  · exact g.elim
theorem fg_d18 {i len a b w : Nat} {v : Int32} {ins : Instr} {Q : Int32 → fg_St → Prop} (C : fg_Cx Λ Γ d M) (hQ : fg_End Λ Γ M.2.2.2 Q) (hM : fg_mt[i]? = some M) (hd : decode M.2.1 pc = .ok (ins, len)) (hc : fg_cki M.1.cls M.2.2.2 pc len ins 18 a b v w = true) (g : fg_op (fg_S l Λ) d i (pc + len) a b v L st σ Q 18) : fg_Wt l Λ Γ M.2.2.1 pc L st σ := by
  unfold fg_cki at hc
  unfold fg_op at g
  dsimp only at hc g
  simp only [Bool.and_eq_true, decide_eq_true_eq] at hc
  obtain ⟨e1, rfl⟩ := hc
  cases Nat.eq_of_beq_eq_true e1
  split at g
  · exact fg_o_lcmp C hd (g M hM Γ C hQ)
  · exact g.elim
theorem fg_d19 {i len a b w : Nat} {v : Int32} {ins : Instr} {Q : Int32 → fg_St → Prop} (C : fg_Cx Λ Γ d M) (hQ : fg_End Λ Γ M.2.2.2 Q) (hM : fg_mt[i]? = some M) (hd : decode M.2.1 pc = .ok (ins, len)) (hc : fg_cki M.1.cls M.2.2.2 pc len ins 19 a b v w = true) (g : fg_op (fg_S l Λ) d i (pc + len) a b v L st σ Q 19) : fg_Wt l Λ Γ M.2.2.1 pc L st σ := by
  unfold fg_cki at hc
  unfold fg_op at g
  dsimp only at hc g
  simp only [Bool.and_eq_true, decide_eq_true_eq] at hc
  obtain ⟨e1, rfl⟩ := hc
  cases Nat.eq_of_beq_eq_true e1
  split at g
  · exact fg_o_dupi C hd (g M hM Γ C hQ)
  · exact fg_o_dupa C hd (g M hM Γ C hQ)
  · exact g.elim
theorem fg_d20 {i len a b w : Nat} {v : Int32} {ins : Instr} {Q : Int32 → fg_St → Prop} (C : fg_Cx Λ Γ d M) (hQ : fg_End Λ Γ M.2.2.2 Q) (hM : fg_mt[i]? = some M) (hd : decode M.2.1 pc = .ok (ins, len)) (hc : fg_cki M.1.cls M.2.2.2 pc len ins 20 a b v w = true) (g : fg_op (fg_S l Λ) d i (pc + len) a b v L st σ Q 20) : fg_Wt l Λ Γ M.2.2.1 pc L st σ := by
  unfold fg_cki at hc
  unfold fg_op at g
  dsimp only at hc g
  simp only [Bool.and_eq_true, decide_eq_true_eq] at hc
  obtain ⟨e1, rfl⟩ := hc
  cases Nat.eq_of_beq_eq_true e1
  split at g
  · exact fg_o_popi C hd (g M hM Γ C hQ)
  · exact fg_o_popa C hd (g M hM Γ C hQ)
  · exact g.elim
theorem fg_d21 {i len a b w : Nat} {v : Int32} {ins : Instr} {Q : Int32 → fg_St → Prop} (C : fg_Cx Λ Γ d M) (hQ : fg_End Λ Γ M.2.2.2 Q) (hM : fg_mt[i]? = some M) (hd : decode M.2.1 pc = .ok (ins, len)) (hc : fg_cki M.1.cls M.2.2.2 pc len ins 21 a b v w = true) (g : fg_op (fg_S l Λ) d i (pc + len) a b v L st σ Q 21) : fg_Wt l Λ Γ M.2.2.1 pc L st σ := by
  unfold fg_cki at hc
  unfold fg_op at g
  dsimp only at hc g
  simp only [Bool.and_eq_true, decide_eq_true_eq] at hc
  obtain ⟨e1, rfl⟩ := hc
  cases Nat.eq_of_beq_eq_true e1
  split at g
  · exact fg_o_dup2 C hd (g M hM Γ C hQ)
  · exact g.elim
theorem fg_d22 {i len a b w : Nat} {v : Int32} {ins : Instr} {Q : Int32 → fg_St → Prop} (C : fg_Cx Λ Γ d M) (hQ : fg_End Λ Γ M.2.2.2 Q) (hM : fg_mt[i]? = some M) (hd : decode M.2.1 pc = .ok (ins, len)) (hc : fg_cki M.1.cls M.2.2.2 pc len ins 22 a b v w = true) (g : fg_op (fg_S l Λ) d i (pc + len) a b v L st σ Q 22) : fg_Wt l Λ Γ M.2.2.1 pc L st σ := by
  unfold fg_cki at hc
  unfold fg_op at g
  dsimp only at hc g
  split at hc
  · simp only [Bool.and_eq_true, decide_eq_true_eq] at hc
    obtain ⟨e1, e2⟩ := hc
    cases Nat.eq_of_beq_eq_true e1
    exact fg_o_goto C hd e2 (g M hM Γ C hQ)
  · cases hc
theorem fg_d23 {i len a b w : Nat} {v : Int32} {ins : Instr} {Q : Int32 → fg_St → Prop} (C : fg_Cx Λ Γ d M) (hQ : fg_End Λ Γ M.2.2.2 Q) (hM : fg_mt[i]? = some M) (hd : decode M.2.1 pc = .ok (ins, len)) (hc : fg_cki M.1.cls M.2.2.2 pc len ins 23 a b v w = true) (g : fg_op (fg_S l Λ) d i (pc + len) a b v L st σ Q 23) : fg_Wt l Λ Γ M.2.2.1 pc L st σ := by
  unfold fg_cki at hc
  unfold fg_op at g
  dsimp only at hc g
  split at hc
  · simp only [Bool.and_eq_true, decide_eq_true_eq] at hc
    obtain ⟨e1, e2, e3⟩ := hc
    cases Nat.eq_of_beq_eq_true e1
    rename_i o off
    have e2 := Nat.eq_of_beq_eq_true e2
    subst e2
    split at g
    · cases o
      · exact fg_o_if_eq C hd e3 (fun q => g.1 q M hM Γ C hQ) (fun q => g.2 q M hM Γ C hQ)
      · exact fg_o_if_ne C hd e3 (fun q => g.1 q M hM Γ C hQ) (fun q => g.2 q M hM Γ C hQ)
      · exact fg_o_if_lt C hd e3 (fun q => g.1 q M hM Γ C hQ) (fun q => g.2 q M hM Γ C hQ)
      · exact fg_o_if_ge C hd e3 (fun q => g.1 q M hM Γ C hQ) (fun q => g.2 q M hM Γ C hQ)
      · exact fg_o_if_gt C hd e3 (fun q => g.1 q M hM Γ C hQ) (fun q => g.2 q M hM Γ C hQ)
      · exact fg_o_if_le C hd e3 (fun q => g.1 q M hM Γ C hQ) (fun q => g.2 q M hM Γ C hQ)
    · exact g.elim
  · cases hc
theorem fg_d24 {i len a b w : Nat} {v : Int32} {ins : Instr} {Q : Int32 → fg_St → Prop} (C : fg_Cx Λ Γ d M) (hQ : fg_End Λ Γ M.2.2.2 Q) (hM : fg_mt[i]? = some M) (hd : decode M.2.1 pc = .ok (ins, len)) (hc : fg_cki M.1.cls M.2.2.2 pc len ins 24 a b v w = true) (g : fg_op (fg_S l Λ) d i (pc + len) a b v L st σ Q 24) : fg_Wt l Λ Γ M.2.2.1 pc L st σ := by
  unfold fg_cki at hc
  unfold fg_op at g
  dsimp only at hc g
  split at hc
  · simp only [Bool.and_eq_true, decide_eq_true_eq] at hc
    obtain ⟨e1, e2, e3⟩ := hc
    cases Nat.eq_of_beq_eq_true e1
    rename_i o off
    have e2 := Nat.eq_of_beq_eq_true e2
    subst e2
    split at g
    · cases o
      · exact fg_o_icmp_eq C hd e3 (fun q => g.1 q M hM Γ C hQ) (fun q => g.2 q M hM Γ C hQ)
      · exact fg_o_icmp_ne C hd e3 (fun q => g.1 q M hM Γ C hQ) (fun q => g.2 q M hM Γ C hQ)
      · exact fg_o_icmp_lt C hd e3 (fun q => g.1 q M hM Γ C hQ) (fun q => g.2 q M hM Γ C hQ)
      · exact fg_o_icmp_ge C hd e3 (fun q => g.1 q M hM Γ C hQ) (fun q => g.2 q M hM Γ C hQ)
      · exact fg_o_icmp_gt C hd e3 (fun q => g.1 q M hM Γ C hQ) (fun q => g.2 q M hM Γ C hQ)
      · exact fg_o_icmp_le C hd e3 (fun q => g.1 q M hM Γ C hQ) (fun q => g.2 q M hM Γ C hQ)
    · exact g.elim
  · cases hc
theorem fg_d25 {i len a b w : Nat} {v : Int32} {ins : Instr} {Q : Int32 → fg_St → Prop} (C : fg_Cx Λ Γ d M) (hQ : fg_End Λ Γ M.2.2.2 Q) (hM : fg_mt[i]? = some M) (hd : decode M.2.1 pc = .ok (ins, len)) (hc : fg_cki M.1.cls M.2.2.2 pc len ins 25 a b v w = true) (g : fg_op (fg_S l Λ) d i (pc + len) a b v L st σ Q 25) : fg_Wt l Λ Γ M.2.2.1 pc L st σ := by
  unfold fg_cki at hc
  unfold fg_op at g
  dsimp only at hc g
  split at hc
  · split at hc
    · rename_i q hq
      simp only [Bool.and_eq_true, decide_eq_true_eq] at hc
      obtain ⟨e1, e2, e3, e4, e5⟩ := hc
      split at g
      · rw [hq] at g
        exact fg_o_switch C hd e1 e2 (Nat.le_of_ble_eq_true e3) e4 e5 (fg_sw_mono (fun t z => z M hM Γ C hQ) _ _ g)
      · exact g.elim
    · cases hc
  · cases hc
theorem fg_d26 {i len a b w : Nat} {v : Int32} {ins : Instr} {Q : Int32 → fg_St → Prop} (C : fg_Cx Λ Γ d M) (hQ : fg_End Λ Γ M.2.2.2 Q) (hM : fg_mt[i]? = some M) (hd : decode M.2.1 pc = .ok (ins, len)) (hc : fg_cki M.1.cls M.2.2.2 pc len ins 26 a b v w = true) (g : fg_op (fg_S l Λ) d i (pc + len) a b v L st σ Q 26) : fg_Wt l Λ Γ M.2.2.1 pc L st σ := by
  unfold fg_cki at hc
  unfold fg_op at g
  dsimp only at hc g
  split at hc
  · simp only [Bool.and_eq_true, Bool.not_eq_true'] at hc
    obtain ⟨e1, e2, e3⟩ := hc
    cases Nat.eq_of_beq_eq_true e1
    obtain ⟨q, hq, hbq, hw⟩ := fg_fk_sp e2
    split at g
    · exact fg_o_get C hd hq hbq hw g.1 (by unfold fg_fv; rw [e3]; rfl) (g.2 M hM Γ C hQ)
    · exact g.elim
  · cases hc
theorem fg_d27 {i len a b w : Nat} {v : Int32} {ins : Instr} {Q : Int32 → fg_St → Prop} (C : fg_Cx Λ Γ d M) (hQ : fg_End Λ Γ M.2.2.2 Q) (hM : fg_mt[i]? = some M) (hd : decode M.2.1 pc = .ok (ins, len)) (hc : fg_cki M.1.cls M.2.2.2 pc len ins 27 a b v w = true) (g : fg_op (fg_S l Λ) d i (pc + len) a b v L st σ Q 27) : fg_Wt l Λ Γ M.2.2.1 pc L st σ := by
  unfold fg_cki at hc
  unfold fg_op at g
  dsimp only at hc g
  split at hc
  · simp only [Bool.and_eq_true] at hc
    obtain ⟨e1, e2, e3⟩ := hc
    cases Nat.eq_of_beq_eq_true e1
    obtain ⟨q, hq, hbq, hw⟩ := fg_fk_sp e2
    split at g
    · exact fg_o_get C hd hq hbq hw g.1 (by unfold fg_fv; rw [e3]; rfl) (g.2 M hM Γ C hQ)
    · exact g.elim
  · cases hc
theorem fg_d28 {i len a b w : Nat} {v : Int32} {ins : Instr} {Q : Int32 → fg_St → Prop} (C : fg_Cx Λ Γ d M) (hQ : fg_End Λ Γ M.2.2.2 Q) (hM : fg_mt[i]? = some M) (hd : decode M.2.1 pc = .ok (ins, len)) (hc : fg_cki M.1.cls M.2.2.2 pc len ins 28 a b v w = true) (g : fg_op (fg_S l Λ) d i (pc + len) a b v L st σ Q 28) : fg_Wt l Λ Γ M.2.2.1 pc L st σ := by
  unfold fg_cki at hc
  unfold fg_op at g
  dsimp only at hc g
  split at hc
  · simp only [Bool.and_eq_true, Bool.not_eq_true'] at hc
    obtain ⟨e1, e2, e3, e4⟩ := hc
    cases Nat.eq_of_beq_eq_true e1
    obtain ⟨q, hq, hbq, hw⟩ := fg_fk_sp e2
    obtain ⟨f1, f2⟩ := fg_fp_sp hq e4
    split at g
    · exact fg_o_put C hd hq hbq hw g.1 f1 f2 rfl rfl (fg_cell_sF g.1 (fg_clok _ _ hq).1 e3).symm (fun z _ hz => fg_cell_sFo z hz) (g.2 M hM Γ C hQ)
    · exact g.elim
  · cases hc
theorem fg_d29 {i len a b w : Nat} {v : Int32} {ins : Instr} {Q : Int32 → fg_St → Prop} (C : fg_Cx Λ Γ d M) (hQ : fg_End Λ Γ M.2.2.2 Q) (hM : fg_mt[i]? = some M) (hd : decode M.2.1 pc = .ok (ins, len)) (hc : fg_cki M.1.cls M.2.2.2 pc len ins 29 a b v w = true) (g : fg_op (fg_S l Λ) d i (pc + len) a b v L st σ Q 29) : fg_Wt l Λ Γ M.2.2.1 pc L st σ := by
  unfold fg_cki at hc
  unfold fg_op at g
  dsimp only at hc g
  split at hc
  · simp only [Bool.and_eq_true, Bool.not_eq_true'] at hc
    obtain ⟨e1, e2, e3, e4⟩ := hc
    cases Nat.eq_of_beq_eq_true e1
    obtain ⟨q, hq, hbq, hw⟩ := fg_fk_sp e2
    obtain ⟨f1, f2⟩ := fg_fp_sp hq e4
    split at g
    · exact fg_o_put C hd hq hbq hw g.1 f1 f2 (by rcases g.2.1 with rfl | rfl <;> decide) (by rcases g.2.1 with rfl | rfl <;> decide) (fg_cell_sF g.1 (fg_clok _ _ hq).1 e3).symm (fun z _ hz => fg_cell_sFo z hz) (g.2.2 M hM Γ C hQ)
    · exact g.elim
  · cases hc
theorem fg_d30 {i len a b w : Nat} {v : Int32} {ins : Instr} {Q : Int32 → fg_St → Prop} (C : fg_Cx Λ Γ d M) (hQ : fg_End Λ Γ M.2.2.2 Q) (hM : fg_mt[i]? = some M) (hd : decode M.2.1 pc = .ok (ins, len)) (hc : fg_cki M.1.cls M.2.2.2 pc len ins 30 a b v w = true) (g : fg_op (fg_S l Λ) d i (pc + len) a b v L st σ Q 30) : fg_Wt l Λ Γ M.2.2.1 pc L st σ := by
  unfold fg_cki at hc
  unfold fg_op at g
  dsimp only at hc g
  split at hc
  · simp only [Bool.and_eq_true, Bool.or_eq_true] at hc
    obtain ⟨e1, e2, e3, e4, e5⟩ := hc
    cases Nat.eq_of_beq_eq_true e1
    obtain ⟨q, hq, hbq, hw⟩ := fg_fk_sp e2
    obtain ⟨f1, f2⟩ := fg_fp_sp hq e5
    have e3 := Nat.eq_of_beq_eq_true e3
    subst e3
    split at g
    · obtain ⟨rfl, g⟩ := g
      rcases e4 with e4 | e4
      · cases Nat.eq_of_beq_eq_true e4
        exact fg_o_put C hd hq hbq hw rfl f1 f2 rfl rfl (fg_cell_s1 _ _ _).symm (fun z hl hz => fg_cell_spo _ _ z hl hz) (g M hM Γ C hQ)
      · cases Nat.eq_of_beq_eq_true e4
        exact fg_o_put C hd hq hbq hw rfl f1 f2 rfl rfl (fg_cell_s2 _ _ _).symm (fun z hl hz => fg_cell_spo _ _ z hl hz) (g M hM Γ C hQ)
    · exact g.elim
  · cases hc
theorem fg_d31 {i len a b w : Nat} {v : Int32} {ins : Instr} {Q : Int32 → fg_St → Prop} (C : fg_Cx Λ Γ d M) (hQ : fg_End Λ Γ M.2.2.2 Q) (hM : fg_mt[i]? = some M) (hd : decode M.2.1 pc = .ok (ins, len)) (hc : fg_cki M.1.cls M.2.2.2 pc len ins 31 a b v w = true) (g : fg_op (fg_S l Λ) d i (pc + len) a b v L st σ Q 31) : fg_Wt l Λ Γ M.2.2.1 pc L st σ := by
  unfold fg_cki at hc
  unfold fg_op at g
  dsimp only at hc g
  simp only [Bool.and_eq_true, decide_eq_true_eq] at hc
  obtain ⟨e1, rfl⟩ := hc
  cases Nat.eq_of_beq_eq_true e1
  split at g
  · exact fg_o_iald C hd g.1 g.2.1 (g.2.2 M hM Γ C hQ)
  · exact g.elim
theorem fg_d32 {i len a b w : Nat} {v : Int32} {ins : Instr} {Q : Int32 → fg_St → Prop} (C : fg_Cx Λ Γ d M) (hQ : fg_End Λ Γ M.2.2.2 Q) (hM : fg_mt[i]? = some M) (hd : decode M.2.1 pc = .ok (ins, len)) (hc : fg_cki M.1.cls M.2.2.2 pc len ins 32 a b v w = true) (g : fg_op (fg_S l Λ) d i (pc + len) a b v L st σ Q 32) : fg_Wt l Λ Γ M.2.2.1 pc L st σ := by
  unfold fg_cki at hc
  unfold fg_op at g
  dsimp only at hc g
  simp only [Bool.and_eq_true, decide_eq_true_eq] at hc
  obtain ⟨e1, rfl⟩ := hc
  cases Nat.eq_of_beq_eq_true e1
  split at g
  · exact fg_o_iast C hd g.1 g.2.1 (g.2.2 M hM Γ C hQ)
  · exact g.elim
theorem fg_d33 {i len a b w : Nat} {v : Int32} {ins : Instr} {Q : Int32 → fg_St → Prop} (C : fg_Cx Λ Γ d M) (hQ : fg_End Λ Γ M.2.2.2 Q) (hM : fg_mt[i]? = some M) (hd : decode M.2.1 pc = .ok (ins, len)) (hc : fg_cki M.1.cls M.2.2.2 pc len ins 33 a b v w = true) (g : fg_op (fg_S l Λ) d i (pc + len) a b v L st σ Q 33) : fg_Wt l Λ Γ M.2.2.1 pc L st σ := by
  unfold fg_cki at hc
  unfold fg_op at g
  dsimp only at hc g
  simp only [Bool.and_eq_true, decide_eq_true_eq] at hc
  obtain ⟨e1, rfl⟩ := hc
  cases Nat.eq_of_beq_eq_true e1
  split at g
  · exact fg_o_zald C hd g.1 g.2.1 (g.2.2 M hM Γ C hQ)
  · exact g.elim
theorem fg_d34 {i len a b w : Nat} {v : Int32} {ins : Instr} {Q : Int32 → fg_St → Prop} (C : fg_Cx Λ Γ d M) (hQ : fg_End Λ Γ M.2.2.2 Q) (hM : fg_mt[i]? = some M) (hd : decode M.2.1 pc = .ok (ins, len)) (hc : fg_cki M.1.cls M.2.2.2 pc len ins 34 a b v w = true) (g : fg_op (fg_S l Λ) d i (pc + len) a b v L st σ Q 34) : fg_Wt l Λ Γ M.2.2.1 pc L st σ := by
  unfold fg_cki at hc
  unfold fg_op at g
  dsimp only at hc g
  simp only [Bool.and_eq_true, decide_eq_true_eq] at hc
  obtain ⟨e1, rfl⟩ := hc
  cases Nat.eq_of_beq_eq_true e1
  split at g
  · exact fg_o_zast C hd g.1 g.2.1 g.2.2.1 (g.2.2.2 M hM Γ C hQ)
  · exact g.elim
theorem fg_d35 {i len a b w : Nat} {v : Int32} {ins : Instr} {Q : Int32 → fg_St → Prop} (C : fg_Cx Λ Γ d M) (hQ : fg_End Λ Γ M.2.2.2 Q) (hM : fg_mt[i]? = some M) (hd : decode M.2.1 pc = .ok (ins, len)) (hc : fg_cki M.1.cls M.2.2.2 pc len ins 35 a b v w = true) (g : fg_op (fg_S l Λ) d i (pc + len) a b v L st σ Q 35) : fg_Wt l Λ Γ M.2.2.1 pc L st σ := by
  unfold fg_cki at hc
  unfold fg_op at g
  dsimp only at hc g
  simp only [Bool.and_eq_true, decide_eq_true_eq] at hc
  obtain ⟨e1, rfl⟩ := hc
  cases Nat.eq_of_beq_eq_true e1
  split at g
  · exact fg_o_aald C hd g.1 g.2.1 (g.2.2 M hM Γ C hQ)
  · exact g.elim
theorem fg_d36 {i len a b w : Nat} {v : Int32} {ins : Instr} {Q : Int32 → fg_St → Prop} (C : fg_Cx Λ Γ d M) (hQ : fg_End Λ Γ M.2.2.2 Q) (hM : fg_mt[i]? = some M) (hd : decode M.2.1 pc = .ok (ins, len)) (hc : fg_cki M.1.cls M.2.2.2 pc len ins 36 a b v w = true) (g : fg_op (fg_S l Λ) d i (pc + len) a b v L st σ Q 36) : fg_Wt l Λ Γ M.2.2.1 pc L st σ := by
  unfold fg_cki at hc
  unfold fg_op at g
  dsimp only at hc g
  simp only [Bool.and_eq_true, decide_eq_true_eq] at hc
  obtain ⟨e1, rfl⟩ := hc
  cases Nat.eq_of_beq_eq_true e1
  split at g
  · exact fg_o_alen C hd g.1 (g.2 M hM Γ C hQ)
  · exact g.elim
theorem fg_d37 {i len a b w : Nat} {v : Int32} {ins : Instr} {Q : Int32 → fg_St → Prop} (C : fg_Cx Λ Γ d M) (hQ : fg_End Λ Γ M.2.2.2 Q) (hM : fg_mt[i]? = some M) (hd : decode M.2.1 pc = .ok (ins, len)) (hc : fg_cki M.1.cls M.2.2.2 pc len ins 37 a b v w = true) (g : fg_op (fg_S l Λ) d i (pc + len) a b v L st σ Q 37) : fg_Wt l Λ Γ M.2.2.1 pc L st σ := by
  unfold fg_cki at hc
  unfold fg_op at g
  dsimp only at hc g
  split at hc
  · simp only [Bool.and_eq_true, Bool.not_eq_true'] at hc
    obtain ⟨e1, e2, e3⟩ := hc
    cases Nat.eq_of_beq_eq_true e1
    obtain ⟨N, hj, hw, hnp, hri⟩ := fg_ckc_sp e2
    split at g
    · rename_i As h r hp
      obtain ⟨hcl, g⟩ := g
      rw [hj] at hcl
      cases hq : vwCl[fg_kd h]? with
      | none => rw [hq] at hcl; cases hcl
      | some q =>
        rw [hq] at hcl
        have hcl : N.1.cls = q.1 := Option.some.inj hcl
        obtain ⟨d2, P, rfl, hcat, hlen, hs, k⟩ := fg_call_sp hj g
        exact fg_o_callVi C hd hj e3 hw hnp hri hp hq hcl hcat hlen hs (fun y u hy => k y u hy M hM Γ C hQ)
    · exact g.elim
  · cases hc
theorem fg_d38 {i len a b w : Nat} {v : Int32} {ins : Instr} {Q : Int32 → fg_St → Prop} (C : fg_Cx Λ Γ d M) (hQ : fg_End Λ Γ M.2.2.2 Q) (hM : fg_mt[i]? = some M) (hd : decode M.2.1 pc = .ok (ins, len)) (hc : fg_cki M.1.cls M.2.2.2 pc len ins 38 a b v w = true) (g : fg_op (fg_S l Λ) d i (pc + len) a b v L st σ Q 38) : fg_Wt l Λ Γ M.2.2.1 pc L st σ := by
  unfold fg_cki at hc
  unfold fg_op at g
  dsimp only at hc g
  split at hc
  · simp only [Bool.and_eq_true, Bool.not_eq_true'] at hc
    obtain ⟨e1, e2, e3⟩ := hc
    cases Nat.eq_of_beq_eq_true e1
    obtain ⟨N, hj, hw, hnp, hri⟩ := fg_ckc_sp e2
    split at g
    · rename_i As h r hp
      obtain ⟨hcl, g⟩ := g
      rw [hj] at hcl
      cases hq : vwCl[fg_kd h]? with
      | none => rw [hq] at hcl; cases hcl
      | some q =>
        rw [hq] at hcl
        have hcl : N.1.cls = q.1 := Option.some.inj hcl
        obtain ⟨d2, P, rfl, hcat, hlen, hs, k⟩ := fg_call_sp hj g
        exact fg_o_callVv C hd hj e3 hw hnp hri hp hq hcl hcat hlen hs (fun y u hy => k y u hy M hM Γ C hQ)
    · exact g.elim
  · cases hc
theorem fg_d39 {i len a b w : Nat} {v : Int32} {ins : Instr} {Q : Int32 → fg_St → Prop} (C : fg_Cx Λ Γ d M) (hQ : fg_End Λ Γ M.2.2.2 Q) (hM : fg_mt[i]? = some M) (hd : decode M.2.1 pc = .ok (ins, len)) (hc : fg_cki M.1.cls M.2.2.2 pc len ins 39 a b v w = true) (g : fg_op (fg_S l Λ) d i (pc + len) a b v L st σ Q 39) : fg_Wt l Λ Γ M.2.2.1 pc L st σ := by
  unfold fg_cki at hc
  unfold fg_op at g
  dsimp only at hc g
  split at hc
  · simp only [Bool.and_eq_true] at hc
    obtain ⟨e1, e2, e3⟩ := hc
    cases Nat.eq_of_beq_eq_true e1
    obtain ⟨N, hj, hw, hnp, hri⟩ := fg_ckc_sp e2
    split at g
    · rename_i As r hp
      obtain ⟨d2, P, rfl, hcat, hlen, hs, k⟩ := fg_call_sp hj g
      exact fg_o_callSi C hd hj e3 hw hnp hri hp hcat hlen hs (fun y u hy => k y u hy M hM Γ C hQ)
    · exact g.elim
  · cases hc
theorem fg_d40 {i len a b w : Nat} {v : Int32} {ins : Instr} {Q : Int32 → fg_St → Prop} (C : fg_Cx Λ Γ d M) (hQ : fg_End Λ Γ M.2.2.2 Q) (hM : fg_mt[i]? = some M) (hd : decode M.2.1 pc = .ok (ins, len)) (hc : fg_cki M.1.cls M.2.2.2 pc len ins 40 a b v w = true) (g : fg_op (fg_S l Λ) d i (pc + len) a b v L st σ Q 40) : fg_Wt l Λ Γ M.2.2.1 pc L st σ := by
  unfold fg_cki at hc
  unfold fg_op at g
  dsimp only at hc g
  split at hc
  · simp only [Bool.and_eq_true] at hc
    obtain ⟨e1, e2, e3⟩ := hc
    cases Nat.eq_of_beq_eq_true e1
    obtain ⟨N, hj, hw, hnp, hri⟩ := fg_ckc_sp e2
    split at g
    · rename_i As r hp
      obtain ⟨d2, P, rfl, hcat, hlen, hs, k⟩ := fg_call_sp hj g
      exact fg_o_callSv C hd hj e3 hw hnp hri hp hcat hlen hs (fun y u hy => k y u hy M hM Γ C hQ)
    · exact g.elim
  · cases hc
theorem fg_d41 {i len a b w : Nat} {v : Int32} {ins : Instr} {Q : Int32 → fg_St → Prop} (C : fg_Cx Λ Γ d M) (hQ : fg_End Λ Γ M.2.2.2 Q) (hM : fg_mt[i]? = some M) (hd : decode M.2.1 pc = .ok (ins, len)) (hc : fg_cki M.1.cls M.2.2.2 pc len ins 41 a b v w = true) (g : fg_op (fg_S l Λ) d i (pc + len) a b v L st σ Q 41) : fg_Wt l Λ Γ M.2.2.1 pc L st σ := by
  unfold fg_cki at hc
  unfold fg_op at g
  dsimp only at hc g
  split at hc
  · simp only [Bool.and_eq_true] at hc
    obtain ⟨e1, e2, e3⟩ := hc
    cases Nat.eq_of_beq_eq_true e1
    split at e2
    · rename_i N hj
      simp only [Bool.and_eq_true, decide_eq_true_eq] at e2
      obtain ⟨hw, hnp, hri⟩ := e2
      split at g
      · rename_i As r hp
        obtain ⟨d2, P, rfl, hcat, hlen, hs, k⟩ := fg_call_sp hj g
        exact fg_o_callNi C hd hj e3 (List.mem_of_getElem? hw) (of_decide_eq_true hnp) hri hp hcat hlen hs (fun y u hy => k y u hy M hM Γ C hQ)
      · exact g.elim
    · cases e2
  · cases hc
theorem fg_d42 {i len a b w : Nat} {v : Int32} {ins : Instr} {Q : Int32 → fg_St → Prop} (C : fg_Cx Λ Γ d M) (hQ : fg_End Λ Γ M.2.2.2 Q) (hM : fg_mt[i]? = some M) (hd : decode M.2.1 pc = .ok (ins, len)) (hc : fg_cki M.1.cls M.2.2.2 pc len ins 42 a b v w = true) (g : fg_op (fg_S l Λ) d i (pc + len) a b v L st σ Q 42) : fg_Wt l Λ Γ M.2.2.1 pc L st σ := by
  unfold fg_cki at hc
  unfold fg_op at g
  dsimp only at hc g
  split at hc
  · simp only [Bool.and_eq_true] at hc
    obtain ⟨e1, e2⟩ := hc
    cases Nat.eq_of_beq_eq_true e1
    split at g
    · split at g
      · exact g.elim
      · exact fg_o_acp C hd (fg_w_in e2 rfl) (by omega) g.1 g.2.1 g.2.2.1 g.2.2.2.1 g.2.2.2.2.1 (g.2.2.2.2.2 M hM Γ C hQ)
    · exact g.elim
  · cases hc
theorem fg_d43 {i len a b w : Nat} {v : Int32} {ins : Instr} {Q : Int32 → fg_St → Prop} (C : fg_Cx Λ Γ d M) (hQ : fg_End Λ Γ M.2.2.2 Q) (hM : fg_mt[i]? = some M) (hd : decode M.2.1 pc = .ok (ins, len)) (hc : fg_cki M.1.cls M.2.2.2 pc len ins 43 a b v w = true) (g : fg_op (fg_S l Λ) d i (pc + len) a b v L st σ Q 43) : fg_Wt l Λ Γ M.2.2.1 pc L st σ := by
  unfold fg_cki at hc
  unfold fg_op at g
  dsimp only at hc g
  simp only [Bool.and_eq_true, decide_eq_true_eq] at hc
  obtain ⟨e1, rfl, e3⟩ := hc
  cases Nat.eq_of_beq_eq_true e1
  split at g
  · obtain ⟨p, e, R, s, m, args, below, meth, c, Qc⟩ := Γ
    obtain ⟨hx, hb, hml, hr, hlk, hown, hts, hE, hf, hlo, hin⟩ := C
    intro H locs ls hP hS hl
    exact W.iret hx hb (hr.trans e3) (fun t ht _ => by have := hQ _ _ g t (by rw [ht]; exact hP) (hS.F ht); rw [e3] at this; exact this) hS.2.2 hd hlk
  · exact g.elim
theorem fg_d44 {i len a b w : Nat} {v : Int32} {ins : Instr} {Q : Int32 → fg_St → Prop} (C : fg_Cx Λ Γ d M) (hQ : fg_End Λ Γ M.2.2.2 Q) (hM : fg_mt[i]? = some M) (hd : decode M.2.1 pc = .ok (ins, len)) (hc : fg_cki M.1.cls M.2.2.2 pc len ins 44 a b v w = true) (g : fg_op (fg_S l Λ) d i (pc + len) a b v L st σ Q 44) : fg_Wt l Λ Γ M.2.2.1 pc L st σ := by
  unfold fg_cki at hc
  unfold fg_op at g
  dsimp only at hc g
  simp only [Bool.and_eq_true, decide_eq_true_eq] at hc
  obtain ⟨e1, rfl, e3⟩ := hc
  cases Nat.eq_of_beq_eq_true e1
  split at g
  · obtain ⟨p, e, R, s, m, args, below, meth, c, Qc⟩ := Γ
    obtain ⟨hx, hb, hml, hr, hlk, hown, hts, hE, hf, hlo, hin⟩ := C
    intro H locs ls hP hS hl
    exact W.zret (ty := .boolean) hx hb (hr.trans e3) (by rcases g.1 with rfl | rfl <;> decide) (fun t ht _ => by have := hQ _ _ g.2 t (by rw [ht]; exact hP) (hS.F ht); rw [e3] at this; exact this) hS.2.2 hd hlk
  · exact g.elim
theorem fg_d45 {i len a b w : Nat} {v : Int32} {ins : Instr} {Q : Int32 → fg_St → Prop} (C : fg_Cx Λ Γ d M) (hQ : fg_End Λ Γ M.2.2.2 Q) (hM : fg_mt[i]? = some M) (hd : decode M.2.1 pc = .ok (ins, len)) (hc : fg_cki M.1.cls M.2.2.2 pc len ins 45 a b v w = true) (g : fg_op (fg_S l Λ) d i (pc + len) a b v L st σ Q 45) : fg_Wt l Λ Γ M.2.2.1 pc L st σ := by
  unfold fg_cki at hc
  unfold fg_op at g
  dsimp only at hc g
  simp only [Bool.and_eq_true, decide_eq_true_eq] at hc
  obtain ⟨e1, rfl, e3⟩ := hc
  cases Nat.eq_of_beq_eq_true e1
  split at g
  · obtain ⟨p, e, R, s, m, args, below, meth, c, Qc⟩ := Γ
    obtain ⟨hx, hb, hml, hr, hlk, hown, hts, hE, hf, hlo, hin⟩ := C
    intro H locs ls hP hS hl
    exact W.vret hx hb (hr.trans e3) (fun t ht _ => by have := hQ _ _ g t (by rw [ht]; exact hP) (hS.F ht); rw [e3] at this; exact this) hS.2.2 hd hlk
  · exact g.elim
theorem fg_d46 {i len a b w : Nat} {v : Int32} {ins : Instr} {Q : Int32 → fg_St → Prop} (C : fg_Cx Λ Γ d M) (hQ : fg_End Λ Γ M.2.2.2 Q) (hM : fg_mt[i]? = some M) (hd : decode M.2.1 pc = .ok (ins, len)) (hc : fg_cki M.1.cls M.2.2.2 pc len ins 46 a b v w = true) (g : fg_op (fg_S l Λ) d i (pc + len) a b v L st σ Q 46) : fg_Wt l Λ Γ M.2.2.1 pc L st σ := by
  unfold fg_cki at hc
  unfold fg_op at g
  dsimp only at hc g
  split at hc
  · simp only [Bool.and_eq_true] at hc
    obtain ⟨e1, e2⟩ := hc
    cases Nat.eq_of_beq_eq_true e1
    split at g
    · obtain ⟨h1, h2, g⟩ := fg_m1_sp g
      exact fg_o_min C hd (fg_w_in e2 rfl) h1 h2 (g M hM Γ C hQ)
    · exact g.elim
  · cases hc
theorem fg_d47 {i len a b w : Nat} {v : Int32} {ins : Instr} {Q : Int32 → fg_St → Prop} (C : fg_Cx Λ Γ d M) (hQ : fg_End Λ Γ M.2.2.2 Q) (hM : fg_mt[i]? = some M) (hd : decode M.2.1 pc = .ok (ins, len)) (hc : fg_cki M.1.cls M.2.2.2 pc len ins 47 a b v w = true) (g : fg_op (fg_S l Λ) d i (pc + len) a b v L st σ Q 47) : fg_Wt l Λ Γ M.2.2.1 pc L st σ := by
  unfold fg_cki at hc
  unfold fg_op at g
  dsimp only at hc g
  split at hc
  · simp only [Bool.and_eq_true] at hc
    obtain ⟨e1, e2⟩ := hc
    cases Nat.eq_of_beq_eq_true e1
    split at g
    · obtain ⟨h1, h2, g⟩ := fg_m1_sp g
      exact fg_o_max C hd (fg_w_in e2 rfl) h1 h2 (g M hM Γ C hQ)
    · exact g.elim
  · cases hc
theorem fg_disp {i len a b w op : Nat} {v : Int32} {ins : Instr} {Q : Int32 → fg_St → Prop} (C : fg_Cx Λ Γ d M) (hQ : fg_End Λ Γ M.2.2.2 Q) (hM : fg_mt[i]? = some M) (hd : decode M.2.1 pc = .ok (ins, len)) (hc : fg_cki M.1.cls M.2.2.2 pc len ins op a b v w = true) (g : fg_op (fg_S l Λ) d i (pc + len) a b v L st σ Q op) : fg_Wt l Λ Γ M.2.2.1 pc L st σ := by
  by_cases ho : op < 48
  · have hh : ∀ n, n < 48 → op = n → fg_Wt l Λ Γ M.2.2.1 pc L st σ := by
      intro n hn e
      subst e
      match op, hn, hc, g with
      | 0, _, hc, g => exact fg_d0 C hQ hM hd hc g
      | 1, _, hc, g => exact fg_d1 C hQ hM hd hc g
      | 2, _, hc, g => exact fg_d2 C hQ hM hd hc g
      | 3, _, hc, g => exact fg_d3 C hQ hM hd hc g
      | 4, _, hc, g => exact fg_d4 C hQ hM hd hc g
      | 5, _, hc, g => exact fg_d5 C hQ hM hd hc g
      | 6, _, hc, g => exact fg_d6 C hQ hM hd hc g
      | 7, _, hc, g => exact fg_d7 C hQ hM hd hc g
      | 8, _, hc, g => exact fg_d8 C hQ hM hd hc g
      | 9, _, hc, g => exact fg_d9 C hQ hM hd hc g
      | 10, _, hc, g => exact fg_d10 C hQ hM hd hc g
      | 11, _, hc, g => exact fg_d11 C hQ hM hd hc g
      | 12, _, hc, g => exact fg_d12 C hQ hM hd hc g
      | 13, _, hc, g => exact fg_d13 C hQ hM hd hc g
      | 14, _, hc, g => exact fg_d14 C hQ hM hd hc g
      | 15, _, hc, g => exact fg_d15 C hQ hM hd hc g
      | 16, _, hc, g => exact fg_d16 C hQ hM hd hc g
      | 17, _, hc, g => exact fg_d17 C hQ hM hd hc g
      | 18, _, hc, g => exact fg_d18 C hQ hM hd hc g
      | 19, _, hc, g => exact fg_d19 C hQ hM hd hc g
      | 20, _, hc, g => exact fg_d20 C hQ hM hd hc g
      | 21, _, hc, g => exact fg_d21 C hQ hM hd hc g
      | 22, _, hc, g => exact fg_d22 C hQ hM hd hc g
      | 23, _, hc, g => exact fg_d23 C hQ hM hd hc g
      | 24, _, hc, g => exact fg_d24 C hQ hM hd hc g
      | 25, _, hc, g => exact fg_d25 C hQ hM hd hc g
      | 26, _, hc, g => exact fg_d26 C hQ hM hd hc g
      | 27, _, hc, g => exact fg_d27 C hQ hM hd hc g
      | 28, _, hc, g => exact fg_d28 C hQ hM hd hc g
      | 29, _, hc, g => exact fg_d29 C hQ hM hd hc g
      | 30, _, hc, g => exact fg_d30 C hQ hM hd hc g
      | 31, _, hc, g => exact fg_d31 C hQ hM hd hc g
      | 32, _, hc, g => exact fg_d32 C hQ hM hd hc g
      | 33, _, hc, g => exact fg_d33 C hQ hM hd hc g
      | 34, _, hc, g => exact fg_d34 C hQ hM hd hc g
      | 35, _, hc, g => exact fg_d35 C hQ hM hd hc g
      | 36, _, hc, g => exact fg_d36 C hQ hM hd hc g
      | 37, _, hc, g => exact fg_d37 C hQ hM hd hc g
      | 38, _, hc, g => exact fg_d38 C hQ hM hd hc g
      | 39, _, hc, g => exact fg_d39 C hQ hM hd hc g
      | 40, _, hc, g => exact fg_d40 C hQ hM hd hc g
      | 41, _, hc, g => exact fg_d41 C hQ hM hd hc g
      | 42, _, hc, g => exact fg_d42 C hQ hM hd hc g
      | 43, _, hc, g => exact fg_d43 C hQ hM hd hc g
      | 44, _, hc, g => exact fg_d44 C hQ hM hd hc g
      | 45, _, hc, g => exact fg_d45 C hQ hM hd hc g
      | 46, _, hc, g => exact fg_d46 C hQ hM hd hc g
      | 47, _, hc, g => exact fg_d47 C hQ hM hd hc g
    exact hh op ho rfl
  · exfalso
    unfold fg_cki at hc
    split at hc <;> first | (exact absurd ho (by decide)) | cases hc
theorem fg_look_mem {pc : Nat} {q : Nat × Nat × Nat × Nat × Int32 × Nat} : ∀ c : List fg_I, fg_look c pc = some q → (pc, q) ∈ c := by
  intro c
  induction c with
  | nil => intro h; cases h
  | cons r t ih =>
    intro h
    obtain ⟨z, r⟩ := r
    unfold fg_look at h
    split at h
    · rename_i e
      cases h
      rw [Nat.eq_of_beq_eq_true e]
      exact List.mem_cons_self
    · exact List.mem_cons_of_mem _ (ih h)
theorem fg_step {i : Nat} {Q : Int32 → fg_St → Prop} (g : fg_G (fg_S l Λ) d i pc L st σ Q) : fg_S l Λ d i pc L st σ Q := by
  intro M hM Γ C hQ
  unfold fg_G at g
  split at g
  · exact g.elim
  · rename_i q hq
    have hin := fg_look_mem _ hq
    have hck := fg_cks i (fg_mfacts hM).1
    unfold fg_ckm at hck
    rw [hM] at hck
    have hck := List.all_eq_true.mp hck _ hin
    unfold fg_ckI at hck
    dsimp only at hck
    split at hck
    · rename_i r hr
      simp only [Bool.and_eq_true] at hck
      obtain ⟨h1, h2⟩ := hck
      have h1 := Nat.eq_of_beq_eq_true h1
      rw [h1] at g
      exact fg_disp C hQ hM hr h2 g
    · cases hck
/-- WHAT RUNS IS SO -/
theorem fg_sound {i : Nat} {Q : Int32 → fg_St → Prop} (r : fg_Run d i pc L st σ Q) : fg_S l Λ d i pc L st σ Q := r (fg_S l Λ) (fun _ _ _ _ _ _ _ g => fg_step g)
end
