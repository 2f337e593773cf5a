/-! WHAT RUNS ON THE ABSTRACT MACHINE IS A CONTRACT OF THE REAL ONE -/
def fg_rv (ret : Option FieldType) (x : Int32) : Option Value := match ret with
  | none => none
  | some _ => some (.int x)
def fg_End (Λ : fg_La) (Γ : fg_Ga) (ret : Option FieldType) (Q : Int32 → fg_St → Prop) : Prop := match Γ with
  | (_, _, _, s, _, args, _, _, _, Qc) => ∀ (x : Int32) (u : fg_St), Q x u → ∀ t : State, va_P (fg_D Λ) vwCl (fg_ws Λ u) t.heap → va_F (fg_A Λ) s t → Qc args s (.returned (fg_rv ret x)) t
def fg_S (l : Launch) (Λ : fg_La) : fg_P := fun d i pc L st σ Q => ∀ M : fg_M, fg_mt[i]? = some M → ∀ Γ : fg_Ga, fg_Cx Λ Γ d M → fg_End Λ Γ M.2.2.2 Q → fg_Wt l Λ Γ M.2.2.1 pc L st σ
def fg_wm (M : fg_M) : List Jvm.Cond := Jvm.Cond.code M.1 M.2.1 M.2.2.1 M.2.2.2 :: fg_T
def fg_rm (d : Nat) : Room := { frames := d, cells := 0, slots := 0, locals := 30 * d }
def fg_Pre (Λ : fg_La) (σ : fg_St) (U : State) : Prop := va_P (fg_D Λ) vwCl (fg_ws Λ σ) U.heap ∧ fg_E Λ U
theorem fg_E.warm {Λ : fg_La} {s U : State} (h : fg_E Λ s) (hW : s.WarmedH U.vm) : fg_E Λ U := by
  refine ⟨va_K.moved hW.alike h.1, fun w hw => ?_⟩
  have h2 := h.2 w hw
  simp only [fg_nest, List.mem_cons, List.not_mem_nil, or_false] at hw
  rcases hw with rfl | rfl | rfl | rfl | rfl <;> exact va_Nw.warmM hW h2
theorem fg_E.calling {Λ : fg_La} {U : State} (h : fg_E Λ U) (g : JFrame) (mk : MethodId) (a : Array Value) : fg_E Λ (U.calling g mk a) := by
  refine ⟨va_K.moved (u := U) (U := U.calling g mk a) (Vm.Alike.refl U.vm) h.1, fun w hw => ?_⟩
  have h2 := h.2 w hw
  simp only [fg_nest, List.mem_cons, List.not_mem_nil, or_false] at hw
  rcases hw with rfl | rfl | rfl | rfl | rfl <;> exact va_Nw.same rfl rfl h2
theorem fg_fl_len (ad : Nat → Nat) : ∀ vs : List Value, (fg_fl vs).length = (lg_sl (vs.map (fg_cv ad))).length := by
  intro vs
  induction vs with
  | nil => rfl
  | cons v vs ih =>
    have e : lg_sl ((v :: vs).map (fg_cv ad)) = (if v.category = 2 then [Slot.val (fg_cv ad v), .second] else [.val (fg_cv ad v)]) ++ lg_sl (vs.map (fg_cv ad)) := by
      simp [lg_sl, fg_cv_cat]
    rw [e, List.length_append, ← ih]
    rcases lv_cat v with h | h
    · have e2 : fg_fl (v :: vs) = some v :: fg_fl vs := by
        show (match Nat.beq v.category 2 with | true => some v :: none :: fg_fl vs | false => some v :: fg_fl vs) = _
        rw [h]
      rw [e2, if_neg (by omega), List.length_cons, List.length_singleton]
      omega
    · have e2 : fg_fl (v :: vs) = some v :: none :: fg_fl vs := by
        show (match Nat.beq v.category 2 with | true => some v :: none :: fg_fl vs | false => some v :: fg_fl vs) = _
        rw [h]
      rw [e2, if_pos h, List.length_cons, List.length_cons]
      show _ = 2 + _
      omega
theorem fg_fl_args (ad : Nat → Nat) : ∀ (vs : List Value) (o k : Nat) (v : Value), (fg_fl vs)[k]? = some (some v) → (o + k, fg_cv ad v) ∈ lv_args o (vs.map (fg_cv ad)) := by
  intro vs
  induction vs with
  | nil => intro o k v h; simp [fg_fl] at h
  | cons w vs ih =>
    intro o k v h
    rw [List.map_cons, lv_args, fg_cv_cat]
    unfold fg_fl at h
    rcases lv_cat w with hc | hc
    · rw [hc] at h ⊢
      have h : (some w :: fg_fl vs)[k]? = some (some v) := h
      cases k with
      | zero =>
        simp at h
        subst h
        exact List.mem_cons_self
      | succ k =>
        have h := ih (o + 1) k v (by simpa using h)
        refine List.mem_cons_of_mem _ ?_
        rw [if_neg (by decide)]
        rw [show o + (k + 1) = o + 1 + k by omega]
        exact h
    · rw [hc] at h ⊢
      have h : (some w :: none :: fg_fl vs)[k]? = some (some v) := h
      match k, h with
      | 0, h =>
        simp at h
        subst h
        exact List.mem_cons_self
      | 1, h => simp at h
      | k + 2, h =>
        have h := ih (o + 2) k v (by simpa using h)
        refine List.mem_cons_of_mem _ ?_
        rw [if_pos rfl]
        rw [show o + (k + 2) = o + 2 + k by omega]
        exact h
theorem fg_entry {ad : Nat → Nat} {vs : List Value} {ml : Nat} (h : (fg_fl vs).length ≤ ml) : fg_LV ad ((lg_sl (vs.map (fg_cv ad)) ++ List.replicate (ml - (lg_sl (vs.map (fg_cv ad))).length) Slot.unset).toArray) ml (fg_ent ml vs) := by
  have h0 := lv_entry (vs.map (fg_cv ad)) (n := ml) (by rw [← fg_fl_len]; exact h)
  refine ⟨?_, h0.1, h0.2.1, fun k v hk => ?_⟩
  · unfold fg_ent
    rw [List.length_append, List.length_replicate]
    omega
  · unfold fg_ent at hk
    rw [List.getElem?_append] at hk
    split at hk
    · have := h0.2.2 _ (fg_fl_args ad vs 0 k v hk)
      simpa using this
    · rw [List.getElem?_replicate] at hk
      split at hk <;> cases hk
theorem fg_mfacts {i : Nat} {M : fg_M} (h : fg_mt[i]? = some M) : i < 196 ∧ Jvm.Cond.code M.1 M.2.1 M.2.2.1 M.2.2.2 ∈ fg_T ∧ Jvm.Cond.initialized M.1.cls ∈ fg_T ∧ (M.1.cls ≠ "java/lang/invoke/MethodHandle" ∧ M.1.cls ≠ "java/lang/invoke/VarHandle") ∧ plainName M.1.cls = true ∧ M.2.2.1 ≤ 11 ∧ (fg_sta.getD i false = true → Jvm.Cond.static M.1 ∈ fg_T) ∧ (fg_sta.getD i false = false → Jvm.Cond.instanceMethod M.1 ∈ fg_T ∧ Jvm.Cond.selects M.1.cls M.1 M.1 ∈ fg_T) := by
  have hi : i < 196 := (List.getElem?_eq_some_iff.mp h).1
  have hc := fg_mcode M (List.mem_of_getElem? h)
  have hk := fg_mcks i hi
  unfold fg_mck at hk
  rw [h] at hk
  split at hk
  · rename_i y p e1 e2
    cases e1
    simp only [Bool.and_eq_true, decide_eq_true_eq] at hk
    obtain ⟨k1, k2, k3, k4, k5⟩ := hk
    refine ⟨hi, List.mem_filter.mpr ⟨hc, rfl⟩, fg_w_in k2 rfl, k3, k4, Nat.le_of_ble_eq_true k5, fun e => ?_, fun e => ?_⟩
    · rw [e] at k1
      exact fg_w_in k1 rfl
    · rw [e] at k1
      simp only [Bool.and_eq_true] at k1
      exact ⟨fg_w_in k1.1 rfl, fg_w_in k1.2 rfl⟩
  · cases hk
/-- a run is a contract -/
theorem fg_met {l : Launch} {Λ : fg_La} {d j : Nat} {M : fg_M} {σ : fg_St} {vs : List Value} {P : Int32 → fg_St → Prop} {Qc : Array Value → State → Outcome → State → Prop} (hi : fg_inj Λ) (hj : fg_mt[j]? = some M) (hlen : (fg_fl vs).length ≤ M.2.2.1) (hs : fg_S l Λ d j 0 (fg_ent M.2.2.1 vs) [] σ P) (hQ : ∀ (s t : State) (x : Int32) (u : fg_St), P x u → va_P (fg_D Λ) vwCl (fg_ws Λ u) t.heap → va_F (fg_A Λ) s t → Qc (vs.map (fg_cv Λ.1)).toArray s (.returned (fg_rv M.2.2.2 x)) t) : Met l M.1 (fg_wm M) (fg_rm d) (va_Pc (vs.map (fg_cv Λ.1)) (fg_Pre Λ σ)) Qc 0 0 (fg_A Λ) := by
  have F := fg_mfacts hj
  refine Met.ofW (cc := M.2.1) (maxL := M.2.2.1) (ret := M.2.2.2) F.2.2.2.2.1 rfl ?_
  intro p e s m args below meth c s₁ B hml hv
  obtain ⟨rfl, hP, hE⟩ := hv
  have hts := atoms_spec (ws := fg_wm M) B.pre
  rw [lg_entry_eq]
  exact hs M hj (p, e, fg_rm d, s, m, _, below, meth, c, Qc) ⟨B.exec, B.bytes, hml, B.returns, B.notSynchronized, findClass_of_methodNamed B.named, fun w h => hts w (List.mem_cons_of_mem _ h), hE, Nat.le_refl _, Nat.le_refl _, hi⟩ (fun x u q t h1 h2 => hQ s t x u q h1 h2) s.heap [] _ hP va_S.rf (fg_entry hlen)
theorem fg_good {ws : List Jvm.Cond} (h : ∀ w ∈ ws, w ∈ fg_T) : GoodIn fg_T ws := fun w hw => ⟨h w hw, good_of_word (List.mem_filter.mp (h w hw)).2⟩
theorem fg_wm_in {i : Nat} {M : fg_M} (h : fg_mt[i]? = some M) : ∀ w ∈ fg_wm M, w ∈ fg_T := by
  intro w hw
  rcases List.mem_cons.mp hw with rfl | hw
  · exact (fg_mfacts h).2.1
  · exact hw
theorem fg_pop_eq : ∀ (n : Nat) (acc st As r : List Value), fg_pop n acc st = some (As, r) → ∃ B : List Value, As = B ++ acc ∧ st = B.reverse ++ r ∧ B.length = n := by
  intro n
  induction n with
  | zero =>
    intro acc st As r h
    unfold fg_pop at h
    cases h
    exact ⟨[], rfl, rfl, rfl⟩
  | succ n ih =>
    intro acc st As r h
    cases st with
    | nil => unfold fg_pop at h; cases h
    | cons v st =>
      unfold fg_pop at h
      obtain ⟨B, h1, h2, h3⟩ := ih _ _ _ _ h
      refine ⟨B ++ [v], by rw [h1]; simp, by rw [h2]; simp, by simp [h3]⟩
theorem fg_pop_0 {n : Nat} {st As r : List Value} (h : fg_pop n [] st = some (As, r)) : st = As.reverse ++ r ∧ As.length = n := by
  obtain ⟨B, h1, h2, h3⟩ := fg_pop_eq n [] st As r h
  rw [List.append_nil] at h1
  subst h1
  exact ⟨h2, h3⟩
theorem fg_pcb {Λ : fg_La} {σ : fg_St} {vs : List Value} : FrameBlind (va_Pc vs (fg_Pre Λ σ)) := fun a U g mk q => by
  obtain ⟨q1, q2, q3⟩ := q
  exact ⟨q1, q2, q3.calling g mk a⟩
section
variable {l : Launch} {Λ : fg_La} {Γ : fg_Ga} {d pc : Nat} {M : fg_M} {L : List (Option Value)} {st : List Value} {σ : fg_St}
/-- a call of a virtual method with an answer -/
theorem fg_o_callVi {x j b h : Nat} {N : fg_M} {q : vw_C} {As r : List Value} {P : Int32 → fg_St → Prop} (C : fg_Cx Λ Γ (d + 1) M) (hd : decode M.2.1 pc = .ok (.invokevirtual x, 3)) (hj : fg_mt[j]? = some N) (hsta : fg_sta.getD j false = false) (hw : Jvm.Cond.methodLink M.1.cls x N.1 ∈ fg_T) (hnp : (parseMethodDescriptor N.1.desc).map (fun d => d.parameters.length) = some b) (hri : fg_ri N.2.2.2 = true) (hp : fg_pop b [] st = some (As, .ref h :: r)) (hk : vwCl[fg_kd h]? = some q) (hcl : N.1.cls = q.1) (hcat : fg_cat r ≤ 8) (hlen : (fg_fl (.ref h :: As)).length ≤ N.2.2.1) (hs : fg_S l Λ d j 0 (fg_ent N.2.2.1 (.ref h :: As)) [] σ P) (k : ∀ y u, P y u → fg_Wt l Λ Γ M.2.2.1 (pc + 3) L (.int y :: r) u) : fg_Wt l Λ Γ M.2.2.1 pc L st σ := by
  obtain ⟨p, e, R, s, m, args, below, meth, c, Qc⟩ := Γ
  obtain ⟨hx, hb, hml, hr, hlk, hown, hts, hE, hf, hlo, hin⟩ := C
  intro H locs ls hP hS hl
  have F := fg_mfacts hj
  obtain ⟨hst, hn⟩ := fg_pop_0 hp
  subst hst
  have ha := fg_clok _ q hk
  have hM := fg_met (Qc := va_Qi (fun y u => P y u) (fun u t => va_P (fg_D Λ) vwCl (fg_ws Λ u) t.heap) (fg_A Λ)) hin hj hlen hs (fun s t y u hp h1 h2 => by
    refine ⟨⟨y, u, ?_, hp, h1⟩, h2⟩
    unfold fg_rv
    cases hN : N.2.2.2 with
    | none => rw [hN] at hri; cases hri
    | some ty => rfl)
  have he := fg_ws_at (Λ := Λ) (σ := σ) (fg_kd_lt (h := h) rfl (by omega))
  rw [fg_cell_o rfl ha.1] at he
  refine va_calli (va_runV (As := As.map (fg_cv Λ.1)) (rest := r.map (fg_cv Λ.1)) ⟨hx, hb, hml, hown, hts⟩ hM (cwV b hts (fg_good (ws := wsV M.1.cls x N.1.cls N.1 (fg_wm N)) ?_) rfl rfl rfl ⟨rfl, F.2.2.2.1.1, F.2.2.2.1.2, hnp⟩ ⟨hf, ?_⟩) ⟨fg_pcb, ?_, fun U hU hW => ⟨rfl, by rw [hU]; exact hP, hE.warm hW⟩⟩ rfl (by rw [List.length_map]; exact hn) hl.2.1 (by simp [fg_cv]) (lv_room (by rw [fg_cat_cv]; exact hcat)) hd ⟨Nat.zero_le _, Nat.zero_le _⟩) hS (fun q _ h => h) (fun q h => h) (fun y u t H1 locs1 ht hvm hw hB hz1 hk1 hS1 => ?_)
  · intro w hw2
    have F8 := F.2.2.2.2.2.2.2 hsta
    rcases List.mem_append.mp hw2 with h2 | h2
    · simp only [List.mem_cons, List.not_mem_nil, or_false] at h2
      rcases h2 with rfl | rfl | rfl | rfl
      · exact hw
      · exact F8.1
      · exact F8.2
      · exact F.2.2.1
    · exact fg_wm_in hj w h2
  · show 8 + (N.2.2.1 + 11) + 30 * d ≤ R.locals
    have := F.2.2.2.2.2.1
    omega
  · rw [hcl]
    exact va_recv hE.1 hP hk he
  · rw [ht] at hB
    exact k y u hw H1 locs1 ls hB hS1 hl
/-- a call of a virtual method without one -/
theorem fg_o_callVv {x j b h : Nat} {N : fg_M} {q : vw_C} {As r : List Value} {P : Int32 → fg_St → Prop} (C : fg_Cx Λ Γ (d + 1) M) (hd : decode M.2.1 pc = .ok (.invokevirtual x, 3)) (hj : fg_mt[j]? = some N) (hsta : fg_sta.getD j false = false) (hw : Jvm.Cond.methodLink M.1.cls x N.1 ∈ fg_T) (hnp : (parseMethodDescriptor N.1.desc).map (fun d => d.parameters.length) = some b) (hri : fg_rz N.2.2.2 = true) (hp : fg_pop b [] st = some (As, .ref h :: r)) (hk : vwCl[fg_kd h]? = some q) (hcl : N.1.cls = q.1) (hcat : fg_cat r ≤ 8) (hlen : (fg_fl (.ref h :: As)).length ≤ N.2.2.1) (hs : fg_S l Λ d j 0 (fg_ent N.2.2.1 (.ref h :: As)) [] σ P) (k : ∀ y u, P y u → fg_Wt l Λ Γ M.2.2.1 (pc + 3) L r u) : fg_Wt l Λ Γ M.2.2.1 pc L st σ := by
  obtain ⟨p, e, R, s, m, args, below, meth, c, Qc⟩ := Γ
  obtain ⟨hx, hb, hml, hr, hlk, hown, hts, hE, hf, hlo, hin⟩ := C
  intro H locs ls hP hS hl
  have F := fg_mfacts hj
  obtain ⟨hst, hn⟩ := fg_pop_0 hp
  subst hst
  have ha := fg_clok _ q hk
  have hM := fg_met (Qc := va_Qv (fun u => ∃ y, P y u) (fun u t => va_P (fg_D Λ) vwCl (fg_ws Λ u) t.heap) (fg_A Λ)) hin hj hlen hs (fun s t y u hp h1 h2 => by
    refine ⟨⟨u, ?_, ⟨y, hp⟩, h1⟩, h2⟩
    unfold fg_rv
    cases hN : N.2.2.2 with
    | none => rfl
    | some ty => rw [hN] at hri; cases hri)
  have he := fg_ws_at (Λ := Λ) (σ := σ) (fg_kd_lt (h := h) rfl (by omega))
  rw [fg_cell_o rfl ha.1] at he
  refine va_callv (va_runV (As := As.map (fg_cv Λ.1)) (rest := r.map (fg_cv Λ.1)) ⟨hx, hb, hml, hown, hts⟩ hM (cwV b hts (fg_good (ws := wsV M.1.cls x N.1.cls N.1 (fg_wm N)) ?_) rfl rfl rfl ⟨rfl, F.2.2.2.1.1, F.2.2.2.1.2, hnp⟩ ⟨hf, ?_⟩) ⟨fg_pcb, ?_, fun U hU hW => ⟨rfl, by rw [hU]; exact hP, hE.warm hW⟩⟩ rfl (by rw [List.length_map]; exact hn) hl.2.1 (by simp [fg_cv]) (lv_room (by rw [fg_cat_cv]; exact hcat)) hd ⟨Nat.zero_le _, Nat.zero_le _⟩) hS (fun q _ h => h) (fun q h => h) (fun u t H1 locs1 ht hvm hw hB hz1 hk1 hS1 => ?_)
  · intro w hw2
    have F8 := F.2.2.2.2.2.2.2 hsta
    rcases List.mem_append.mp hw2 with h2 | h2
    · simp only [List.mem_cons, List.not_mem_nil, or_false] at h2
      rcases h2 with rfl | rfl | rfl | rfl
      · exact hw
      · exact F8.1
      · exact F8.2
      · exact F.2.2.1
    · exact fg_wm_in hj w h2
  · show 8 + (N.2.2.1 + 11) + 30 * d ≤ R.locals
    have := F.2.2.2.2.2.1
    omega
  · rw [hcl]
    exact va_recv hE.1 hP hk he
  · rw [ht] at hB
    obtain ⟨y, hw⟩ := hw
    exact k y u hw H1 locs1 ls hB hS1 hl
/-- a call of a static method with an answer -/
theorem fg_o_callSi {x j b : Nat} {N : fg_M} {As r : List Value} {P : Int32 → fg_St → Prop} (C : fg_Cx Λ Γ (d + 1) M) (hd : decode M.2.1 pc = .ok (.invokestatic x, 3)) (hj : fg_mt[j]? = some N) (hsta : fg_sta.getD j false = true) (hw : Jvm.Cond.methodLink M.1.cls x N.1 ∈ fg_T) (hnp : (parseMethodDescriptor N.1.desc).map (fun d => d.parameters.length) = some b) (hri : fg_ri N.2.2.2 = true) (hp : fg_pop b [] st = some (As, r)) (hcat : fg_cat r ≤ 8) (hlen : (fg_fl As).length ≤ N.2.2.1) (hs : fg_S l Λ d j 0 (fg_ent N.2.2.1 As) [] σ P) (k : ∀ y u, P y u → fg_Wt l Λ Γ M.2.2.1 (pc + 3) L (.int y :: r) u) : fg_Wt l Λ Γ M.2.2.1 pc L st σ := by
  obtain ⟨p, e, R, s, m, args, below, meth, c, Qc⟩ := Γ
  obtain ⟨hx, hb, hml, hr, hlk, hown, hts, hE, hf, hlo, hin⟩ := C
  intro H locs ls hP hS hl
  have F := fg_mfacts hj
  obtain ⟨hst, hn⟩ := fg_pop_0 hp
  subst hst
  have hM := fg_met (Qc := va_Qi (fun y u => P y u) (fun u t => va_P (fg_D Λ) vwCl (fg_ws Λ u) t.heap) (fg_A Λ)) hin hj hlen hs (fun s t y u hp h1 h2 => by
    refine ⟨⟨y, u, ?_, hp, h1⟩, h2⟩
    unfold fg_rv
    cases hN : N.2.2.2 with
    | none => rw [hN] at hri; cases hri
    | some ty => rfl)
  refine va_calli (va_runS (As := As.map (fg_cv Λ.1)) (rest := r.map (fg_cv Λ.1)) ⟨hx, hb, hml, hown, hts⟩ hM (va_cwS b hts (fg_good (ws := va_wsS M.1.cls x N.1 (fg_wm N)) ?_) rfl rfl rfl ⟨F.2.2.2.1.1, F.2.2.2.1.2, hnp⟩ ⟨hf, ?_⟩) ⟨fg_pcb, fun U hU hW => ⟨rfl, by rw [hU]; exact hP, hE.warm hW⟩⟩ rfl (by rw [List.length_map]; exact hn) hl.2.1 (by simp [fg_cv]) (lv_room (by rw [fg_cat_cv]; exact hcat)) hd ⟨Nat.zero_le _, Nat.zero_le _⟩) hS (fun q _ h => h) (fun q h => h) (fun y u t H1 locs1 ht hvm hw hB hz1 hk1 hS1 => ?_)
  · intro w hw2
    have F8 := F.2.2.2.2.2.2.1 hsta
    rcases List.mem_append.mp hw2 with h2 | h2
    · simp only [List.mem_cons, List.not_mem_nil, or_false] at h2
      rcases h2 with rfl | rfl | rfl
      · exact hw
      · exact F8
      · exact F.2.2.1
    · exact fg_wm_in hj w h2
  · show 8 + (N.2.2.1 + 11) + 30 * d ≤ R.locals
    have := F.2.2.2.2.2.1
    omega
  · rw [ht] at hB
    exact k y u hw H1 locs1 ls hB hS1 hl
/-- a call of a static method without one -/
theorem fg_o_callSv {x j b : Nat} {N : fg_M} {As r : List Value} {P : Int32 → fg_St → Prop} (C : fg_Cx Λ Γ (d + 1) M) (hd : decode M.2.1 pc = .ok (.invokestatic x, 3)) (hj : fg_mt[j]? = some N) (hsta : fg_sta.getD j false = true) (hw : Jvm.Cond.methodLink M.1.cls x N.1 ∈ fg_T) (hnp : (parseMethodDescriptor N.1.desc).map (fun d => d.parameters.length) = some b) (hri : fg_rz N.2.2.2 = true) (hp : fg_pop b [] st = some (As, r)) (hcat : fg_cat r ≤ 8) (hlen : (fg_fl As).length ≤ N.2.2.1) (hs : fg_S l Λ d j 0 (fg_ent N.2.2.1 As) [] σ P) (k : ∀ y u, P y u → fg_Wt l Λ Γ M.2.2.1 (pc + 3) L r u) : fg_Wt l Λ Γ M.2.2.1 pc L st σ := by
  obtain ⟨p, e, R, s, m, args, below, meth, c, Qc⟩ := Γ
  obtain ⟨hx, hb, hml, hr, hlk, hown, hts, hE, hf, hlo, hin⟩ := C
  intro H locs ls hP hS hl
  have F := fg_mfacts hj
  obtain ⟨hst, hn⟩ := fg_pop_0 hp
  subst hst
  have hM := fg_met (Qc := va_Qv (fun u => ∃ y, P y u) (fun u t => va_P (fg_D Λ) vwCl (fg_ws Λ u) t.heap) (fg_A Λ)) hin hj hlen hs (fun s t y u hp h1 h2 => by
    refine ⟨⟨u, ?_, ⟨y, hp⟩, h1⟩, h2⟩
    unfold fg_rv
    cases hN : N.2.2.2 with
    | none => rfl
    | some ty => rw [hN] at hri; cases hri)
  refine va_callv (va_runS (As := As.map (fg_cv Λ.1)) (rest := r.map (fg_cv Λ.1)) ⟨hx, hb, hml, hown, hts⟩ hM (va_cwS b hts (fg_good (ws := va_wsS M.1.cls x N.1 (fg_wm N)) ?_) rfl rfl rfl ⟨F.2.2.2.1.1, F.2.2.2.1.2, hnp⟩ ⟨hf, ?_⟩) ⟨fg_pcb, fun U hU hW => ⟨rfl, by rw [hU]; exact hP, hE.warm hW⟩⟩ rfl (by rw [List.length_map]; exact hn) hl.2.1 (by simp [fg_cv]) (lv_room (by rw [fg_cat_cv]; exact hcat)) hd ⟨Nat.zero_le _, Nat.zero_le _⟩) hS (fun q _ h => h) (fun q h => h) (fun u t H1 locs1 ht hvm hw hB hz1 hk1 hS1 => ?_)
  · intro w hw2
    have F8 := F.2.2.2.2.2.2.1 hsta
    rcases List.mem_append.mp hw2 with h2 | h2
    · simp only [List.mem_cons, List.not_mem_nil, or_false] at h2
      rcases h2 with rfl | rfl | rfl
      · exact hw
      · exact F8
      · exact F.2.2.1
    · exact fg_wm_in hj w h2
  · show 8 + (N.2.2.1 + 11) + 30 * d ≤ R.locals
    have := F.2.2.2.2.2.1
    omega
  · rw [ht] at hB
    obtain ⟨y, hw⟩ := hw
    exact k y u hw H1 locs1 ls hB hS1 hl
/-- a call of a nest mate's static method with an answer -/
theorem fg_o_callNi {x j b : Nat} {N : fg_M} {As r : List Value} {P : Int32 → fg_St → Prop} (C : fg_Cx Λ Γ (d + 1) M) (hd : decode M.2.1 pc = .ok (.invokestatic x, 3)) (hj : fg_mt[j]? = some N) (hsta : fg_sta.getD j false = true) (hw : Jvm.Cond.methodLinkNest M.1.cls x N.1 "FlagSignals" ∈ fg_nest) (hnp : (parseMethodDescriptor N.1.desc).map (fun d => d.parameters.length) = some b) (hri : fg_ri N.2.2.2 = true) (hp : fg_pop b [] st = some (As, r)) (hcat : fg_cat r ≤ 8) (hlen : (fg_fl As).length ≤ N.2.2.1) (hs : fg_S l Λ d j 0 (fg_ent N.2.2.1 As) [] σ P) (k : ∀ y u, P y u → fg_Wt l Λ Γ M.2.2.1 (pc + 3) L (.int y :: r) u) : fg_Wt l Λ Γ M.2.2.1 pc L st σ := by
  obtain ⟨p, e, R, s, m, args, below, meth, c, Qc⟩ := Γ
  obtain ⟨hx, hb, hml, hr, hlk, hown, hts, hE, hf, hlo, hin⟩ := C
  intro H locs ls hP hS hl
  have F := fg_mfacts hj
  obtain ⟨hst, hn⟩ := fg_pop_0 hp
  subst hst
  have hM := fg_met (Qc := va_Qi (fun y u => P y u) (fun u t => va_P (fg_D Λ) vwCl (fg_ws Λ u) t.heap) (fg_A Λ)) hin hj hlen hs (fun s t y u hp h1 h2 => by
    refine ⟨⟨y, u, ?_, hp, h1⟩, h2⟩
    unfold fg_rv
    cases hN : N.2.2.2 with
    | none => rw [hN] at hri; cases hri
    | some ty => rfl)
  refine va_calli (va_runSN (As := As.map (fg_cv Λ.1)) (rest := r.map (fg_cv Λ.1)) ⟨hx, hb, hml, hown, hts⟩ hM ⟨va_cnB b hts (fg_good (fg_wm_in hj)) rfl rfl rfl (hE.2 _ hw) (hts _ F.2.2.1) ⟨F.2.2.2.1.1, F.2.2.2.1.2, hnp⟩ ⟨hf, ?_⟩, hts _ (F.2.2.2.2.2.2.1 hsta), trivial⟩ ⟨fg_pcb, fun U hU hW => ⟨rfl, by rw [hU]; exact hP, hE.warm hW⟩⟩ rfl (by rw [List.length_map]; exact hn) hl.2.1 (by simp [fg_cv]) (lv_room (by rw [fg_cat_cv]; exact hcat)) hd ⟨Nat.zero_le _, Nat.zero_le _⟩) hS (fun q _ h => h) (fun q h => h) (fun y u t H1 locs1 ht hvm hw hB hz1 hk1 hS1 => ?_)
  · show 8 + (N.2.2.1 + 11) + 30 * d ≤ R.locals
    have := F.2.2.2.2.2.1
    omega
  · rw [ht] at hB
    exact k y u hw H1 locs1 ls hB hS1 hl
/-! switches -/
theorem fg_sw_at {x : Int32} {T : Nat → Prop} {df : Nat} : ∀ (ts : List Nat) (k j t : Nat), fg_sw x T df k ts → ts[j]? = some t → k + j < 2 ^ 31 → x = Int32.ofNat (k + j) → T t := by
  intro ts
  induction ts with
  | nil => intro k j t _ h; simp at h
  | cons a ts ih =>
    intro k j t h hj hb hx
    cases j with
    | zero =>
      have e : a = t := by simpa using hj
      subst e
      exact h.1 hx
    | succ j =>
      refine ih (k + 1) j t (h.2 ?_) (by simpa using hj) (by omega) (by rw [hx]; congr 1; omega)
      intro e
      rw [e] at hx
      have := (nI_eq (by omega) hb).mp hx
      omega
theorem fg_sw_out {x : Int32} {T : Nat → Prop} {df : Nat} : ∀ (ts : List Nat) (k : Nat), fg_sw x T df k ts → (∀ j, j < ts.length → x ≠ Int32.ofNat (k + j)) → T df := by
  intro ts
  induction ts with
  | nil => intro k h _; exact h
  | cons a ts ih =>
    intro k h hj
    refine ih (k + 1) (h.2 (hj 0 (by simp))) (fun j hl => ?_)
    have := hj (j + 1) (by simp; omega)
    rwa [show k + 1 + j = k + (j + 1) by omega]
theorem fg_o_switch {x : Int32} {df lo hi : Int} {offs : Array Int} {len : Nat} {q : List Nat × Nat} (C : fg_Cx Λ Γ d M) (hd : decode M.2.1 pc = .ok (.tableswitch df lo hi offs, len)) (h1 : lo = 0) (h2 : hi = (q.1.length : Int) - 1) (h3 : q.1.length ≤ 1000) (h4 : (pc : Int) + df = (q.2 : Int)) (h5 : offs.toList.map (fun o => (pc : Int) + o) = q.1.map (fun t : Nat => (t : Int))) (k : fg_sw x (fun t => fg_Wt l Λ Γ M.2.2.1 t L st σ) q.2 0 q.1) : fg_Wt l Λ Γ M.2.2.1 pc L (.int x :: st) σ := by
  obtain ⟨p, e, R, s, m, args, below, meth, c, Qc⟩ := Γ
  obtain ⟨hx, hb, hml, hr, hlk, hown, hts, hE, hf, hlo, hin⟩ := C
  intro H locs ls hP hS hl
  subst h1
  by_cases hc : x.toInt < 0 ∨ hi < x.toInt
  · refine lv_tableOut hx hb hd hc h4 (fg_sw_out _ 0 k (fun j hj e => ?_) H locs ls hP hS hl)
    have : x.toInt = (j : Int) := by rw [e, Nat.zero_add]; exact nI_toInt (by omega)
    omega
  · have hn : ¬ x.toInt < 0 := fun h => hc (Or.inl h)
    have hh : ¬ hi < x.toInt := fun h => hc (Or.inr h)
    have hj : (x.toInt - 0).toNat < q.1.length := by omega
    obtain ⟨t, ht⟩ : ∃ t, q.1[(x.toInt - 0).toNat]? = some t := ⟨_, List.getElem?_eq_getElem hj⟩
    have h6 : (offs.toList.map (fun o => (pc : Int) + o))[(x.toInt - 0).toNat]? = some (t : Int) := by
      rw [h5, List.getElem?_map, ht]
      rfl
    rw [List.getElem?_map] at h6
    cases ho : offs.toList[(x.toInt - 0).toNat]? with
    | none => rw [ho] at h6; cases h6
    | some off =>
      rw [ho] at h6
      have h7 : (pc : Int) + off = (t : Int) := Option.some.inj h6
      refine lv_tableIn hx hb hd hn hh (by rw [← Array.getElem?_toList]; exact ho) h7 (fg_sw_at _ 0 _ t k ht (by omega) ?_ H locs ls hP hS hl)
      rw [Nat.zero_add]
      apply Int32.toInt_inj.mp
      rw [show (Int32.ofNat (x.toInt - 0).toNat).toInt = (((x.toInt - 0).toNat : Nat) : Int) from nI_toInt (by omega)]
      omega
end
