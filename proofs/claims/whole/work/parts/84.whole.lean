/-! THE LAW'S LOOP AND ITS START (laid by wip/whole/gen84.py) -/
section
variable {p : Program} {l : Launch} {e : Env} {s : State} {m : MethodId} {below : List Frame} {meth : Method} {c : Code} {b L : Nat} {xs : Nat → Int32} {Λ : fg_La} {cells slots : Nat}
set_option maxRecDepth 100000 in
set_option maxHeartbeats 4000000 in
theorem lw_loop (C : lw_Cx p s m meth c b L xs Λ) (hc : cells ≤ 600000) (hsl : slots ≤ 7302250) : ∀ (n i : Nat) (σ : fg_St) (H : Heap) (locs : List Loc) (ls : Array Slot), i ≤ L → L + 1 ≤ i + n → lw_Inv σ → va_P (fg_D Λ) vwCl (fg_ws Λ σ) H → va_S (fun q : Nat => s.heap.size ≤ q) s.heap H locs → lv_has ls 4 [(0, .ref b), (1, .ref (Λ.1 0)), (2, .ref (Λ.1 187)), (3, .int (nI i))] → W p l e room_1 s m #[Value.ref b] below meth c H locs cells slots (lw_Z below #[Value.ref b] s) (F0 m 18 ls []) := by
  have C' := C
  obtain ⟨⟨hx, hb, hr, hml, hown, hts0, hX, hbl, hlocks, hgv⟩, hE, hi, hA, hL⟩ := C'
  have hbA : ¬ (fun q : Nat => s.heap.size ≤ q) b := Nat.not_le.mpr hbl
  intro n
  induction n with
  | zero =>
    intro i σ H locs ls h1 h2
    exact absurd h2 (by omega)
  | succ n ih =>
    intro i σ H locs ls h1 h2 hInv hP hS hl
    refine lv_iload_n hx hb dc_law_18 rfl (lv_at hl 3 rfl) ?_
    refine lv_aload_n hx hb dc_law_19 rfl (lv_at hl 0 rfl) ?_
    refine va_slen hx hb hX hbl hbA hS dc_law_20 ?_
    refine lv_iconst (v := 5) hx hb dc_law_21 (by decide) ?_
    refine lv_isub hx hb dc_law_22 ?_
    refine lv_icmp_gt (tgt := 915) hx hb dc_law_23 (by decide) (fun _ => ?_) (fun q => ?_)
    · refine lv_iconst (v := 1) hx hb dc_law_915 (by decide) ?_
      refine va_forget (fun q hq => hS.2.2 q hq) ?_
      refine W.widen (k := 600000) (n := 7302250) hc hsl ?_
      exact lw_ret hx hb hr hlocks dc_law_916
    · have h5 : i + 5 ≤ L := lw_cmp hL h1 q
      have kk : ∀ (u : fg_St) (H1 : Heap) (locs1 : List Loc), lw_Inv u → va_P (fg_D Λ) vwCl (fg_ws Λ u) H1 → va_S (fun q : Nat => s.heap.size ≤ q) s.heap H1 locs1 → W p l e room_1 s m #[Value.ref b] below meth c H1 locs1 cells slots (lw_Z below #[Value.ref b] s) (F0 m 909 ls []) := by
        intro u H1 locs1 hInv hP hS
        refine lv_iinc (v := nI (i + 5)) hx hb dc_law_909 hl (k := 3) rfl (nI_add i 5) (by decide) rfl (fun ls hl => ?_)
        refine lv_goto (tgt := 18) hx hb dc_law_912 (by decide) ?_
        exact ih (i + 5) u H1 locs1 ls h5 (by omega) hInv hP hS (lv_sub hl [1, 2, 3, 0] rfl)
      refine lv_aload_n hx hb dc_law_26 rfl (lv_at hl 0 rfl) ?_
      refine lv_iload_n hx hb dc_law_27 rfl (lv_at hl 3 rfl) ?_
      refine va_sld hx hb hX hbl hbA hS (vp_in_nI (by omega) (by omega)) dc_law_28 ?_
      refine lv_bipush (v := 31) hx hb dc_law_29 (by decide) ?_
      refine lv_iand hx hb dc_law_31 ?_
      generalize xs (nI i).toNatClampNeg &&& 31 = y
      cases hin : fg_isn y 27 with
      | false =>
        have hin := of_decide_eq_false hin
        exact lv_tableOut (tgt := 909) hx hb dc_law_32 (by omega) (by decide) (kk σ H locs hInv hP hS)
      | true =>
        obtain ⟨j, hj, rfl⟩ := fg_isn_t hin (by decide)
        match j, hj with
        | 0, _ => exact lv_tableIn (off := 124) (tgt := 156) hx hb dc_law_32 (by decide) (by decide) rfl (by decide) (lw_case_0 C h5 hl hc hsl hInv hP hS kk)
        | 1, _ => exact lv_tableIn (off := 147) (tgt := 179) hx hb dc_law_32 (by decide) (by decide) rfl (by decide) (lw_case_1 C h5 hl hc hsl hInv hP hS kk)
        | 2, _ => exact lv_tableIn (off := 160) (tgt := 192) hx hb dc_law_32 (by decide) (by decide) rfl (by decide) (lw_case_2 C h5 hl hc hsl hInv hP hS kk)
        | 3, _ => exact lv_tableIn (off := 173) (tgt := 205) hx hb dc_law_32 (by decide) (by decide) rfl (by decide) (lw_case_3 C h5 hl hc hsl hInv hP hS kk)
        | 4, _ => exact lv_tableIn (off := 196) (tgt := 228) hx hb dc_law_32 (by decide) (by decide) rfl (by decide) (lw_case_4 C h5 hl hc hsl hInv hP hS kk)
        | 5, _ => exact lv_tableIn (off := 229) (tgt := 261) hx hb dc_law_32 (by decide) (by decide) rfl (by decide) (lw_case_5 C h5 hl hc hsl hInv hP hS kk)
        | 6, _ => exact lv_tableIn (off := 262) (tgt := 294) hx hb dc_law_32 (by decide) (by decide) rfl (by decide) (lw_case_6 C h5 hl hc hsl hInv hP hS kk)
        | 7, _ => exact lv_tableIn (off := 295) (tgt := 327) hx hb dc_law_32 (by decide) (by decide) rfl (by decide) (lw_case_7 C h5 hl hc hsl hInv hP hS kk)
        | 8, _ => exact lv_tableIn (off := 328) (tgt := 360) hx hb dc_law_32 (by decide) (by decide) rfl (by decide) (lw_case_8 C h5 hl hc hsl hInv hP hS kk)
        | 9, _ => exact lv_tableIn (off := 361) (tgt := 393) hx hb dc_law_32 (by decide) (by decide) rfl (by decide) (lw_case_9 C h5 hl hc hsl hInv hP hS kk)
        | 10, _ => exact lv_tableIn (off := 384) (tgt := 416) hx hb dc_law_32 (by decide) (by decide) rfl (by decide) (lw_case_10 C h5 hl hc hsl hInv hP hS kk)
        | 11, _ => exact lv_tableIn (off := 407) (tgt := 439) hx hb dc_law_32 (by decide) (by decide) rfl (by decide) (lw_case_11 C h5 hl hc hsl hInv hP hS kk)
        | 12, _ => exact lv_tableIn (off := 430) (tgt := 462) hx hb dc_law_32 (by decide) (by decide) rfl (by decide) (lw_case_12 C h5 hl hc hsl hInv hP hS kk)
        | 13, _ => exact lv_tableIn (off := 483) (tgt := 515) hx hb dc_law_32 (by decide) (by decide) rfl (by decide) (lw_case_13 C h5 hl hc hsl hInv hP hS kk)
        | 14, _ => exact lv_tableIn (off := 532) (tgt := 564) hx hb dc_law_32 (by decide) (by decide) rfl (by decide) (lw_case_14 C h5 hl hc hsl hInv hP hS kk)
        | 15, _ => exact lv_tableIn (off := 555) (tgt := 587) hx hb dc_law_32 (by decide) (by decide) rfl (by decide) (lw_case_15 C h5 hl hc hsl hInv hP hS kk)
        | 16, _ => exact lv_tableIn (off := 568) (tgt := 600) hx hb dc_law_32 (by decide) (by decide) rfl (by decide) (lw_case_16 C h5 hl hc hsl hInv hP hS kk)
        | 17, _ => exact lv_tableIn (off := 627) (tgt := 659) hx hb dc_law_32 (by decide) (by decide) rfl (by decide) (lw_case_17 C h5 hl hc hsl hInv hP hS kk)
        | 18, _ => exact lv_tableIn (off := 650) (tgt := 682) hx hb dc_law_32 (by decide) (by decide) rfl (by decide) (lw_case_18 C h5 hl hc hsl hInv hP hS kk)
        | 19, _ => exact lv_tableIn (off := 683) (tgt := 715) hx hb dc_law_32 (by decide) (by decide) rfl (by decide) (lw_case_19 C h5 hl hc hsl hInv hP hS kk)
        | 20, _ => exact lv_tableIn (off := 716) (tgt := 748) hx hb dc_law_32 (by decide) (by decide) rfl (by decide) (lw_case_20 C h5 hl hc hsl hInv hP hS kk)
        | 21, _ => exact lv_tableIn (off := 749) (tgt := 781) hx hb dc_law_32 (by decide) (by decide) rfl (by decide) (lw_case_21 C h5 hl hc hsl hInv hP hS kk)
        | 22, _ => exact lv_tableIn (off := 782) (tgt := 814) hx hb dc_law_32 (by decide) (by decide) rfl (by decide) (lw_case_22 C h5 hl hc hsl hInv hP hS kk)
        | 23, _ => exact lv_tableIn (off := 795) (tgt := 827) hx hb dc_law_32 (by decide) (by decide) rfl (by decide) (lw_case_23 C h5 hl hc hsl hInv hP hS kk)
        | 24, _ => exact lv_tableIn (off := 808) (tgt := 840) hx hb dc_law_32 (by decide) (by decide) rfl (by decide) (lw_case_24 C h5 hl hc hsl hInv hP hS kk)
        | 25, _ => exact lv_tableIn (off := 831) (tgt := 863) hx hb dc_law_32 (by decide) (by decide) rfl (by decide) (lw_case_25 C h5 hl hc hsl hInv hP hS kk)
        | 26, _ => exact lv_tableIn (off := 854) (tgt := 886) hx hb dc_law_32 (by decide) (by decide) rfl (by decide) (lw_case_26 C h5 hl hc hsl hInv hP hS kk)
        | n + 27, hj => exact absurd hj (by omega)
end
theorem lw_inst : ∀ q ∈ vwCl, Jvm.Cond.instantiable q.1 q.2.2 ∈ fg_T := by decide +kernel
theorem lw_nest1 : ∀ w ∈ fg_nest, w ∈ lw_tbl ∧ w.onTables = true := by decide +kernel
theorem lw_nest2 : ∀ w ∈ fc_nest, w ∈ lw_tbl ∧ w.onTables = true := by decide +kernel
theorem lw_ao : (Jvm.Cond.arrayOver (.object "FlagSignals$Deck")) ∈ lw_tbl ∧ (Jvm.Cond.arrayOver (.object "FlagSignals$Image")) ∈ lw_tbl ∧ (Jvm.Cond.arrayClass .int) ∈ lw_tbl ∧ (Jvm.Cond.arrayClass .boolean) ∈ lw_tbl := by decide +kernel
theorem lw_arr {s : State} {args : Array Value} {ty : FieldType} (h : (Jvm.Cond.arrayClass ty).before args s = true) (hty : ∀ cA : ClassId, s.vm.findClass ("[" ++ ty.toString) = some cA → va_RA s cA ty) : ∃ cA : ClassId, ArrOfT s cA ty ∧ va_RA s cA ty := by
  obtain ⟨cA, k, comp, h1, h2, h3⟩ := Cond.arrayClass_spec h
  exact ⟨cA, fun N z => ⟨(fun k h => by cases h), k, h2, comp, h3⟩, hty cA h1⟩
theorem lw_arrO {s : State} {args : Array Value} {C : String} (h : (Jvm.Cond.arrayOver (.object C)).before args s = true) : ∃ cA : ClassId, ArrOfT s cA (.object C) ∧ va_RA s cA (.object C) := by
  obtain ⟨comp, cA, k, h1, -, h2, h3, h4⟩ := Cond.arrayOver_spec h
  exact ⟨cA, fun N z => ⟨(fun k h => by cases h), k, h2, comp, h3⟩, k, comp, h2, h3, h1, h4⟩
theorem lw_E {s : State} {args : Array Value} (hts : ∀ w ∈ lw_tbl, w.before args s = true) : ∃ Λ : fg_La, fc_E Λ s := by
  have htg : ∀ w ∈ fg_T, w.before args s = true := fun w h => hts w (List.mem_filter.mp h).1
  have hcl : ∀ c : Nat, ∃ x : ClassId × (Nat → Nat), ∀ q, vwCl[c]? = some q → u_Kn s q.1 q.2.1 q.2.2 x.1 x.2 := by
    intro c
    cases hq : vwCl[c]? with
    | none => exact ⟨((0 : Nat), fun _ => 0), fun q h => by cases h⟩
    | some q =>
      obtain ⟨cC, iS, hk⟩ := u_known (C := q.1) (T := q.2.1) (N := q.2.2) (n := q.2.2) htg (fc_lay c hq) (htg _ (lw_inst q (List.mem_of_getElem? hq)))
      exact ⟨(cC, iS), fun q' h => by cases h; exact hk⟩
  obtain ⟨cI, i1, i2⟩ := lw_arr (hts _ lw_ao.2.2.1) (fun _ h => h)
  obtain ⟨cZ, z1, z2⟩ := lw_arr (hts _ lw_ao.2.2.2) (fun _ h => h)
  obtain ⟨cD, d1, d2⟩ := lw_arrO (hts _ lw_ao.1)
  obtain ⟨cM, m1, m2⟩ := lw_arrO (hts _ lw_ao.2.1)
  refine ⟨((fun _ => 0), cI, cZ, cD, cM, (fun c => (Classical.choose (hcl c)).1), fun c => (Classical.choose (hcl c)).2), ⟨⟨fun c q hq => Classical.choose_spec (hcl c) q hq, fun k q hq => ?_⟩, fun w hw => va_Nw.of (lw_nest1 w hw).2 (hts w (lw_nest1 w hw).1)⟩, fun w hw => va_Nw.of (lw_nest2 w hw).2 (hts w (lw_nest2 w hw).1), va_AO.of (hts _ lw_ao.1), va_AO.of (hts _ lw_ao.2.1)⟩
  match k, hq with
  | 0, hq => cases hq; exact ⟨i1, i2⟩
  | 1, hq => cases hq; exact ⟨z1, z2⟩
  | 2, hq => cases hq; exact ⟨d1, d2⟩
  | 3, hq => cases hq; exact ⟨m1, m2⟩
  | k + 4, hq => cases hq
set_option maxHeartbeats 4000000 in
set_option maxRecDepth 100000 in
theorem whole_start {p : Program} {e : Env} {s : State} {m : MethodId} {below : List Frame} {meth : Method} {c : Code} (l : Launch) {b L : Nat} {xs : Nat → Int32} (hL : L ≤ 2560) (C0 : lw_At p s m meth c b L xs) : W p l e room_1 s m #[Value.ref b] below meth c s.heap [] 0 0 (lw_Z below #[Value.ref b] s) (entryFrame m ([Value.ref b] : List Value).toArray 4) := by
  obtain ⟨hx, hb, hr, hml, hown, hts0, hX, hbl, hlocks, hgv⟩ := id C0
  obtain ⟨Λ, hE⟩ := lw_E hts0
  have hts : ∀ w ∈ fg_T, w.before #[Value.ref b] s = true := fun w h => hts0 w (List.mem_filter.mp h).1
  obtain ⟨A, eA⟩ : ∃ A : Nat → Prop, A = fun q : Nat => s.heap.size ≤ q := ⟨_, rfl⟩
  have hA : ∀ q : Nat, s.heap.size ≤ q → A q := fun q h => by rw [eA]; exact h
  have hS : va_S A s.heap s.heap [] := va_S.rf
  have hP : va_P (fg_D Λ) vwCl [] s.heap := fun k q h => by simp at h
  have hD : va_D A [] := ⟨fun i j p q h => by simp at h, fun k q h => by simp at h⟩
  have hl := lv_entry ([.ref b]) (n := 4) (Nat.le_of_ble_eq_true rfl)
  rw [lg_entry_eq]
  generalize (lg_sl ([.ref b]) ++ List.replicate (4 - (lg_sl ([.ref b])).length) Slot.unset).toArray = ls at hl ⊢
  have hl : lv_has ls 4 [(0, .ref b)] := hl
  refine fc_sub (host := "FlagSignals") (C := "FlagSignals") (T := TX9) (N := 13) (ci := 9) (k := 3) (Λ := Λ) (mc := 186) (ms := 4146) (fs := [.null, .null, .null, .null, .null, .null, .null, .null, .null, .null, .null, .int 0, .int 0]) (post := fc_p9 Λ) ⟨hx, hb, hml, hown, hts⟩ hE hP hD hS hA rfl tyX9 tyX9_ok (by decide) (hts _ (fg_w_in (w := 87) (c := .classLink R_law 7 "FlagSignals") (by decide +kernel) (by decide +kernel))) (hts _ (fg_w_in (w := 88) (c := .instantiable "FlagSignals" 13) (by decide +kernel) (by decide +kernel))) (hts _ (fg_w_in (w := 73) (c := .initialized "FlagSignals") (by decide +kernel) (by decide +kernel))) (fun h0 sz => fc_init9 l h0 sz) ⟨Or.inr (callB_of 0 hts (fc_good (fg_w_in (w := 91) (c := .code yX9_init cX9_init 2 none) (by decide +kernel) (by decide +kernel))) rfl rfl rfl (hts _ (fg_w_in (w := 73) (c := .initialized "FlagSignals") (by decide +kernel) (by decide +kernel))) (hts _ (fg_w_in (w := 89) (c := .methodLink R_law 9 yX9_init) (by decide +kernel) (by decide +kernel))) ⟨by decide, by decide, rfl⟩ ⟨Nat.le_of_ble_eq_true rfl, Nat.le_of_ble_eq_true rfl⟩), rfl, (hts _ (fg_w_in (w := 90) (c := .instanceMethod yX9_init) (by decide +kernel) (by decide +kernel)))⟩ hl.1 (Nat.le_of_ble_eq_true rfl) (Nat.le_of_ble_eq_true rfl) (Nat.le_of_ble_eq_true rfl) dc_law_0 dc_law_3 dc_law_4 (fun h0 w1 H locs hw1 hP hD hS => ?_)
  obtain ⟨a, u, ea, gi, gm, gk, rfl⟩ := hw1
  obtain ⟨u1, u2, F, R⟩ := u
  have e1 : u1 = 3 := gm.1.1
  have e2 : u2 = 9 := gm.1.2
  subst e1
  subst e2
  refine lv_astore_n hx hb dc_law_7 rfl hl (by decide) rfl (fun ls hl => ?_)
  refine fc_sub (host := "FlagSignals") (C := "FlagSignalsModel") (T := TX10) (N := 37) (ci := 10) (k := 1) (Λ := Λ) (mc := 21) (ms := 3731) (fs := [.int 0, .int 0, .int 0, .null, .int 0, .null, .null, .null, .int 0, .null, .int 0, .int 0, .int 0, .int 0, .int 0, .int 0, .int 0, .null, .int 0, .null, .null, .null, .null, .null, .null, .null, .int 0, .null, .null, .null, .int 0, .null, .int 0, .null, .null, .null, .null]) (post := fc_p10 Λ) ⟨hx, hb, hml, hown, hts⟩ hE hP hD hS hA rfl tyX10 tyX10_ok (by decide) (hts _ (fg_w_in (w := 873) (c := .classLink R_law 10 "FlagSignalsModel") (by decide +kernel) (by decide +kernel))) (hts _ (fg_w_in (w := 874) (c := .instantiable "FlagSignalsModel" 37) (by decide +kernel) (by decide +kernel))) (hts _ (fg_w_in (w := 83) (c := .initialized "FlagSignalsModel") (by decide +kernel) (by decide +kernel))) (fun h0 sz => fc_init10 l h0 sz) ⟨Or.inr (callB_of 0 hts (fc_good (fg_w_in (w := 877) (c := .code yX10_init cX10_init 1 none) (by decide +kernel) (by decide +kernel))) rfl rfl rfl (hts _ (fg_w_in (w := 83) (c := .initialized "FlagSignalsModel") (by decide +kernel) (by decide +kernel))) (hts _ (fg_w_in (w := 875) (c := .methodLink R_law 12 yX10_init) (by decide +kernel) (by decide +kernel))) ⟨by decide, by decide, rfl⟩ ⟨Nat.le_of_ble_eq_true rfl, Nat.le_of_ble_eq_true rfl⟩), rfl, (hts _ (fg_w_in (w := 876) (c := .instanceMethod yX10_init) (by decide +kernel) (by decide +kernel)))⟩ hl.1 (Nat.le_of_ble_eq_true rfl) (Nat.le_of_ble_eq_true rfl) (Nat.le_of_ble_eq_true rfl) dc_law_8 dc_law_11 dc_law_12 (fun q0 w1 H locs hw1 hP hD hS => ?_)
  obtain ⟨q, rfl⟩ := hw1
  refine lv_astore_n hx hb dc_law_15 rfl hl (by decide) rfl (fun ls hl => ?_)
  refine lv_iconst (v := 0) hx hb dc_law_16 (by decide) ?_
  refine lv_istore_n hx hb dc_law_17 rfl hl (by decide) rfl (fun ls hl => ?_)
  obtain ⟨gP, gI, gA⟩ := fc_all hP hD
  subst ea
  have fi := fc_first gm gk
  subst eA
  exact lw_loop (Λ := (fc_b a q0 q, Λ.2)) ⟨C0, hE.1, gI, gA, hL⟩ (Nat.le_of_ble_eq_true rfl) (Nat.le_of_ble_eq_true rfl) (L + 1) 0 (fc_u (3, 9, F, R)) H locs ls (Nat.zero_le _) (by omega) ⟨_, _, _, _, _, _, _, _, _, fi.1, fi.2⟩ gP hS (lv_sub hl [3, 2, 1, 0] rfl)
set_option maxHeartbeats 4000000 in
theorem lw_walk (l : Launch) (b : Addr) (xs : List Int32) : MetFree l x (headSpec (Jvm.Cond.code x code maxLocals ret :: tables_1) room_1) (lw_P b xs) (fun _ _ _ _ _ => True) lw_Q := by
  refine MetFree.of_bodyS (code := code) (maxLocals := maxLocals) (ret := ret) (by decide) ?_ ?_
  · intro args s m h hn
    obtain ⟨meth, c, h1, h2, h3, h4, h5, h6, -, -⟩ := Cond.code_spec hn (atoms_spec (ws := Jvm.Cond.code x code maxLocals ret :: tables_1) h _ List.mem_cons_self)
    exact ⟨meth, c, h1, h2, h3, h4, h5, h6⟩
  · intro p e s m args below meth c s₁ B hml0 hP _
    obtain ⟨rfl, hx, hbd, hgv⟩ := hP
    obtain ⟨scr, harrAt, hlist, hof, hsmall⟩ := hx
    obtain ⟨hcb, hkn, -, -⟩ := State.arrayAt?_spec harrAt
    have hown : s.vm.findClass R_law = some m.cls := findClass_of_methodNamed B.named
    have hts0 : ∀ c ∈ (Jvm.Cond.code x code maxLocals ret :: tables_1), c.before #[Value.ref b] s = true := atoms_spec (ws := Jvm.Cond.code x code maxLocals ret :: tables_1) B.pre
    have hts : ∀ w ∈ lw_tbl, w.before #[Value.ref b] s = true := k2_hts_sels lw_privs (fun w hw => hts0 w (List.mem_cons_of_mem _ hw)) lw_privs_ok
    have hml : c.maxLocals = 4 := B.maxLocals_eq (hts0 _ List.mem_cons_self)
    have X₀ : Stand p l e room_1 s m #[Value.ref b] below meth c s₁ [] 0 0 := Stand.of_body B
    have hh0 : s₁.heap = s.heap := by rw [B.state]; rfl
    have hsz : scr.slots.size = xs.length := by rw [← Array.length_toList, hlist, List.length_map]
    have hval : ∀ j : Nat, j < xs.length → scr.slots[j]? = some (.int (xs.getD j 0)) := fun j hj => by
      rw [← Array.getElem?_toList, hlist]
      simp [hj]
    have hbl : b < s.heap.size := (Array.getElem?_eq_some_iff.mp hcb).1
    have hX : va_X b xs.length (fun j => xs.getD j 0) s s.heap := ⟨scr, hcb, hof, hkn, hsz, hval⟩
    have K : W p l e room_1 s m #[Value.ref b] below meth c s₁.heap [] 0 0 (lw_Z below #[Value.ref b] s) (entryFrame m ([Value.ref b] : List Value).toArray 4) := by
      rw [hh0]
      exact whole_start l hbd ⟨B.exec, B.bytes, B.returns, hml, hown, hts, hX, hbl, B.notSynchronized, hgv⟩
    obtain ⟨t, a1, o, b1, b2, b3⟩ := K s₁ rfl X₀
    exact ⟨t, o, a1, b1, b2, b3⟩
theorem lw_pre_spec {args : Array Value} {s : State} (h : (Jvm.Cond.and given_1 narrow_1).before args s = true) (hr : rest_1_c.before args s = true) : ∃ (b : Addr) (xs : List Int32), lw_P b xs args s := by
  have hs := flat_of_before _ h
  have hq := flat_of_before _ hr
  have hc : (Cond.count 1).before args s = true := hs _ (by decide +kernel)
  have harr : (Cond.arrayOf (.arg 0) .int).before args s = true := hs _ (by decide +kernel)
  have hle : (Cond.le (.length (.arg 0)) (.int 2560)).before args s = true := hs _ (by decide +kernel)
  have hlen : (Cond.isInt (.length (.arg 0))).before args s = true := hq _ (by decide +kernel)
  have hall : (Cond.all (.arg 0) (.isInt (.elem (.arg 0) (.index 0)))).before args s = true := hq _ (by decide +kernel)
  obtain ⟨b, xs, hb, hx⟩ := State.ints_of_pre rfl harr hlen hall
  have hsm : xs.length < 2 ^ 31 := hx.choose_spec.2.2.2
  have hev : (Term.length (.arg 0)).eval args s none [] s = some (.int xs.length.toInt32) := hx.length_eval hb
  have hv := Cond.le_ints hev (show (Term.int 2560).eval args s none [] s = some (.int 2560) from rfl)
  have hd : xs.length.toInt32 ≤ 2560 := by
    simpa [Cond.before, Cond.holds, hv] using hle
  have hN : xs.length ≤ 2560 := (Int32.ofNat_le_ofNat hsm (by decide)).mp (show Int32.ofNat xs.length ≤ Int32.ofNat 2560 from hd)
  exact ⟨b, xs, Cond.one_arg hc (show args[0]? = some (.ref b) from hb), hx, hN, h⟩
theorem lw_comes (l : Launch) : Comes l x (Jvm.Cond.code x code maxLocals ret :: tables_1) room_1 (fun tb e args s => Calls_1 tb e args s ∧ rest_1 tb e args s ∧ Pre_1 tb e args s)
    (fun _ _ args s o t => lw_Q args s o t) := by
  intro p e ha hc hk s m args below hf hfit hheap happ hpre
  obtain ⟨b, xs, hP⟩ := lw_pre_spec hpre.2.2 hpre.2.1
  obtain ⟨k, o, h1, h2, h3, hQ⟩ := lw_walk l b xs p e ha hc hk s m args below hf ((Spec.applies_iff_loose hf).mp happ).1 hP trivial
  exact ⟨k, o, h1, h2, h3, hQ⟩
theorem lw_frame {s t : State} {o : Outcome} {args : Array Value} (h : Framed s o t [] 600000 7302250) :
    Framed s o t (fieldLocs frame_1_writes args s ++ arrayLocs frame_1_arrays args s ++ staticLocs frame_1_statics s) 600000 7302250 := h
theorem lw_limb (L : Cond) (hL : ∀ (args : Array Value) (s t : State), L.after args s (.returned (some (.int 1))) t = true) :
    ArmFor flags0 classFile x code maxLocals ret World_1 tables_1 room_1 Calls_1 rest_1 Pre_1
      (fun tb e a s o t => postC L tb e a s o t ∧ Framed s o t (fieldLocs frame_1_writes a s ++ arrayLocs frame_1_arrays a s ++ staticLocs frame_1_statics s) 600000 7302250) := by
  intro l _ _ _ p e ha hc hk s m args below hf hfit hheap happ hpre
  obtain ⟨k, o, h1, h2, h3, rfl, hF⟩ := lw_comes l p e ha hc hk s m args below hf hfit hheap happ hpre
  exact ⟨k, _, h1, h2, h3, hL args s _, lw_frame hF⟩
theorem i_vc : Claimed_1_1 ∧ Claimed_1_2 := ⟨lw_limb limb_1_1 (fun args s t => by simp [limb_1_1, Cond.after, Cond.holds, Cond.value]), lw_limb limb_1_2 (fun args s t => Cond.after_iff.mpr (by
  first | (rw [show limb_1_2 = Cond.eq .result (.int 1) from rfl, Cond.eq_ints (x := 1) (y := 1) rfl rfl]; simp; done) | (simp [limb_1_2, Cond.value, Term.eval]; done)))⟩
