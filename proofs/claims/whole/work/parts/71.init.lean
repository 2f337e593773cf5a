/-! CONSTRUCTORS THAT CALL NO OTHER (laid by wip/whole/geninit.py) -/
def fc_rm (d c s : Nat) : Room := { frames := d, cells := c, slots := s, locals := 30 * d }
/-- the links of private constructors -/
def fc_nest : List Cond := [.methodLinkNest "FlagSignals" 11 yX7_init "FlagSignals", .methodLinkNest "FlagSignals" 18 yX6_init "FlagSignals", .methodLinkNest "FlagSignals" 28 yX0_init "FlagSignals", .methodLinkNest "FlagSignals$Past" 24 yX0_init "FlagSignals", .methodLinkNest "FlagSignals" 48 yX3_init "FlagSignals", .methodLinkNest "FlagSignals" 55 yX2_init "FlagSignals", .methodLinkNest "FlagSignals" 62 yX8_init "FlagSignals", .methodLinkNest "FlagSignals" 69 yX5_init "FlagSignals", .methodLinkNest "FlagSignals" 85 yX1_init "FlagSignals", .methodLinkNest "FlagSignals$Image" 9 yX0_init "FlagSignals"]
def fc_E (Λ : fg_La) (U : State) : Prop := fg_E Λ U ∧ (∀ w ∈ fc_nest, va_Nw w U) ∧ va_AO "FlagSignals$Deck" U ∧ va_AO "FlagSignals$Image" U
def fc_Pre (Λ : fg_La) (sz : Nat) (ws : va_W) (U : State) : Prop := U.heap.size = sz ∧ va_P (fg_D Λ) vwCl ws U.heap ∧ va_D (fun _ => True) ws ∧ fc_E Λ U
def fc_B (Λ : fg_La) (A : Nat → Prop) (w : va_W) (t : State) : Prop := va_P (fg_D Λ) vwCl w t.heap ∧ va_D A w
theorem fc_E.warm {Λ : fg_La} {s U : State} (h : fc_E Λ s) (hW : s.WarmedH U.vm) : fc_E Λ U := by
  refine ⟨h.1.warm hW, fun w hw => ?_, h.2.2.1.moved hW.alike, h.2.2.2.moved hW.alike⟩
  have h2 := h.2.1 w hw
  simp only [fc_nest, List.mem_cons, List.not_mem_nil, or_false] at hw
  rcases hw with rfl | rfl | rfl | rfl | rfl | rfl | rfl | rfl | rfl | rfl <;> exact va_Nw.warmM hW h2
theorem fc_E.calling {Λ : fg_La} {U : State} (h : fc_E Λ U) (g : JFrame) (mk : MethodId) (a : Array Value) : fc_E Λ (U.calling g mk a) := by
  refine ⟨h.1.calling g mk a, fun w hw => ?_, va_AO.moved (u := U) (U := U.calling g mk a) (Vm.Alike.refl U.vm) h.2.2.1, va_AO.moved (u := U) (U := U.calling g mk a) (Vm.Alike.refl U.vm) h.2.2.2⟩
  have h2 := h.2.1 w hw
  simp only [fc_nest, List.mem_cons, List.not_mem_nil, or_false] at hw
  rcases hw with rfl | rfl | rfl | rfl | rfl | rfl | rfl | rfl | rfl | rfl <;> exact va_Nw.same rfl rfl h2
theorem fc_lay (ci : Nat) {q : vw_C} (h : vwCl[ci]? = some q) : ∀ w ∈ u_ws q.1 q.2.1 q.2.2, w ∈ fg_T := fg_lays q (List.mem_of_getElem? h)
section
variable {p : Program} {l : Launch} {e : Env} {R : Room} {s : State} {m : MethodId} {args : Array Value} {below : List Frame} {meth : Method} {c : Code} {H : Heap} {locs : List Loc} {cells slots : Nat} {Q : State → Prop}
variable {cc : ByteArray} {pc : Nat} {ls : Array Slot} {rest : List Value} {Λ : fg_La} {A : Nat → Prop} {ws : va_W} {H0 : Heap}
theorem fc_newI {N : Nat} (hexec : p.tables.exec = Jvm.exec) (hb : c.code = cc) (harr : (Cond.arrayClass .int).before args s = true) (hK : va_K (fg_D Λ) vwCl (fg_tys Λ) s) (hP : va_P (fg_D Λ) vwCl ws H) (hD : va_D A ws) (hS : va_S A H0 H locs) (hA : ∀ q, H0.size ≤ q → A q) (hN : N < 2 ^ 31) (hby : N * 4 ≤ 536870912) (hc : cells + 1 ≤ R.cells) (hs : slots + N ≤ R.slots) (hd : decode cc pc = .ok (.newarray .int, 2)) (kk : ∀ (q : Nat) (H1 : Heap), va_P (fg_D Λ) vwCl (ws ++ [(q, .inl (Λ.2.1, N, .inl (fun _ => 0)))]) H1 → va_D A (ws ++ [(q, .inl (Λ.2.1, N, .inl (fun _ => 0)))]) → va_S A H0 H1 locs → W p l e R s m args below meth c H1 locs (cells + 1) (slots + N) Q (F0 m (pc + 2) ls (.ref q :: rest))) : W p l e R s m args below meth c H locs cells slots Q (F0 m pc ls (.int (nI N) :: rest)) := by
  refine va_newa (atype := .int) (ty := .int) (a0 := (N, .inl (fun _ => 0))) hexec hb harr rfl hK hP hD hS hA (fun _ => rfl) (nI_pos hN) (nI_clamp hN) hby hc hs hd (fun q cA H1 hK1 hP1 hD1 hS1 => ?_)
  have e1 := va_nm_int (hK1.2 4 _ rfl).2
  have e2 := va_nm_int (hK.2 0 _ rfl).2
  have e3 : cA = Λ.2.1 := Option.some.inj (e1.symm.trans e2)
  rw [e3] at hP1 hD1
  exact kk q H1 hP1 hD1 hS1
theorem fc_newZ {N : Nat} (hexec : p.tables.exec = Jvm.exec) (hb : c.code = cc) (harr : (Cond.arrayClass .boolean).before args s = true) (hK : va_K (fg_D Λ) vwCl (fg_tys Λ) s) (hP : va_P (fg_D Λ) vwCl ws H) (hD : va_D A ws) (hS : va_S A H0 H locs) (hA : ∀ q, H0.size ≤ q → A q) (hN : N < 2 ^ 31) (hby : N * 1 ≤ 536870912) (hc : cells + 1 ≤ R.cells) (hs : slots + N ≤ R.slots) (hd : decode cc pc = .ok (.newarray .boolean, 2)) (kk : ∀ (q : Nat) (H1 : Heap), va_P (fg_D Λ) vwCl (ws ++ [(q, .inl (Λ.2.2.1, N, .inl (fun _ => 0)))]) H1 → va_D A (ws ++ [(q, .inl (Λ.2.2.1, N, .inl (fun _ => 0)))]) → va_S A H0 H1 locs → W p l e R s m args below meth c H1 locs (cells + 1) (slots + N) Q (F0 m (pc + 2) ls (.ref q :: rest))) : W p l e R s m args below meth c H locs cells slots Q (F0 m pc ls (.int (nI N) :: rest)) := by
  refine va_newa (atype := .boolean) (ty := .boolean) (a0 := (N, .inl (fun _ => 0))) hexec hb harr rfl hK hP hD hS hA (fun _ => rfl) (nI_pos hN) (nI_clamp hN) hby hc hs hd (fun q cA H1 hK1 hP1 hD1 hS1 => ?_)
  have e1 := va_nm_boolean (hK1.2 4 _ rfl).2
  have e2 := va_nm_boolean (hK.2 1 _ rfl).2
  have e3 : cA = Λ.2.2.1 := Option.some.inj (e1.symm.trans e2)
  rw [e3] at hP1 hD1
  exact kk q H1 hP1 hD1 hS1
end
theorem dc_cX0_init_0 : decode cX0_init 0 = .ok (.aload_n 0, 1) := by decide +kernel
theorem dc_cX0_init_1 : decode cX0_init 1 = .ok (.invokespecial 3, 3) := by decide +kernel
theorem dc_cX0_init_4 : decode cX0_init 4 = .ok (.aload_n 0, 1) := by decide +kernel
theorem dc_cX0_init_5 : decode cX0_init 5 = .ok (.bipush 10, 2) := by decide +kernel
theorem dc_cX0_init_7 : decode cX0_init 7 = .ok (.newarray .int, 2) := by decide +kernel
theorem dc_cX0_init_9 : decode cX0_init 9 = .ok (.putfield 9, 3) := by decide +kernel
theorem dc_cX0_init_12 : decode cX0_init 12 = .ok (.aload_n 0, 1) := by decide +kernel
theorem dc_cX0_init_13 : decode cX0_init 13 = .ok (.bipush 10, 2) := by decide +kernel
theorem dc_cX0_init_15 : decode cX0_init 15 = .ok (.newarray .int, 2) := by decide +kernel
theorem dc_cX0_init_17 : decode cX0_init 17 = .ok (.putfield 15, 3) := by decide +kernel
theorem dc_cX0_init_20 : decode cX0_init 20 = .ok (.aload_n 0, 1) := by decide +kernel
theorem dc_cX0_init_21 : decode cX0_init 21 = .ok (.bipush 10, 2) := by decide +kernel
theorem dc_cX0_init_23 : decode cX0_init 23 = .ok (.newarray .int, 2) := by decide +kernel
theorem dc_cX0_init_25 : decode cX0_init 25 = .ok (.putfield 18, 3) := by decide +kernel
theorem dc_cX0_init_28 : decode cX0_init 28 = .ok (.aload_n 0, 1) := by decide +kernel
theorem dc_cX0_init_29 : decode cX0_init 29 = .ok (.bipush 10, 2) := by decide +kernel
theorem dc_cX0_init_31 : decode cX0_init 31 = .ok (.newarray .int, 2) := by decide +kernel
theorem dc_cX0_init_33 : decode cX0_init 33 = .ok (.putfield 21, 3) := by decide +kernel
theorem dc_cX0_init_36 : decode cX0_init 36 = .ok (.aload_n 0, 1) := by decide +kernel
theorem dc_cX0_init_37 : decode cX0_init 37 = .ok (.bipush 10, 2) := by decide +kernel
theorem dc_cX0_init_39 : decode cX0_init 39 = .ok (.newarray .int, 2) := by decide +kernel
theorem dc_cX0_init_41 : decode cX0_init 41 = .ok (.putfield 24, 3) := by decide +kernel
theorem dc_cX0_init_44 : decode cX0_init 44 = .ok (.aload_n 0, 1) := by decide +kernel
theorem dc_cX0_init_45 : decode cX0_init 45 = .ok (.iconst 3, 1) := by decide +kernel
theorem dc_cX0_init_46 : decode cX0_init 46 = .ok (.newarray .int, 2) := by decide +kernel
theorem dc_cX0_init_48 : decode cX0_init 48 = .ok (.putfield 27, 3) := by decide +kernel
theorem dc_cX0_init_51 : decode cX0_init 51 = .ok (.aload_n 0, 1) := by decide +kernel
theorem dc_cX0_init_52 : decode cX0_init 52 = .ok (.bipush 12, 2) := by decide +kernel
theorem dc_cX0_init_54 : decode cX0_init 54 = .ok (.newarray .int, 2) := by decide +kernel
theorem dc_cX0_init_56 : decode cX0_init 56 = .ok (.putfield 30, 3) := by decide +kernel
theorem dc_cX0_init_59 : decode cX0_init 59 = .ok (.aload_n 0, 1) := by decide +kernel
theorem dc_cX0_init_60 : decode cX0_init 60 = .ok (.iconst 0, 1) := by decide +kernel
theorem dc_cX0_init_61 : decode cX0_init 61 = .ok (.putfield 33, 3) := by decide +kernel
theorem dc_cX0_init_64 : decode cX0_init 64 = .ok (.aload_n 0, 1) := by decide +kernel
theorem dc_cX0_init_65 : decode cX0_init 65 = .ok (.iconst 0, 1) := by decide +kernel
theorem dc_cX0_init_66 : decode cX0_init 66 = .ok (.putfield 37, 3) := by decide +kernel
theorem dc_cX0_init_69 : decode cX0_init 69 = .ok (.aload_n 0, 1) := by decide +kernel
theorem dc_cX0_init_70 : decode cX0_init 70 = .ok (.iconst 0, 1) := by decide +kernel
theorem dc_cX0_init_71 : decode cX0_init 71 = .ok (.putfield 40, 3) := by decide +kernel
theorem dc_cX0_init_74 : decode cX0_init 74 = .ok (.aload_n 0, 1) := by decide +kernel
theorem dc_cX0_init_75 : decode cX0_init 75 = .ok (.iconst 0, 1) := by decide +kernel
theorem dc_cX0_init_76 : decode cX0_init 76 = .ok (.putfield 43, 3) := by decide +kernel
theorem dc_cX0_init_79 : decode cX0_init 79 = .ok (.aload_n 0, 1) := by decide +kernel
theorem dc_cX0_init_80 : decode cX0_init 80 = .ok (.iconst 0, 1) := by decide +kernel
theorem dc_cX0_init_81 : decode cX0_init 81 = .ok (.putfield 46, 3) := by decide +kernel
theorem dc_cX0_init_84 : decode cX0_init 84 = .ok (.return_, 1) := by decide +kernel
def fc_W0 (Λ : fg_La) (h0 : Nat) (q : Nat → Nat) : va_W := [(h0, .inr (0, [.ref (q 1), .ref (q 2), .ref (q 3), .ref (q 4), .ref (q 5), .ref (q 6), .ref (q 7), .int 0, .int 0, .int 0, .int 0, .int 0])), (q 1, .inl (Λ.2.1, 10, .inl (fun _ => 0))), (q 2, .inl (Λ.2.1, 10, .inl (fun _ => 0))), (q 3, .inl (Λ.2.1, 10, .inl (fun _ => 0))), (q 4, .inl (Λ.2.1, 10, .inl (fun _ => 0))), (q 5, .inl (Λ.2.1, 10, .inl (fun _ => 0))), (q 6, .inl (Λ.2.1, 3, .inl (fun _ => 0))), (q 7, .inl (Λ.2.1, 12, .inl (fun _ => 0)))]
set_option maxHeartbeats 4000000 in
set_option maxRecDepth 100000 in
theorem fc_init0 (l : Launch) {Λ : fg_La} (h0 sz : Nat) : Met l yX0_init (.code yX0_init cX0_init 1 none :: fg_T) (fc_rm 1 7 65) (va_Pc [.ref h0] (fc_Pre Λ sz [(h0, .inr (0, [.null, .null, .null, .null, .null, .null, .null, .int 0, .int 0, .int 0, .int 0, .int 0]))])) (va_Qv (fun w : va_W => ∃ q : Nat → Nat, w = fc_W0 Λ h0 q) (fc_B Λ (va_A [(h0, .inr (0, [.null, .null, .null, .null, .null, .null, .null, .int 0, .int 0, .int 0, .int 0, .int 0]))] sz)) (va_A [(h0, .inr (0, [.null, .null, .null, .null, .null, .null, .null, .int 0, .int 0, .int 0, .int 0, .int 0]))] sz)) 7 65 (va_A [(h0, .inr (0, [.null, .null, .null, .null, .null, .null, .null, .int 0, .int 0, .int 0, .int 0, .int 0]))] sz) := by
  refine Met.ofW (cc := cX0_init) (maxL := 1) (ret := none) (by decide) rfl ?_
  intro p e s m args below meth c s₁ B hml hv
  obtain ⟨rfl, hsz, hP, hD0, hE⟩ := hv
  have hx := B.exec
  have hb := B.bytes
  have hr := B.returns
  have hts0 := atoms_spec (ws := .code yX0_init cX0_init 1 none :: fg_T) B.pre
  have hts : ∀ w ∈ fg_T, w.before (([.ref h0] : List Value).toArray) s = true := fun w hw => hts0 w (List.mem_cons_of_mem _ hw)
  have hown : s.vm.findClass RX0 = some m.cls := findClass_of_methodNamed B.named
  have hlocks := B.notSynchronized
  have hin : meth.name = "<init>" := (name_of_methodNamed B.named B.method).1
  subst hsz
  have hD := hD0.self (sz := s.heap.size)
  generalize hAe : va_A [(h0, .inr (0, [.null, .null, .null, .null, .null, .null, .null, .int 0, .int 0, .int 0, .int 0, .int 0]))] s.heap.size = A at hD ⊢
  have hA : ∀ q : Nat, s.heap.size ≤ q → A q := fun q h => by rw [← hAe]; exact Or.inr h
  have hS : va_S A s.heap s.heap [] := va_S.rf
  have hK := hE.1.1
  have hP : va_P (fg_D Λ) vwCl [(h0, .inr (0, [.null, .null, .null, .null, .null, .null, .null, .int 0, .int 0, .int 0, .int 0, .int 0]))] s.heap := hP
  have hl := lv_entry ([.ref h0]) (n := 1) (Nat.le_of_ble_eq_true rfl)
  rw [lg_entry_eq]
  generalize (lg_sl ([.ref h0]) ++ List.replicate (1 - (lg_sl ([.ref h0])).length) Slot.unset).toArray = ls at hl ⊢
  have hl : lv_has ls 1 [(0, .ref h0)] := hl
  refine lv_aload_n hx hb dc_cX0_init_0 rfl (lv_at hl 0 rfl) ?_
  refine W.objInit hx hb hown (hts _ (fg_w_in (w := 174) (c := .methodLink RX0 3 objectInit) (by decide +kernel) (by decide +kernel))) (hts _ (fg_w_in (w := 93) (c := .instanceMethod objectInit) (by decide +kernel) (by decide +kernel))) (hts _ (fg_w_in (w := 94) (c := .code objectInit ⟨#[0xb1]⟩ 1 none) (by decide +kernel) (by decide +kernel))) rfl (by rw [hml]; exact hl.1) rfl dc_cX0_init_1 (Nat.le_of_ble_eq_true rfl) (Nat.le_of_ble_eq_true rfl) ?_
  refine W.eq (g2 := F0 m 4 ls []) rfl ?_
  refine lv_aload_n hx hb dc_cX0_init_4 rfl (lv_at hl 0 rfl) ?_
  refine lv_bipush (v := 10) hx hb dc_cX0_init_5 (by decide) ?_
  refine fc_newI (N := 10) hx hb (hts _ (fg_w_in (w := 119) (c := .arrayClass .int) (by decide +kernel) (by decide +kernel))) hK hP hD hS hA (by decide) (by decide) (Nat.le_of_ble_eq_true rfl) (Nat.le_of_ble_eq_true rfl) dc_cX0_init_7 (fun q1 H hP hD hS => ?_)
  refine va_putF (D := fg_D Λ) (ci := 0) (v := .ref q1) (ty := .array .int) (C := RX0) (T := TX0) (N := 12) hx hb hts (fc_lay 0 rfl) tyX0 tyX0_ok nmX0 hown hK hP hD hS 0 rfl rfl 0 (by decide) (hts _ (fg_w_in (w := 175) (c := .fieldLink RX0 9 "FlagSignals$Deck" "kinds" "[I") (by decide +kernel) (by decide +kernel))) (fun _ h9 => h9) rfl hin rfl (by decide +kernel) rfl rfl (Nat.le_of_ble_eq_true rfl) dc_cX0_init_9 (fun H locs hP hD hS => ?_)
  have hP : va_P (fg_D Λ) vwCl [(h0, .inr (0, [.ref q1, .null, .null, .null, .null, .null, .null, .int 0, .int 0, .int 0, .int 0, .int 0])), (q1, .inl (Λ.2.1, 10, .inl (fun _ => 0)))] H := hP
  have hD : va_D A [(h0, .inr (0, [.ref q1, .null, .null, .null, .null, .null, .null, .int 0, .int 0, .int 0, .int 0, .int 0])), (q1, .inl (Λ.2.1, 10, .inl (fun _ => 0)))] := hD
  refine lv_aload_n hx hb dc_cX0_init_12 rfl (lv_at hl 0 rfl) ?_
  refine lv_bipush (v := 10) hx hb dc_cX0_init_13 (by decide) ?_
  refine fc_newI (N := 10) hx hb (hts _ (fg_w_in (w := 119) (c := .arrayClass .int) (by decide +kernel) (by decide +kernel))) hK hP hD hS hA (by decide) (by decide) (Nat.le_of_ble_eq_true rfl) (Nat.le_of_ble_eq_true rfl) dc_cX0_init_15 (fun q2 H hP hD hS => ?_)
  refine va_putF (D := fg_D Λ) (ci := 0) (v := .ref q2) (ty := .array .int) (C := RX0) (T := TX0) (N := 12) hx hb hts (fc_lay 0 rfl) tyX0 tyX0_ok nmX0 hown hK hP hD hS 0 rfl rfl 1 (by decide) (hts _ (fg_w_in (w := 177) (c := .fieldLink RX0 15 "FlagSignals$Deck" "fores" "[I") (by decide +kernel) (by decide +kernel))) (fun _ h9 => h9) rfl hin rfl (by decide +kernel) rfl rfl (Nat.le_of_ble_eq_true rfl) dc_cX0_init_17 (fun H locs hP hD hS => ?_)
  have hP : va_P (fg_D Λ) vwCl [(h0, .inr (0, [.ref q1, .ref q2, .null, .null, .null, .null, .null, .int 0, .int 0, .int 0, .int 0, .int 0])), (q1, .inl (Λ.2.1, 10, .inl (fun _ => 0))), (q2, .inl (Λ.2.1, 10, .inl (fun _ => 0)))] H := hP
  have hD : va_D A [(h0, .inr (0, [.ref q1, .ref q2, .null, .null, .null, .null, .null, .int 0, .int 0, .int 0, .int 0, .int 0])), (q1, .inl (Λ.2.1, 10, .inl (fun _ => 0))), (q2, .inl (Λ.2.1, 10, .inl (fun _ => 0)))] := hD
  refine lv_aload_n hx hb dc_cX0_init_20 rfl (lv_at hl 0 rfl) ?_
  refine lv_bipush (v := 10) hx hb dc_cX0_init_21 (by decide) ?_
  refine fc_newI (N := 10) hx hb (hts _ (fg_w_in (w := 119) (c := .arrayClass .int) (by decide +kernel) (by decide +kernel))) hK hP hD hS hA (by decide) (by decide) (Nat.le_of_ble_eq_true rfl) (Nat.le_of_ble_eq_true rfl) dc_cX0_init_23 (fun q3 H hP hD hS => ?_)
  refine va_putF (D := fg_D Λ) (ci := 0) (v := .ref q3) (ty := .array .int) (C := RX0) (T := TX0) (N := 12) hx hb hts (fc_lay 0 rfl) tyX0 tyX0_ok nmX0 hown hK hP hD hS 0 rfl rfl 2 (by decide) (hts _ (fg_w_in (w := 179) (c := .fieldLink RX0 18 "FlagSignals$Deck" "backs" "[I") (by decide +kernel) (by decide +kernel))) (fun _ h9 => h9) rfl hin rfl (by decide +kernel) rfl rfl (Nat.le_of_ble_eq_true rfl) dc_cX0_init_25 (fun H locs hP hD hS => ?_)
  have hP : va_P (fg_D Λ) vwCl [(h0, .inr (0, [.ref q1, .ref q2, .ref q3, .null, .null, .null, .null, .int 0, .int 0, .int 0, .int 0, .int 0])), (q1, .inl (Λ.2.1, 10, .inl (fun _ => 0))), (q2, .inl (Λ.2.1, 10, .inl (fun _ => 0))), (q3, .inl (Λ.2.1, 10, .inl (fun _ => 0)))] H := hP
  have hD : va_D A [(h0, .inr (0, [.ref q1, .ref q2, .ref q3, .null, .null, .null, .null, .int 0, .int 0, .int 0, .int 0, .int 0])), (q1, .inl (Λ.2.1, 10, .inl (fun _ => 0))), (q2, .inl (Λ.2.1, 10, .inl (fun _ => 0))), (q3, .inl (Λ.2.1, 10, .inl (fun _ => 0)))] := hD
  refine lv_aload_n hx hb dc_cX0_init_28 rfl (lv_at hl 0 rfl) ?_
  refine lv_bipush (v := 10) hx hb dc_cX0_init_29 (by decide) ?_
  refine fc_newI (N := 10) hx hb (hts _ (fg_w_in (w := 119) (c := .arrayClass .int) (by decide +kernel) (by decide +kernel))) hK hP hD hS hA (by decide) (by decide) (Nat.le_of_ble_eq_true rfl) (Nat.le_of_ble_eq_true rfl) dc_cX0_init_31 (fun q4 H hP hD hS => ?_)
  refine va_putF (D := fg_D Λ) (ci := 0) (v := .ref q4) (ty := .array .int) (C := RX0) (T := TX0) (N := 12) hx hb hts (fc_lay 0 rfl) tyX0 tyX0_ok nmX0 hown hK hP hD hS 0 rfl rfl 3 (by decide) (hts _ (fg_w_in (w := 181) (c := .fieldLink RX0 21 "FlagSignals$Deck" "wear" "[I") (by decide +kernel) (by decide +kernel))) (fun _ h9 => h9) rfl hin rfl (by decide +kernel) rfl rfl (Nat.le_of_ble_eq_true rfl) dc_cX0_init_33 (fun H locs hP hD hS => ?_)
  have hP : va_P (fg_D Λ) vwCl [(h0, .inr (0, [.ref q1, .ref q2, .ref q3, .ref q4, .null, .null, .null, .int 0, .int 0, .int 0, .int 0, .int 0])), (q1, .inl (Λ.2.1, 10, .inl (fun _ => 0))), (q2, .inl (Λ.2.1, 10, .inl (fun _ => 0))), (q3, .inl (Λ.2.1, 10, .inl (fun _ => 0))), (q4, .inl (Λ.2.1, 10, .inl (fun _ => 0)))] H := hP
  have hD : va_D A [(h0, .inr (0, [.ref q1, .ref q2, .ref q3, .ref q4, .null, .null, .null, .int 0, .int 0, .int 0, .int 0, .int 0])), (q1, .inl (Λ.2.1, 10, .inl (fun _ => 0))), (q2, .inl (Λ.2.1, 10, .inl (fun _ => 0))), (q3, .inl (Λ.2.1, 10, .inl (fun _ => 0))), (q4, .inl (Λ.2.1, 10, .inl (fun _ => 0)))] := hD
  refine lv_aload_n hx hb dc_cX0_init_36 rfl (lv_at hl 0 rfl) ?_
  refine lv_bipush (v := 10) hx hb dc_cX0_init_37 (by decide) ?_
  refine fc_newI (N := 10) hx hb (hts _ (fg_w_in (w := 119) (c := .arrayClass .int) (by decide +kernel) (by decide +kernel))) hK hP hD hS hA (by decide) (by decide) (Nat.le_of_ble_eq_true rfl) (Nat.le_of_ble_eq_true rfl) dc_cX0_init_39 (fun q5 H hP hD hS => ?_)
  refine va_putF (D := fg_D Λ) (ci := 0) (v := .ref q5) (ty := .array .int) (C := RX0) (T := TX0) (N := 12) hx hb hts (fc_lay 0 rfl) tyX0 tyX0_ok nmX0 hown hK hP hD hS 0 rfl rfl 4 (by decide) (hts _ (fg_w_in (w := 183) (c := .fieldLink RX0 24 "FlagSignals$Deck" "where" "[I") (by decide +kernel) (by decide +kernel))) (fun _ h9 => h9) rfl hin rfl (by decide +kernel) rfl rfl (Nat.le_of_ble_eq_true rfl) dc_cX0_init_41 (fun H locs hP hD hS => ?_)
  have hP : va_P (fg_D Λ) vwCl [(h0, .inr (0, [.ref q1, .ref q2, .ref q3, .ref q4, .ref q5, .null, .null, .int 0, .int 0, .int 0, .int 0, .int 0])), (q1, .inl (Λ.2.1, 10, .inl (fun _ => 0))), (q2, .inl (Λ.2.1, 10, .inl (fun _ => 0))), (q3, .inl (Λ.2.1, 10, .inl (fun _ => 0))), (q4, .inl (Λ.2.1, 10, .inl (fun _ => 0))), (q5, .inl (Λ.2.1, 10, .inl (fun _ => 0)))] H := hP
  have hD : va_D A [(h0, .inr (0, [.ref q1, .ref q2, .ref q3, .ref q4, .ref q5, .null, .null, .int 0, .int 0, .int 0, .int 0, .int 0])), (q1, .inl (Λ.2.1, 10, .inl (fun _ => 0))), (q2, .inl (Λ.2.1, 10, .inl (fun _ => 0))), (q3, .inl (Λ.2.1, 10, .inl (fun _ => 0))), (q4, .inl (Λ.2.1, 10, .inl (fun _ => 0))), (q5, .inl (Λ.2.1, 10, .inl (fun _ => 0)))] := hD
  refine lv_aload_n hx hb dc_cX0_init_44 rfl (lv_at hl 0 rfl) ?_
  refine lv_iconst (v := 3) hx hb dc_cX0_init_45 (by decide) ?_
  refine fc_newI (N := 3) hx hb (hts _ (fg_w_in (w := 119) (c := .arrayClass .int) (by decide +kernel) (by decide +kernel))) hK hP hD hS hA (by decide) (by decide) (Nat.le_of_ble_eq_true rfl) (Nat.le_of_ble_eq_true rfl) dc_cX0_init_46 (fun q6 H hP hD hS => ?_)
  refine va_putF (D := fg_D Λ) (ci := 0) (v := .ref q6) (ty := .array .int) (C := RX0) (T := TX0) (N := 12) hx hb hts (fc_lay 0 rfl) tyX0 tyX0_ok nmX0 hown hK hP hD hS 0 rfl rfl 5 (by decide) (hts _ (fg_w_in (w := 185) (c := .fieldLink RX0 27 "FlagSignals$Deck" "flown" "[I") (by decide +kernel) (by decide +kernel))) (fun _ h9 => h9) rfl hin rfl (by decide +kernel) rfl rfl (Nat.le_of_ble_eq_true rfl) dc_cX0_init_48 (fun H locs hP hD hS => ?_)
  have hP : va_P (fg_D Λ) vwCl [(h0, .inr (0, [.ref q1, .ref q2, .ref q3, .ref q4, .ref q5, .ref q6, .null, .int 0, .int 0, .int 0, .int 0, .int 0])), (q1, .inl (Λ.2.1, 10, .inl (fun _ => 0))), (q2, .inl (Λ.2.1, 10, .inl (fun _ => 0))), (q3, .inl (Λ.2.1, 10, .inl (fun _ => 0))), (q4, .inl (Λ.2.1, 10, .inl (fun _ => 0))), (q5, .inl (Λ.2.1, 10, .inl (fun _ => 0))), (q6, .inl (Λ.2.1, 3, .inl (fun _ => 0)))] H := hP
  have hD : va_D A [(h0, .inr (0, [.ref q1, .ref q2, .ref q3, .ref q4, .ref q5, .ref q6, .null, .int 0, .int 0, .int 0, .int 0, .int 0])), (q1, .inl (Λ.2.1, 10, .inl (fun _ => 0))), (q2, .inl (Λ.2.1, 10, .inl (fun _ => 0))), (q3, .inl (Λ.2.1, 10, .inl (fun _ => 0))), (q4, .inl (Λ.2.1, 10, .inl (fun _ => 0))), (q5, .inl (Λ.2.1, 10, .inl (fun _ => 0))), (q6, .inl (Λ.2.1, 3, .inl (fun _ => 0)))] := hD
  refine lv_aload_n hx hb dc_cX0_init_51 rfl (lv_at hl 0 rfl) ?_
  refine lv_bipush (v := 12) hx hb dc_cX0_init_52 (by decide) ?_
  refine fc_newI (N := 12) hx hb (hts _ (fg_w_in (w := 119) (c := .arrayClass .int) (by decide +kernel) (by decide +kernel))) hK hP hD hS hA (by decide) (by decide) (Nat.le_of_ble_eq_true rfl) (Nat.le_of_ble_eq_true rfl) dc_cX0_init_54 (fun q7 H hP hD hS => ?_)
  refine va_putF (D := fg_D Λ) (ci := 0) (v := .ref q7) (ty := .array .int) (C := RX0) (T := TX0) (N := 12) hx hb hts (fc_lay 0 rfl) tyX0 tyX0_ok nmX0 hown hK hP hD hS 0 rfl rfl 6 (by decide) (hts _ (fg_w_in (w := 188) (c := .fieldLink RX0 30 "FlagSignals$Deck" "places" "[I") (by decide +kernel) (by decide +kernel))) (fun _ h9 => h9) rfl hin rfl (by decide +kernel) rfl rfl (Nat.le_of_ble_eq_true rfl) dc_cX0_init_56 (fun H locs hP hD hS => ?_)
  have hP : va_P (fg_D Λ) vwCl [(h0, .inr (0, [.ref q1, .ref q2, .ref q3, .ref q4, .ref q5, .ref q6, .ref q7, .int 0, .int 0, .int 0, .int 0, .int 0])), (q1, .inl (Λ.2.1, 10, .inl (fun _ => 0))), (q2, .inl (Λ.2.1, 10, .inl (fun _ => 0))), (q3, .inl (Λ.2.1, 10, .inl (fun _ => 0))), (q4, .inl (Λ.2.1, 10, .inl (fun _ => 0))), (q5, .inl (Λ.2.1, 10, .inl (fun _ => 0))), (q6, .inl (Λ.2.1, 3, .inl (fun _ => 0))), (q7, .inl (Λ.2.1, 12, .inl (fun _ => 0)))] H := hP
  have hD : va_D A [(h0, .inr (0, [.ref q1, .ref q2, .ref q3, .ref q4, .ref q5, .ref q6, .ref q7, .int 0, .int 0, .int 0, .int 0, .int 0])), (q1, .inl (Λ.2.1, 10, .inl (fun _ => 0))), (q2, .inl (Λ.2.1, 10, .inl (fun _ => 0))), (q3, .inl (Λ.2.1, 10, .inl (fun _ => 0))), (q4, .inl (Λ.2.1, 10, .inl (fun _ => 0))), (q5, .inl (Λ.2.1, 10, .inl (fun _ => 0))), (q6, .inl (Λ.2.1, 3, .inl (fun _ => 0))), (q7, .inl (Λ.2.1, 12, .inl (fun _ => 0)))] := hD
  refine lv_aload_n hx hb dc_cX0_init_59 rfl (lv_at hl 0 rfl) ?_
  refine lv_iconst (v := 0) hx hb dc_cX0_init_60 (by decide) ?_
  refine va_put (D := fg_D Λ) (ci := 0) (v := .int 0) (ty := .int) (C := RX0) (T := TX0) (N := 12) hx hb hts (fc_lay 0 rfl) tyX0 tyX0_ok nmX0 hown hK hP hD hS 0 rfl rfl 7 (by decide) (hts _ (fg_w_in (w := 190) (c := .fieldLink RX0 33 "FlagSignals$Deck" "torn" "I") (by decide +kernel) (by decide +kernel))) (fun _ h9 => h9) rfl (by decide +kernel) rfl rfl (Nat.le_of_ble_eq_true rfl) dc_cX0_init_61 (fun H locs hP hD hS => ?_)
  have hP : va_P (fg_D Λ) vwCl [(h0, .inr (0, [.ref q1, .ref q2, .ref q3, .ref q4, .ref q5, .ref q6, .ref q7, .int 0, .int 0, .int 0, .int 0, .int 0])), (q1, .inl (Λ.2.1, 10, .inl (fun _ => 0))), (q2, .inl (Λ.2.1, 10, .inl (fun _ => 0))), (q3, .inl (Λ.2.1, 10, .inl (fun _ => 0))), (q4, .inl (Λ.2.1, 10, .inl (fun _ => 0))), (q5, .inl (Λ.2.1, 10, .inl (fun _ => 0))), (q6, .inl (Λ.2.1, 3, .inl (fun _ => 0))), (q7, .inl (Λ.2.1, 12, .inl (fun _ => 0)))] H := hP
  have hD : va_D A [(h0, .inr (0, [.ref q1, .ref q2, .ref q3, .ref q4, .ref q5, .ref q6, .ref q7, .int 0, .int 0, .int 0, .int 0, .int 0])), (q1, .inl (Λ.2.1, 10, .inl (fun _ => 0))), (q2, .inl (Λ.2.1, 10, .inl (fun _ => 0))), (q3, .inl (Λ.2.1, 10, .inl (fun _ => 0))), (q4, .inl (Λ.2.1, 10, .inl (fun _ => 0))), (q5, .inl (Λ.2.1, 10, .inl (fun _ => 0))), (q6, .inl (Λ.2.1, 3, .inl (fun _ => 0))), (q7, .inl (Λ.2.1, 12, .inl (fun _ => 0)))] := hD
  refine lv_aload_n hx hb dc_cX0_init_64 rfl (lv_at hl 0 rfl) ?_
  refine lv_iconst (v := 0) hx hb dc_cX0_init_65 (by decide) ?_
  refine va_put (D := fg_D Λ) (ci := 0) (v := .int 0) (ty := .int) (C := RX0) (T := TX0) (N := 12) hx hb hts (fc_lay 0 rfl) tyX0 tyX0_ok nmX0 hown hK hP hD hS 0 rfl rfl 8 (by decide) (hts _ (fg_w_in (w := 192) (c := .fieldLink RX0 37 "FlagSignals$Deck" "substitutesUp" "I") (by decide +kernel) (by decide +kernel))) (fun _ h9 => h9) rfl (by decide +kernel) rfl rfl (Nat.le_of_ble_eq_true rfl) dc_cX0_init_66 (fun H locs hP hD hS => ?_)
  have hP : va_P (fg_D Λ) vwCl [(h0, .inr (0, [.ref q1, .ref q2, .ref q3, .ref q4, .ref q5, .ref q6, .ref q7, .int 0, .int 0, .int 0, .int 0, .int 0])), (q1, .inl (Λ.2.1, 10, .inl (fun _ => 0))), (q2, .inl (Λ.2.1, 10, .inl (fun _ => 0))), (q3, .inl (Λ.2.1, 10, .inl (fun _ => 0))), (q4, .inl (Λ.2.1, 10, .inl (fun _ => 0))), (q5, .inl (Λ.2.1, 10, .inl (fun _ => 0))), (q6, .inl (Λ.2.1, 3, .inl (fun _ => 0))), (q7, .inl (Λ.2.1, 12, .inl (fun _ => 0)))] H := hP
  have hD : va_D A [(h0, .inr (0, [.ref q1, .ref q2, .ref q3, .ref q4, .ref q5, .ref q6, .ref q7, .int 0, .int 0, .int 0, .int 0, .int 0])), (q1, .inl (Λ.2.1, 10, .inl (fun _ => 0))), (q2, .inl (Λ.2.1, 10, .inl (fun _ => 0))), (q3, .inl (Λ.2.1, 10, .inl (fun _ => 0))), (q4, .inl (Λ.2.1, 10, .inl (fun _ => 0))), (q5, .inl (Λ.2.1, 10, .inl (fun _ => 0))), (q6, .inl (Λ.2.1, 3, .inl (fun _ => 0))), (q7, .inl (Λ.2.1, 12, .inl (fun _ => 0)))] := hD
  refine lv_aload_n hx hb dc_cX0_init_69 rfl (lv_at hl 0 rfl) ?_
  refine lv_iconst (v := 0) hx hb dc_cX0_init_70 (by decide) ?_
  refine va_put (D := fg_D Λ) (ci := 0) (v := .int 0) (ty := .int) (C := RX0) (T := TX0) (N := 12) hx hb hts (fc_lay 0 rfl) tyX0 tyX0_ok nmX0 hown hK hP hD hS 0 rfl rfl 9 (by decide) (hts _ (fg_w_in (w := 193) (c := .fieldLink RX0 40 "FlagSignals$Deck" "days" "I") (by decide +kernel) (by decide +kernel))) (fun _ h9 => h9) rfl (by decide +kernel) rfl rfl (Nat.le_of_ble_eq_true rfl) dc_cX0_init_71 (fun H locs hP hD hS => ?_)
  have hP : va_P (fg_D Λ) vwCl [(h0, .inr (0, [.ref q1, .ref q2, .ref q3, .ref q4, .ref q5, .ref q6, .ref q7, .int 0, .int 0, .int 0, .int 0, .int 0])), (q1, .inl (Λ.2.1, 10, .inl (fun _ => 0))), (q2, .inl (Λ.2.1, 10, .inl (fun _ => 0))), (q3, .inl (Λ.2.1, 10, .inl (fun _ => 0))), (q4, .inl (Λ.2.1, 10, .inl (fun _ => 0))), (q5, .inl (Λ.2.1, 10, .inl (fun _ => 0))), (q6, .inl (Λ.2.1, 3, .inl (fun _ => 0))), (q7, .inl (Λ.2.1, 12, .inl (fun _ => 0)))] H := hP
  have hD : va_D A [(h0, .inr (0, [.ref q1, .ref q2, .ref q3, .ref q4, .ref q5, .ref q6, .ref q7, .int 0, .int 0, .int 0, .int 0, .int 0])), (q1, .inl (Λ.2.1, 10, .inl (fun _ => 0))), (q2, .inl (Λ.2.1, 10, .inl (fun _ => 0))), (q3, .inl (Λ.2.1, 10, .inl (fun _ => 0))), (q4, .inl (Λ.2.1, 10, .inl (fun _ => 0))), (q5, .inl (Λ.2.1, 10, .inl (fun _ => 0))), (q6, .inl (Λ.2.1, 3, .inl (fun _ => 0))), (q7, .inl (Λ.2.1, 12, .inl (fun _ => 0)))] := hD
  refine lv_aload_n hx hb dc_cX0_init_74 rfl (lv_at hl 0 rfl) ?_
  refine lv_iconst (v := 0) hx hb dc_cX0_init_75 (by decide) ?_
  refine va_put (D := fg_D Λ) (ci := 0) (v := .int 0) (ty := .int) (C := RX0) (T := TX0) (N := 12) hx hb hts (fc_lay 0 rfl) tyX0 tyX0_ok nmX0 hown hK hP hD hS 0 rfl rfl 10 (by decide) (hts _ (fg_w_in (w := 195) (c := .fieldLink RX0 43 "FlagSignals$Deck" "haze" "I") (by decide +kernel) (by decide +kernel))) (fun _ h9 => h9) rfl (by decide +kernel) rfl rfl (Nat.le_of_ble_eq_true rfl) dc_cX0_init_76 (fun H locs hP hD hS => ?_)
  have hP : va_P (fg_D Λ) vwCl [(h0, .inr (0, [.ref q1, .ref q2, .ref q3, .ref q4, .ref q5, .ref q6, .ref q7, .int 0, .int 0, .int 0, .int 0, .int 0])), (q1, .inl (Λ.2.1, 10, .inl (fun _ => 0))), (q2, .inl (Λ.2.1, 10, .inl (fun _ => 0))), (q3, .inl (Λ.2.1, 10, .inl (fun _ => 0))), (q4, .inl (Λ.2.1, 10, .inl (fun _ => 0))), (q5, .inl (Λ.2.1, 10, .inl (fun _ => 0))), (q6, .inl (Λ.2.1, 3, .inl (fun _ => 0))), (q7, .inl (Λ.2.1, 12, .inl (fun _ => 0)))] H := hP
  have hD : va_D A [(h0, .inr (0, [.ref q1, .ref q2, .ref q3, .ref q4, .ref q5, .ref q6, .ref q7, .int 0, .int 0, .int 0, .int 0, .int 0])), (q1, .inl (Λ.2.1, 10, .inl (fun _ => 0))), (q2, .inl (Λ.2.1, 10, .inl (fun _ => 0))), (q3, .inl (Λ.2.1, 10, .inl (fun _ => 0))), (q4, .inl (Λ.2.1, 10, .inl (fun _ => 0))), (q5, .inl (Λ.2.1, 10, .inl (fun _ => 0))), (q6, .inl (Λ.2.1, 3, .inl (fun _ => 0))), (q7, .inl (Λ.2.1, 12, .inl (fun _ => 0)))] := hD
  refine lv_aload_n hx hb dc_cX0_init_79 rfl (lv_at hl 0 rfl) ?_
  refine lv_iconst (v := 0) hx hb dc_cX0_init_80 (by decide) ?_
  refine va_put (D := fg_D Λ) (ci := 0) (v := .int 0) (ty := .int) (C := RX0) (T := TX0) (N := 12) hx hb hts (fc_lay 0 rfl) tyX0 tyX0_ok nmX0 hown hK hP hD hS 0 rfl rfl 11 (by decide) (hts _ (fg_w_in (w := 197) (c := .fieldLink RX0 46 "FlagSignals$Deck" "wind" "I") (by decide +kernel) (by decide +kernel))) (fun _ h9 => h9) rfl (by decide +kernel) rfl rfl (Nat.le_of_ble_eq_true rfl) dc_cX0_init_81 (fun H locs hP hD hS => ?_)
  have hP : va_P (fg_D Λ) vwCl [(h0, .inr (0, [.ref q1, .ref q2, .ref q3, .ref q4, .ref q5, .ref q6, .ref q7, .int 0, .int 0, .int 0, .int 0, .int 0])), (q1, .inl (Λ.2.1, 10, .inl (fun _ => 0))), (q2, .inl (Λ.2.1, 10, .inl (fun _ => 0))), (q3, .inl (Λ.2.1, 10, .inl (fun _ => 0))), (q4, .inl (Λ.2.1, 10, .inl (fun _ => 0))), (q5, .inl (Λ.2.1, 10, .inl (fun _ => 0))), (q6, .inl (Λ.2.1, 3, .inl (fun _ => 0))), (q7, .inl (Λ.2.1, 12, .inl (fun _ => 0)))] H := hP
  have hD : va_D A [(h0, .inr (0, [.ref q1, .ref q2, .ref q3, .ref q4, .ref q5, .ref q6, .ref q7, .int 0, .int 0, .int 0, .int 0, .int 0])), (q1, .inl (Λ.2.1, 10, .inl (fun _ => 0))), (q2, .inl (Λ.2.1, 10, .inl (fun _ => 0))), (q3, .inl (Λ.2.1, 10, .inl (fun _ => 0))), (q4, .inl (Λ.2.1, 10, .inl (fun _ => 0))), (q5, .inl (Λ.2.1, 10, .inl (fun _ => 0))), (q6, .inl (Λ.2.1, 3, .inl (fun _ => 0))), (q7, .inl (Λ.2.1, 12, .inl (fun _ => 0)))] := hD
  exact W.vret hx hb hr (fun t ht hW => ⟨⟨[(h0, .inr (0, [.ref q1, .ref q2, .ref q3, .ref q4, .ref q5, .ref q6, .ref q7, .int 0, .int 0, .int 0, .int 0, .int 0])), (q1, .inl (Λ.2.1, 10, .inl (fun _ => 0))), (q2, .inl (Λ.2.1, 10, .inl (fun _ => 0))), (q3, .inl (Λ.2.1, 10, .inl (fun _ => 0))), (q4, .inl (Λ.2.1, 10, .inl (fun _ => 0))), (q5, .inl (Λ.2.1, 10, .inl (fun _ => 0))), (q6, .inl (Λ.2.1, 3, .inl (fun _ => 0))), (q7, .inl (Λ.2.1, 12, .inl (fun _ => 0)))], rfl, ⟨fun k => [0, q1, q2, q3, q4, q5, q6, q7].getD k 0, rfl⟩, by rw [ht]; exact hP, hD⟩, hS.F ht⟩) hS.2.2 dc_cX0_init_84
theorem dc_cX6_init_0 : decode cX6_init 0 = .ok (.aload_n 0, 1) := by decide +kernel
theorem dc_cX6_init_1 : decode cX6_init 1 = .ok (.invokespecial 3, 3) := by decide +kernel
theorem dc_cX6_init_4 : decode cX6_init 4 = .ok (.aload_n 0, 1) := by decide +kernel
theorem dc_cX6_init_5 : decode cX6_init 5 = .ok (.iconst 0, 1) := by decide +kernel
theorem dc_cX6_init_6 : decode cX6_init 6 = .ok (.putfield 9, 3) := by decide +kernel
theorem dc_cX6_init_9 : decode cX6_init 9 = .ok (.aload_n 0, 1) := by decide +kernel
theorem dc_cX6_init_10 : decode cX6_init 10 = .ok (.iconst 0, 1) := by decide +kernel
theorem dc_cX6_init_11 : decode cX6_init 11 = .ok (.putfield 15, 3) := by decide +kernel
theorem dc_cX6_init_14 : decode cX6_init 14 = .ok (.aload_n 0, 1) := by decide +kernel
theorem dc_cX6_init_15 : decode cX6_init 15 = .ok (.iconst 0, 1) := by decide +kernel
theorem dc_cX6_init_16 : decode cX6_init 16 = .ok (.putfield 18, 3) := by decide +kernel
theorem dc_cX6_init_19 : decode cX6_init 19 = .ok (.aload_n 0, 1) := by decide +kernel
theorem dc_cX6_init_20 : decode cX6_init 20 = .ok (.iconst 0, 1) := by decide +kernel
theorem dc_cX6_init_21 : decode cX6_init 21 = .ok (.putfield 21, 3) := by decide +kernel
theorem dc_cX6_init_24 : decode cX6_init 24 = .ok (.aload_n 0, 1) := by decide +kernel
theorem dc_cX6_init_25 : decode cX6_init 25 = .ok (.bipush 10, 2) := by decide +kernel
theorem dc_cX6_init_27 : decode cX6_init 27 = .ok (.newarray .int, 2) := by decide +kernel
theorem dc_cX6_init_29 : decode cX6_init 29 = .ok (.putfield 24, 3) := by decide +kernel
theorem dc_cX6_init_32 : decode cX6_init 32 = .ok (.aload_n 0, 1) := by decide +kernel
theorem dc_cX6_init_33 : decode cX6_init 33 = .ok (.bipush 10, 2) := by decide +kernel
theorem dc_cX6_init_35 : decode cX6_init 35 = .ok (.newarray .int, 2) := by decide +kernel
theorem dc_cX6_init_37 : decode cX6_init 37 = .ok (.putfield 28, 3) := by decide +kernel
theorem dc_cX6_init_40 : decode cX6_init 40 = .ok (.aload_n 0, 1) := by decide +kernel
theorem dc_cX6_init_41 : decode cX6_init 41 = .ok (.bipush 10, 2) := by decide +kernel
theorem dc_cX6_init_43 : decode cX6_init 43 = .ok (.newarray .int, 2) := by decide +kernel
theorem dc_cX6_init_45 : decode cX6_init 45 = .ok (.putfield 31, 3) := by decide +kernel
theorem dc_cX6_init_48 : decode cX6_init 48 = .ok (.aload_n 0, 1) := by decide +kernel
theorem dc_cX6_init_49 : decode cX6_init 49 = .ok (.bipush 10, 2) := by decide +kernel
theorem dc_cX6_init_51 : decode cX6_init 51 = .ok (.newarray .int, 2) := by decide +kernel
theorem dc_cX6_init_53 : decode cX6_init 53 = .ok (.putfield 34, 3) := by decide +kernel
theorem dc_cX6_init_56 : decode cX6_init 56 = .ok (.aload_n 0, 1) := by decide +kernel
theorem dc_cX6_init_57 : decode cX6_init 57 = .ok (.bipush 40, 2) := by decide +kernel
theorem dc_cX6_init_59 : decode cX6_init 59 = .ok (.newarray .int, 2) := by decide +kernel
theorem dc_cX6_init_61 : decode cX6_init 61 = .ok (.putfield 37, 3) := by decide +kernel
theorem dc_cX6_init_64 : decode cX6_init 64 = .ok (.return_, 1) := by decide +kernel
def fc_W6 (Λ : fg_La) (h0 : Nat) (q : Nat → Nat) : va_W := [(h0, .inr (6, [.int 0, .int 0, .int 0, .int 0, .ref (q 1), .ref (q 2), .ref (q 3), .ref (q 4), .ref (q 5)])), (q 1, .inl (Λ.2.1, 10, .inl (fun _ => 0))), (q 2, .inl (Λ.2.1, 10, .inl (fun _ => 0))), (q 3, .inl (Λ.2.1, 10, .inl (fun _ => 0))), (q 4, .inl (Λ.2.1, 10, .inl (fun _ => 0))), (q 5, .inl (Λ.2.1, 40, .inl (fun _ => 0)))]
set_option maxHeartbeats 4000000 in
set_option maxRecDepth 100000 in
theorem fc_init6 (l : Launch) {Λ : fg_La} (h0 sz : Nat) : Met l yX6_init (.code yX6_init cX6_init 1 none :: fg_T) (fc_rm 1 5 80) (va_Pc [.ref h0] (fc_Pre Λ sz [(h0, .inr (6, [.int 0, .int 0, .int 0, .int 0, .null, .null, .null, .null, .null]))])) (va_Qv (fun w : va_W => ∃ q : Nat → Nat, w = fc_W6 Λ h0 q) (fc_B Λ (va_A [(h0, .inr (6, [.int 0, .int 0, .int 0, .int 0, .null, .null, .null, .null, .null]))] sz)) (va_A [(h0, .inr (6, [.int 0, .int 0, .int 0, .int 0, .null, .null, .null, .null, .null]))] sz)) 5 80 (va_A [(h0, .inr (6, [.int 0, .int 0, .int 0, .int 0, .null, .null, .null, .null, .null]))] sz) := by
  refine Met.ofW (cc := cX6_init) (maxL := 1) (ret := none) (by decide) rfl ?_
  intro p e s m args below meth c s₁ B hml hv
  obtain ⟨rfl, hsz, hP, hD0, hE⟩ := hv
  have hx := B.exec
  have hb := B.bytes
  have hr := B.returns
  have hts0 := atoms_spec (ws := .code yX6_init cX6_init 1 none :: fg_T) B.pre
  have hts : ∀ w ∈ fg_T, w.before (([.ref h0] : List Value).toArray) s = true := fun w hw => hts0 w (List.mem_cons_of_mem _ hw)
  have hown : s.vm.findClass RX6 = some m.cls := findClass_of_methodNamed B.named
  have hlocks := B.notSynchronized
  have hin : meth.name = "<init>" := (name_of_methodNamed B.named B.method).1
  subst hsz
  have hD := hD0.self (sz := s.heap.size)
  generalize hAe : va_A [(h0, .inr (6, [.int 0, .int 0, .int 0, .int 0, .null, .null, .null, .null, .null]))] s.heap.size = A at hD ⊢
  have hA : ∀ q : Nat, s.heap.size ≤ q → A q := fun q h => by rw [← hAe]; exact Or.inr h
  have hS : va_S A s.heap s.heap [] := va_S.rf
  have hK := hE.1.1
  have hP : va_P (fg_D Λ) vwCl [(h0, .inr (6, [.int 0, .int 0, .int 0, .int 0, .null, .null, .null, .null, .null]))] s.heap := hP
  have hl := lv_entry ([.ref h0]) (n := 1) (Nat.le_of_ble_eq_true rfl)
  rw [lg_entry_eq]
  generalize (lg_sl ([.ref h0]) ++ List.replicate (1 - (lg_sl ([.ref h0])).length) Slot.unset).toArray = ls at hl ⊢
  have hl : lv_has ls 1 [(0, .ref h0)] := hl
  refine lv_aload_n hx hb dc_cX6_init_0 rfl (lv_at hl 0 rfl) ?_
  refine W.objInit hx hb hown (hts _ (fg_w_in (w := 125) (c := .methodLink RX6 3 objectInit) (by decide +kernel) (by decide +kernel))) (hts _ (fg_w_in (w := 93) (c := .instanceMethod objectInit) (by decide +kernel) (by decide +kernel))) (hts _ (fg_w_in (w := 94) (c := .code objectInit ⟨#[0xb1]⟩ 1 none) (by decide +kernel) (by decide +kernel))) rfl (by rw [hml]; exact hl.1) rfl dc_cX6_init_1 (Nat.le_of_ble_eq_true rfl) (Nat.le_of_ble_eq_true rfl) ?_
  refine W.eq (g2 := F0 m 4 ls []) rfl ?_
  refine lv_aload_n hx hb dc_cX6_init_4 rfl (lv_at hl 0 rfl) ?_
  refine lv_iconst (v := 0) hx hb dc_cX6_init_5 (by decide) ?_
  refine va_put (D := fg_D Λ) (ci := 6) (v := .int 0) (ty := .int) (C := RX6) (T := TX6) (N := 9) hx hb hts (fc_lay 6 rfl) tyX6 tyX6_ok nmX6 hown hK hP hD hS 0 rfl rfl 0 (by decide) (hts _ (fg_w_in (w := 126) (c := .fieldLink RX6 9 "FlagSignals$Ship" "lines" "I") (by decide +kernel) (by decide +kernel))) (fun _ h9 => h9) rfl (by decide +kernel) rfl rfl (Nat.le_of_ble_eq_true rfl) dc_cX6_init_6 (fun H locs hP hD hS => ?_)
  have hP : va_P (fg_D Λ) vwCl [(h0, .inr (6, [.int 0, .int 0, .int 0, .int 0, .null, .null, .null, .null, .null]))] H := hP
  have hD : va_D A [(h0, .inr (6, [.int 0, .int 0, .int 0, .int 0, .null, .null, .null, .null, .null]))] := hD
  refine lv_aload_n hx hb dc_cX6_init_9 rfl (lv_at hl 0 rfl) ?_
  refine lv_iconst (v := 0) hx hb dc_cX6_init_10 (by decide) ?_
  refine va_put (D := fg_D Λ) (ci := 6) (v := .int 0) (ty := .int) (C := RX6) (T := TX6) (N := 9) hx hb hts (fc_lay 6 rfl) tyX6 tyX6_ok nmX6 hown hK hP hD hS 0 rfl rfl 1 (by decide) (hts _ (fg_w_in (w := 129) (c := .fieldLink RX6 15 "FlagSignals$Ship" "substitutes" "I") (by decide +kernel) (by decide +kernel))) (fun _ h9 => h9) rfl (by decide +kernel) rfl rfl (Nat.le_of_ble_eq_true rfl) dc_cX6_init_11 (fun H locs hP hD hS => ?_)
  have hP : va_P (fg_D Λ) vwCl [(h0, .inr (6, [.int 0, .int 0, .int 0, .int 0, .null, .null, .null, .null, .null]))] H := hP
  have hD : va_D A [(h0, .inr (6, [.int 0, .int 0, .int 0, .int 0, .null, .null, .null, .null, .null]))] := hD
  refine lv_aload_n hx hb dc_cX6_init_14 rfl (lv_at hl 0 rfl) ?_
  refine lv_iconst (v := 0) hx hb dc_cX6_init_15 (by decide) ?_
  refine va_put (D := fg_D Λ) (ci := 6) (v := .int 0) (ty := .int) (C := RX6) (T := TX6) (N := 9) hx hb hts (fc_lay 6 rfl) tyX6 tyX6_ok nmX6 hown hK hP hD hS 0 rfl rfl 2 (by decide) (hts _ (fg_w_in (w := 132) (c := .fieldLink RX6 18 "FlagSignals$Ship" "flags" "I") (by decide +kernel) (by decide +kernel))) (fun _ h9 => h9) rfl (by decide +kernel) rfl rfl (Nat.le_of_ble_eq_true rfl) dc_cX6_init_16 (fun H locs hP hD hS => ?_)
  have hP : va_P (fg_D Λ) vwCl [(h0, .inr (6, [.int 0, .int 0, .int 0, .int 0, .null, .null, .null, .null, .null]))] H := hP
  have hD : va_D A [(h0, .inr (6, [.int 0, .int 0, .int 0, .int 0, .null, .null, .null, .null, .null]))] := hD
  refine lv_aload_n hx hb dc_cX6_init_19 rfl (lv_at hl 0 rfl) ?_
  refine lv_iconst (v := 0) hx hb dc_cX6_init_20 (by decide) ?_
  refine va_put (D := fg_D Λ) (ci := 6) (v := .int 0) (ty := .int) (C := RX6) (T := TX6) (N := 9) hx hb hts (fc_lay 6 rfl) tyX6 tyX6_ok nmX6 hown hK hP hD hS 0 rfl rfl 3 (by decide) (hts _ (fg_w_in (w := 136) (c := .fieldLink RX6 21 "FlagSignals$Ship" "signals" "I") (by decide +kernel) (by decide +kernel))) (fun _ h9 => h9) rfl (by decide +kernel) rfl rfl (Nat.le_of_ble_eq_true rfl) dc_cX6_init_21 (fun H locs hP hD hS => ?_)
  have hP : va_P (fg_D Λ) vwCl [(h0, .inr (6, [.int 0, .int 0, .int 0, .int 0, .null, .null, .null, .null, .null]))] H := hP
  have hD : va_D A [(h0, .inr (6, [.int 0, .int 0, .int 0, .int 0, .null, .null, .null, .null, .null]))] := hD
  refine lv_aload_n hx hb dc_cX6_init_24 rfl (lv_at hl 0 rfl) ?_
  refine lv_bipush (v := 10) hx hb dc_cX6_init_25 (by decide) ?_
  refine fc_newI (N := 10) hx hb (hts _ (fg_w_in (w := 119) (c := .arrayClass .int) (by decide +kernel) (by decide +kernel))) hK hP hD hS hA (by decide) (by decide) (Nat.le_of_ble_eq_true rfl) (Nat.le_of_ble_eq_true rfl) dc_cX6_init_27 (fun q1 H hP hD hS => ?_)
  refine va_putF (D := fg_D Λ) (ci := 6) (v := .ref q1) (ty := .array .int) (C := RX6) (T := TX6) (N := 9) hx hb hts (fc_lay 6 rfl) tyX6 tyX6_ok nmX6 hown hK hP hD hS 0 rfl rfl 4 (by decide) (hts _ (fg_w_in (w := 140) (c := .fieldLink RX6 24 "FlagSignals$Ship" "kinds" "[I") (by decide +kernel) (by decide +kernel))) (fun _ h9 => h9) rfl hin rfl (by decide +kernel) rfl rfl (Nat.le_of_ble_eq_true rfl) dc_cX6_init_29 (fun H locs hP hD hS => ?_)
  have hP : va_P (fg_D Λ) vwCl [(h0, .inr (6, [.int 0, .int 0, .int 0, .int 0, .ref q1, .null, .null, .null, .null])), (q1, .inl (Λ.2.1, 10, .inl (fun _ => 0)))] H := hP
  have hD : va_D A [(h0, .inr (6, [.int 0, .int 0, .int 0, .int 0, .ref q1, .null, .null, .null, .null])), (q1, .inl (Λ.2.1, 10, .inl (fun _ => 0)))] := hD
  refine lv_aload_n hx hb dc_cX6_init_32 rfl (lv_at hl 0 rfl) ?_
  refine lv_bipush (v := 10) hx hb dc_cX6_init_33 (by decide) ?_
  refine fc_newI (N := 10) hx hb (hts _ (fg_w_in (w := 119) (c := .arrayClass .int) (by decide +kernel) (by decide +kernel))) hK hP hD hS hA (by decide) (by decide) (Nat.le_of_ble_eq_true rfl) (Nat.le_of_ble_eq_true rfl) dc_cX6_init_35 (fun q2 H hP hD hS => ?_)
  refine va_putF (D := fg_D Λ) (ci := 6) (v := .ref q2) (ty := .array .int) (C := RX6) (T := TX6) (N := 9) hx hb hts (fc_lay 6 rfl) tyX6 tyX6_ok nmX6 hown hK hP hD hS 0 rfl rfl 5 (by decide) (hts _ (fg_w_in (w := 142) (c := .fieldLink RX6 28 "FlagSignals$Ship" "fores" "[I") (by decide +kernel) (by decide +kernel))) (fun _ h9 => h9) rfl hin rfl (by decide +kernel) rfl rfl (Nat.le_of_ble_eq_true rfl) dc_cX6_init_37 (fun H locs hP hD hS => ?_)
  have hP : va_P (fg_D Λ) vwCl [(h0, .inr (6, [.int 0, .int 0, .int 0, .int 0, .ref q1, .ref q2, .null, .null, .null])), (q1, .inl (Λ.2.1, 10, .inl (fun _ => 0))), (q2, .inl (Λ.2.1, 10, .inl (fun _ => 0)))] H := hP
  have hD : va_D A [(h0, .inr (6, [.int 0, .int 0, .int 0, .int 0, .ref q1, .ref q2, .null, .null, .null])), (q1, .inl (Λ.2.1, 10, .inl (fun _ => 0))), (q2, .inl (Λ.2.1, 10, .inl (fun _ => 0)))] := hD
  refine lv_aload_n hx hb dc_cX6_init_40 rfl (lv_at hl 0 rfl) ?_
  refine lv_bipush (v := 10) hx hb dc_cX6_init_41 (by decide) ?_
  refine fc_newI (N := 10) hx hb (hts _ (fg_w_in (w := 119) (c := .arrayClass .int) (by decide +kernel) (by decide +kernel))) hK hP hD hS hA (by decide) (by decide) (Nat.le_of_ble_eq_true rfl) (Nat.le_of_ble_eq_true rfl) dc_cX6_init_43 (fun q3 H hP hD hS => ?_)
  refine va_putF (D := fg_D Λ) (ci := 6) (v := .ref q3) (ty := .array .int) (C := RX6) (T := TX6) (N := 9) hx hb hts (fc_lay 6 rfl) tyX6 tyX6_ok nmX6 hown hK hP hD hS 0 rfl rfl 6 (by decide) (hts _ (fg_w_in (w := 144) (c := .fieldLink RX6 31 "FlagSignals$Ship" "backs" "[I") (by decide +kernel) (by decide +kernel))) (fun _ h9 => h9) rfl hin rfl (by decide +kernel) rfl rfl (Nat.le_of_ble_eq_true rfl) dc_cX6_init_45 (fun H locs hP hD hS => ?_)
  have hP : va_P (fg_D Λ) vwCl [(h0, .inr (6, [.int 0, .int 0, .int 0, .int 0, .ref q1, .ref q2, .ref q3, .null, .null])), (q1, .inl (Λ.2.1, 10, .inl (fun _ => 0))), (q2, .inl (Λ.2.1, 10, .inl (fun _ => 0))), (q3, .inl (Λ.2.1, 10, .inl (fun _ => 0)))] H := hP
  have hD : va_D A [(h0, .inr (6, [.int 0, .int 0, .int 0, .int 0, .ref q1, .ref q2, .ref q3, .null, .null])), (q1, .inl (Λ.2.1, 10, .inl (fun _ => 0))), (q2, .inl (Λ.2.1, 10, .inl (fun _ => 0))), (q3, .inl (Λ.2.1, 10, .inl (fun _ => 0)))] := hD
  refine lv_aload_n hx hb dc_cX6_init_48 rfl (lv_at hl 0 rfl) ?_
  refine lv_bipush (v := 10) hx hb dc_cX6_init_49 (by decide) ?_
  refine fc_newI (N := 10) hx hb (hts _ (fg_w_in (w := 119) (c := .arrayClass .int) (by decide +kernel) (by decide +kernel))) hK hP hD hS hA (by decide) (by decide) (Nat.le_of_ble_eq_true rfl) (Nat.le_of_ble_eq_true rfl) dc_cX6_init_51 (fun q4 H hP hD hS => ?_)
  refine va_putF (D := fg_D Λ) (ci := 6) (v := .ref q4) (ty := .array .int) (C := RX6) (T := TX6) (N := 9) hx hb hts (fc_lay 6 rfl) tyX6 tyX6_ok nmX6 hown hK hP hD hS 0 rfl rfl 7 (by decide) (hts _ (fg_w_in (w := 146) (c := .fieldLink RX6 34 "FlagSignals$Ship" "lengths" "[I") (by decide +kernel) (by decide +kernel))) (fun _ h9 => h9) rfl hin rfl (by decide +kernel) rfl rfl (Nat.le_of_ble_eq_true rfl) dc_cX6_init_53 (fun H locs hP hD hS => ?_)
  have hP : va_P (fg_D Λ) vwCl [(h0, .inr (6, [.int 0, .int 0, .int 0, .int 0, .ref q1, .ref q2, .ref q3, .ref q4, .null])), (q1, .inl (Λ.2.1, 10, .inl (fun _ => 0))), (q2, .inl (Λ.2.1, 10, .inl (fun _ => 0))), (q3, .inl (Λ.2.1, 10, .inl (fun _ => 0))), (q4, .inl (Λ.2.1, 10, .inl (fun _ => 0)))] H := hP
  have hD : va_D A [(h0, .inr (6, [.int 0, .int 0, .int 0, .int 0, .ref q1, .ref q2, .ref q3, .ref q4, .null])), (q1, .inl (Λ.2.1, 10, .inl (fun _ => 0))), (q2, .inl (Λ.2.1, 10, .inl (fun _ => 0))), (q3, .inl (Λ.2.1, 10, .inl (fun _ => 0))), (q4, .inl (Λ.2.1, 10, .inl (fun _ => 0)))] := hD
  refine lv_aload_n hx hb dc_cX6_init_56 rfl (lv_at hl 0 rfl) ?_
  refine lv_bipush (v := 40) hx hb dc_cX6_init_57 (by decide) ?_
  refine fc_newI (N := 40) hx hb (hts _ (fg_w_in (w := 119) (c := .arrayClass .int) (by decide +kernel) (by decide +kernel))) hK hP hD hS hA (by decide) (by decide) (Nat.le_of_ble_eq_true rfl) (Nat.le_of_ble_eq_true rfl) dc_cX6_init_59 (fun q5 H hP hD hS => ?_)
  refine va_putF (D := fg_D Λ) (ci := 6) (v := .ref q5) (ty := .array .int) (C := RX6) (T := TX6) (N := 9) hx hb hts (fc_lay 6 rfl) tyX6 tyX6_ok nmX6 hown hK hP hD hS 0 rfl rfl 8 (by decide) (hts _ (fg_w_in (w := 149) (c := .fieldLink RX6 37 "FlagSignals$Ship" "rows" "[I") (by decide +kernel) (by decide +kernel))) (fun _ h9 => h9) rfl hin rfl (by decide +kernel) rfl rfl (Nat.le_of_ble_eq_true rfl) dc_cX6_init_61 (fun H locs hP hD hS => ?_)
  have hP : va_P (fg_D Λ) vwCl [(h0, .inr (6, [.int 0, .int 0, .int 0, .int 0, .ref q1, .ref q2, .ref q3, .ref q4, .ref q5])), (q1, .inl (Λ.2.1, 10, .inl (fun _ => 0))), (q2, .inl (Λ.2.1, 10, .inl (fun _ => 0))), (q3, .inl (Λ.2.1, 10, .inl (fun _ => 0))), (q4, .inl (Λ.2.1, 10, .inl (fun _ => 0))), (q5, .inl (Λ.2.1, 40, .inl (fun _ => 0)))] H := hP
  have hD : va_D A [(h0, .inr (6, [.int 0, .int 0, .int 0, .int 0, .ref q1, .ref q2, .ref q3, .ref q4, .ref q5])), (q1, .inl (Λ.2.1, 10, .inl (fun _ => 0))), (q2, .inl (Λ.2.1, 10, .inl (fun _ => 0))), (q3, .inl (Λ.2.1, 10, .inl (fun _ => 0))), (q4, .inl (Λ.2.1, 10, .inl (fun _ => 0))), (q5, .inl (Λ.2.1, 40, .inl (fun _ => 0)))] := hD
  exact W.vret hx hb hr (fun t ht hW => ⟨⟨[(h0, .inr (6, [.int 0, .int 0, .int 0, .int 0, .ref q1, .ref q2, .ref q3, .ref q4, .ref q5])), (q1, .inl (Λ.2.1, 10, .inl (fun _ => 0))), (q2, .inl (Λ.2.1, 10, .inl (fun _ => 0))), (q3, .inl (Λ.2.1, 10, .inl (fun _ => 0))), (q4, .inl (Λ.2.1, 10, .inl (fun _ => 0))), (q5, .inl (Λ.2.1, 40, .inl (fun _ => 0)))], rfl, ⟨fun k => [0, q1, q2, q3, q4, q5].getD k 0, rfl⟩, by rw [ht]; exact hP, hD⟩, hS.F ht⟩) hS.2.2 dc_cX6_init_64
theorem dc_cX7_init_0 : decode cX7_init 0 = .ok (.aload_n 0, 1) := by decide +kernel
theorem dc_cX7_init_1 : decode cX7_init 1 = .ok (.invokespecial 3, 3) := by decide +kernel
theorem dc_cX7_init_4 : decode cX7_init 4 = .ok (.aload_n 0, 1) := by decide +kernel
theorem dc_cX7_init_5 : decode cX7_init 5 = .ok (.sipush 240, 3) := by decide +kernel
theorem dc_cX7_init_8 : decode cX7_init 8 = .ok (.newarray .int, 2) := by decide +kernel
theorem dc_cX7_init_10 : decode cX7_init 10 = .ok (.putfield 9, 3) := by decide +kernel
theorem dc_cX7_init_13 : decode cX7_init 13 = .ok (.aload_n 0, 1) := by decide +kernel
theorem dc_cX7_init_14 : decode cX7_init 14 = .ok (.iconst 0, 1) := by decide +kernel
theorem dc_cX7_init_15 : decode cX7_init 15 = .ok (.putfield 15, 3) := by decide +kernel
theorem dc_cX7_init_18 : decode cX7_init 18 = .ok (.aload_n 0, 1) := by decide +kernel
theorem dc_cX7_init_19 : decode cX7_init 19 = .ok (.iconst 0, 1) := by decide +kernel
theorem dc_cX7_init_20 : decode cX7_init 20 = .ok (.putfield 19, 3) := by decide +kernel
theorem dc_cX7_init_23 : decode cX7_init 23 = .ok (.aload_n 0, 1) := by decide +kernel
theorem dc_cX7_init_24 : decode cX7_init 24 = .ok (.iconst 0, 1) := by decide +kernel
theorem dc_cX7_init_25 : decode cX7_init 25 = .ok (.putfield 22, 3) := by decide +kernel
theorem dc_cX7_init_28 : decode cX7_init 28 = .ok (.aload_n 0, 1) := by decide +kernel
theorem dc_cX7_init_29 : decode cX7_init 29 = .ok (.iconst (-1), 1) := by decide +kernel
theorem dc_cX7_init_30 : decode cX7_init 30 = .ok (.putfield 25, 3) := by decide +kernel
theorem dc_cX7_init_33 : decode cX7_init 33 = .ok (.return_, 1) := by decide +kernel
def fc_W7 (Λ : fg_La) (h0 : Nat) (q : Nat → Nat) : va_W := [(h0, .inr (7, [.ref (q 1), .int 0, .int 0, .int 0, .int (-1)])), (q 1, .inl (Λ.2.1, 240, .inl (fun _ => 0)))]
set_option maxHeartbeats 4000000 in
set_option maxRecDepth 100000 in
theorem fc_init7 (l : Launch) {Λ : fg_La} (h0 sz : Nat) : Met l yX7_init (.code yX7_init cX7_init 1 none :: fg_T) (fc_rm 1 1 240) (va_Pc [.ref h0] (fc_Pre Λ sz [(h0, .inr (7, [.null, .int 0, .int 0, .int 0, .int 0]))])) (va_Qv (fun w : va_W => ∃ q : Nat → Nat, w = fc_W7 Λ h0 q) (fc_B Λ (va_A [(h0, .inr (7, [.null, .int 0, .int 0, .int 0, .int 0]))] sz)) (va_A [(h0, .inr (7, [.null, .int 0, .int 0, .int 0, .int 0]))] sz)) 1 240 (va_A [(h0, .inr (7, [.null, .int 0, .int 0, .int 0, .int 0]))] sz) := by
  refine Met.ofW (cc := cX7_init) (maxL := 1) (ret := none) (by decide) rfl ?_
  intro p e s m args below meth c s₁ B hml hv
  obtain ⟨rfl, hsz, hP, hD0, hE⟩ := hv
  have hx := B.exec
  have hb := B.bytes
  have hr := B.returns
  have hts0 := atoms_spec (ws := .code yX7_init cX7_init 1 none :: fg_T) B.pre
  have hts : ∀ w ∈ fg_T, w.before (([.ref h0] : List Value).toArray) s = true := fun w hw => hts0 w (List.mem_cons_of_mem _ hw)
  have hown : s.vm.findClass RX7 = some m.cls := findClass_of_methodNamed B.named
  have hlocks := B.notSynchronized
  have hin : meth.name = "<init>" := (name_of_methodNamed B.named B.method).1
  subst hsz
  have hD := hD0.self (sz := s.heap.size)
  generalize hAe : va_A [(h0, .inr (7, [.null, .int 0, .int 0, .int 0, .int 0]))] s.heap.size = A at hD ⊢
  have hA : ∀ q : Nat, s.heap.size ≤ q → A q := fun q h => by rw [← hAe]; exact Or.inr h
  have hS : va_S A s.heap s.heap [] := va_S.rf
  have hK := hE.1.1
  have hP : va_P (fg_D Λ) vwCl [(h0, .inr (7, [.null, .int 0, .int 0, .int 0, .int 0]))] s.heap := hP
  have hl := lv_entry ([.ref h0]) (n := 1) (Nat.le_of_ble_eq_true rfl)
  rw [lg_entry_eq]
  generalize (lg_sl ([.ref h0]) ++ List.replicate (1 - (lg_sl ([.ref h0])).length) Slot.unset).toArray = ls at hl ⊢
  have hl : lv_has ls 1 [(0, .ref h0)] := hl
  refine lv_aload_n hx hb dc_cX7_init_0 rfl (lv_at hl 0 rfl) ?_
  refine W.objInit hx hb hown (hts _ (fg_w_in (w := 100) (c := .methodLink RX7 3 objectInit) (by decide +kernel) (by decide +kernel))) (hts _ (fg_w_in (w := 93) (c := .instanceMethod objectInit) (by decide +kernel) (by decide +kernel))) (hts _ (fg_w_in (w := 94) (c := .code objectInit ⟨#[0xb1]⟩ 1 none) (by decide +kernel) (by decide +kernel))) rfl (by rw [hml]; exact hl.1) rfl dc_cX7_init_1 (Nat.le_of_ble_eq_true rfl) (Nat.le_of_ble_eq_true rfl) ?_
  refine W.eq (g2 := F0 m 4 ls []) rfl ?_
  refine lv_aload_n hx hb dc_cX7_init_4 rfl (lv_at hl 0 rfl) ?_
  refine lv_sipush (v := 240) hx hb dc_cX7_init_5 (by decide) ?_
  refine fc_newI (N := 240) hx hb (hts _ (fg_w_in (w := 119) (c := .arrayClass .int) (by decide +kernel) (by decide +kernel))) hK hP hD hS hA (by decide) (by decide) (Nat.le_of_ble_eq_true rfl) (Nat.le_of_ble_eq_true rfl) dc_cX7_init_8 (fun q1 H hP hD hS => ?_)
  refine va_putF (D := fg_D Λ) (ci := 7) (v := .ref q1) (ty := .array .int) (C := RX7) (T := TX7) (N := 5) hx hb hts (fc_lay 7 rfl) tyX7 tyX7_ok nmX7 hown hK hP hD hS 0 rfl rfl 0 (by decide) (hts _ (fg_w_in (w := 101) (c := .fieldLink RX7 9 "FlagSignals$Text" "letters" "[I") (by decide +kernel) (by decide +kernel))) (fun _ h9 => h9) rfl hin rfl (by decide +kernel) rfl rfl (Nat.le_of_ble_eq_true rfl) dc_cX7_init_10 (fun H locs hP hD hS => ?_)
  have hP : va_P (fg_D Λ) vwCl [(h0, .inr (7, [.ref q1, .int 0, .int 0, .int 0, .int 0])), (q1, .inl (Λ.2.1, 240, .inl (fun _ => 0)))] H := hP
  have hD : va_D A [(h0, .inr (7, [.ref q1, .int 0, .int 0, .int 0, .int 0])), (q1, .inl (Λ.2.1, 240, .inl (fun _ => 0)))] := hD
  refine lv_aload_n hx hb dc_cX7_init_13 rfl (lv_at hl 0 rfl) ?_
  refine lv_iconst (v := 0) hx hb dc_cX7_init_14 (by decide) ?_
  refine va_put (D := fg_D Λ) (ci := 7) (v := .int 0) (ty := .int) (C := RX7) (T := TX7) (N := 5) hx hb hts (fc_lay 7 rfl) tyX7 tyX7_ok nmX7 hown hK hP hD hS 0 rfl rfl 1 (by decide) (hts _ (fg_w_in (w := 102) (c := .fieldLink RX7 15 "FlagSignals$Text" "count" "I") (by decide +kernel) (by decide +kernel))) (fun _ h9 => h9) rfl (by decide +kernel) rfl rfl (Nat.le_of_ble_eq_true rfl) dc_cX7_init_15 (fun H locs hP hD hS => ?_)
  have hP : va_P (fg_D Λ) vwCl [(h0, .inr (7, [.ref q1, .int 0, .int 0, .int 0, .int 0])), (q1, .inl (Λ.2.1, 240, .inl (fun _ => 0)))] H := hP
  have hD : va_D A [(h0, .inr (7, [.ref q1, .int 0, .int 0, .int 0, .int 0])), (q1, .inl (Λ.2.1, 240, .inl (fun _ => 0)))] := hD
  refine lv_aload_n hx hb dc_cX7_init_18 rfl (lv_at hl 0 rfl) ?_
  refine lv_iconst (v := 0) hx hb dc_cX7_init_19 (by decide) ?_
  refine va_put (D := fg_D Λ) (ci := 7) (v := .int 0) (ty := .int) (C := RX7) (T := TX7) (N := 5) hx hb hts (fc_lay 7 rfl) tyX7 tyX7_ok nmX7 hown hK hP hD hS 0 rfl rfl 2 (by decide) (hts _ (fg_w_in (w := 104) (c := .fieldLink RX7 19 "FlagSignals$Text" "at" "I") (by decide +kernel) (by decide +kernel))) (fun _ h9 => h9) rfl (by decide +kernel) rfl rfl (Nat.le_of_ble_eq_true rfl) dc_cX7_init_20 (fun H locs hP hD hS => ?_)
  have hP : va_P (fg_D Λ) vwCl [(h0, .inr (7, [.ref q1, .int 0, .int 0, .int 0, .int 0])), (q1, .inl (Λ.2.1, 240, .inl (fun _ => 0)))] H := hP
  have hD : va_D A [(h0, .inr (7, [.ref q1, .int 0, .int 0, .int 0, .int 0])), (q1, .inl (Λ.2.1, 240, .inl (fun _ => 0)))] := hD
  refine lv_aload_n hx hb dc_cX7_init_23 rfl (lv_at hl 0 rfl) ?_
  refine lv_iconst (v := 0) hx hb dc_cX7_init_24 (by decide) ?_
  refine va_put (D := fg_D Λ) (ci := 7) (v := .int 0) (ty := .int) (C := RX7) (T := TX7) (N := 5) hx hb hts (fc_lay 7 rfl) tyX7 tyX7_ok nmX7 hown hK hP hD hS 0 rfl rfl 3 (by decide) (hts _ (fg_w_in (w := 105) (c := .fieldLink RX7 22 "FlagSignals$Text" "wrong" "I") (by decide +kernel) (by decide +kernel))) (fun _ h9 => h9) rfl (by decide +kernel) rfl rfl (Nat.le_of_ble_eq_true rfl) dc_cX7_init_25 (fun H locs hP hD hS => ?_)
  have hP : va_P (fg_D Λ) vwCl [(h0, .inr (7, [.ref q1, .int 0, .int 0, .int 0, .int 0])), (q1, .inl (Λ.2.1, 240, .inl (fun _ => 0)))] H := hP
  have hD : va_D A [(h0, .inr (7, [.ref q1, .int 0, .int 0, .int 0, .int 0])), (q1, .inl (Λ.2.1, 240, .inl (fun _ => 0)))] := hD
  refine lv_aload_n hx hb dc_cX7_init_28 rfl (lv_at hl 0 rfl) ?_
  refine lv_iconst (v := (-1)) hx hb dc_cX7_init_29 (by decide) ?_
  refine va_put (D := fg_D Λ) (ci := 7) (v := .int (-1)) (ty := .int) (C := RX7) (T := TX7) (N := 5) hx hb hts (fc_lay 7 rfl) tyX7 tyX7_ok nmX7 hown hK hP hD hS 0 rfl rfl 4 (by decide) (hts _ (fg_w_in (w := 106) (c := .fieldLink RX7 25 "FlagSignals$Text" "wrongAt" "I") (by decide +kernel) (by decide +kernel))) (fun _ h9 => h9) rfl (by decide +kernel) rfl rfl (Nat.le_of_ble_eq_true rfl) dc_cX7_init_30 (fun H locs hP hD hS => ?_)
  have hP : va_P (fg_D Λ) vwCl [(h0, .inr (7, [.ref q1, .int 0, .int 0, .int 0, .int (-1)])), (q1, .inl (Λ.2.1, 240, .inl (fun _ => 0)))] H := hP
  have hD : va_D A [(h0, .inr (7, [.ref q1, .int 0, .int 0, .int 0, .int (-1)])), (q1, .inl (Λ.2.1, 240, .inl (fun _ => 0)))] := hD
  exact W.vret hx hb hr (fun t ht hW => ⟨⟨[(h0, .inr (7, [.ref q1, .int 0, .int 0, .int 0, .int (-1)])), (q1, .inl (Λ.2.1, 240, .inl (fun _ => 0)))], rfl, ⟨fun k => [0, q1].getD k 0, rfl⟩, by rw [ht]; exact hP, hD⟩, hS.F ht⟩) hS.2.2 dc_cX7_init_33
theorem dc_cX3_init_0 : decode cX3_init 0 = .ok (.aload_n 0, 1) := by decide +kernel
theorem dc_cX3_init_1 : decode cX3_init 1 = .ok (.invokespecial 3, 3) := by decide +kernel
theorem dc_cX3_init_4 : decode cX3_init 4 = .ok (.aload_n 0, 1) := by decide +kernel
theorem dc_cX3_init_5 : decode cX3_init 5 = .ok (.bipush 8, 2) := by decide +kernel
theorem dc_cX3_init_7 : decode cX3_init 7 = .ok (.newarray .int, 2) := by decide +kernel
theorem dc_cX3_init_9 : decode cX3_init 9 = .ok (.putfield 9, 3) := by decide +kernel
theorem dc_cX3_init_12 : decode cX3_init 12 = .ok (.aload_n 0, 1) := by decide +kernel
theorem dc_cX3_init_13 : decode cX3_init 13 = .ok (.bipush 8, 2) := by decide +kernel
theorem dc_cX3_init_15 : decode cX3_init 15 = .ok (.newarray .int, 2) := by decide +kernel
theorem dc_cX3_init_17 : decode cX3_init 17 = .ok (.putfield 15, 3) := by decide +kernel
theorem dc_cX3_init_20 : decode cX3_init 20 = .ok (.aload_n 0, 1) := by decide +kernel
theorem dc_cX3_init_21 : decode cX3_init 21 = .ok (.bipush 15, 2) := by decide +kernel
theorem dc_cX3_init_23 : decode cX3_init 23 = .ok (.newarray .int, 2) := by decide +kernel
theorem dc_cX3_init_25 : decode cX3_init 25 = .ok (.putfield 18, 3) := by decide +kernel
theorem dc_cX3_init_28 : decode cX3_init 28 = .ok (.aload_n 0, 1) := by decide +kernel
theorem dc_cX3_init_29 : decode cX3_init 29 = .ok (.bipush 15, 2) := by decide +kernel
theorem dc_cX3_init_31 : decode cX3_init 31 = .ok (.newarray .int, 2) := by decide +kernel
theorem dc_cX3_init_33 : decode cX3_init 33 = .ok (.putfield 21, 3) := by decide +kernel
theorem dc_cX3_init_36 : decode cX3_init 36 = .ok (.aload_n 0, 1) := by decide +kernel
theorem dc_cX3_init_37 : decode cX3_init 37 = .ok (.iconst 0, 1) := by decide +kernel
theorem dc_cX3_init_38 : decode cX3_init 38 = .ok (.putfield 24, 3) := by decide +kernel
theorem dc_cX3_init_41 : decode cX3_init 41 = .ok (.aload_n 0, 1) := by decide +kernel
theorem dc_cX3_init_42 : decode cX3_init 42 = .ok (.iconst 0, 1) := by decide +kernel
theorem dc_cX3_init_43 : decode cX3_init 43 = .ok (.putfield 28, 3) := by decide +kernel
theorem dc_cX3_init_46 : decode cX3_init 46 = .ok (.return_, 1) := by decide +kernel
def fc_W3 (Λ : fg_La) (h0 : Nat) (q : Nat → Nat) : va_W := [(h0, .inr (3, [.ref (q 1), .ref (q 2), .ref (q 3), .ref (q 4), .int 0, .int 0])), (q 1, .inl (Λ.2.1, 8, .inl (fun _ => 0))), (q 2, .inl (Λ.2.1, 8, .inl (fun _ => 0))), (q 3, .inl (Λ.2.1, 15, .inl (fun _ => 0))), (q 4, .inl (Λ.2.1, 15, .inl (fun _ => 0)))]
set_option maxHeartbeats 4000000 in
set_option maxRecDepth 100000 in
theorem fc_init3 (l : Launch) {Λ : fg_La} (h0 sz : Nat) : Met l yX3_init (.code yX3_init cX3_init 1 none :: fg_T) (fc_rm 1 4 46) (va_Pc [.ref h0] (fc_Pre Λ sz [(h0, .inr (3, [.null, .null, .null, .null, .int 0, .int 0]))])) (va_Qv (fun w : va_W => ∃ q : Nat → Nat, w = fc_W3 Λ h0 q) (fc_B Λ (va_A [(h0, .inr (3, [.null, .null, .null, .null, .int 0, .int 0]))] sz)) (va_A [(h0, .inr (3, [.null, .null, .null, .null, .int 0, .int 0]))] sz)) 4 46 (va_A [(h0, .inr (3, [.null, .null, .null, .null, .int 0, .int 0]))] sz) := by
  refine Met.ofW (cc := cX3_init) (maxL := 1) (ret := none) (by decide) rfl ?_
  intro p e s m args below meth c s₁ B hml hv
  obtain ⟨rfl, hsz, hP, hD0, hE⟩ := hv
  have hx := B.exec
  have hb := B.bytes
  have hr := B.returns
  have hts0 := atoms_spec (ws := .code yX3_init cX3_init 1 none :: fg_T) B.pre
  have hts : ∀ w ∈ fg_T, w.before (([.ref h0] : List Value).toArray) s = true := fun w hw => hts0 w (List.mem_cons_of_mem _ hw)
  have hown : s.vm.findClass RX3 = some m.cls := findClass_of_methodNamed B.named
  have hlocks := B.notSynchronized
  have hin : meth.name = "<init>" := (name_of_methodNamed B.named B.method).1
  subst hsz
  have hD := hD0.self (sz := s.heap.size)
  generalize hAe : va_A [(h0, .inr (3, [.null, .null, .null, .null, .int 0, .int 0]))] s.heap.size = A at hD ⊢
  have hA : ∀ q : Nat, s.heap.size ≤ q → A q := fun q h => by rw [← hAe]; exact Or.inr h
  have hS : va_S A s.heap s.heap [] := va_S.rf
  have hK := hE.1.1
  have hP : va_P (fg_D Λ) vwCl [(h0, .inr (3, [.null, .null, .null, .null, .int 0, .int 0]))] s.heap := hP
  have hl := lv_entry ([.ref h0]) (n := 1) (Nat.le_of_ble_eq_true rfl)
  rw [lg_entry_eq]
  generalize (lg_sl ([.ref h0]) ++ List.replicate (1 - (lg_sl ([.ref h0])).length) Slot.unset).toArray = ls at hl ⊢
  have hl : lv_has ls 1 [(0, .ref h0)] := hl
  refine lv_aload_n hx hb dc_cX3_init_0 rfl (lv_at hl 0 rfl) ?_
  refine W.objInit hx hb hown (hts _ (fg_w_in (w := 251) (c := .methodLink RX3 3 objectInit) (by decide +kernel) (by decide +kernel))) (hts _ (fg_w_in (w := 93) (c := .instanceMethod objectInit) (by decide +kernel) (by decide +kernel))) (hts _ (fg_w_in (w := 94) (c := .code objectInit ⟨#[0xb1]⟩ 1 none) (by decide +kernel) (by decide +kernel))) rfl (by rw [hml]; exact hl.1) rfl dc_cX3_init_1 (Nat.le_of_ble_eq_true rfl) (Nat.le_of_ble_eq_true rfl) ?_
  refine W.eq (g2 := F0 m 4 ls []) rfl ?_
  refine lv_aload_n hx hb dc_cX3_init_4 rfl (lv_at hl 0 rfl) ?_
  refine lv_bipush (v := 8) hx hb dc_cX3_init_5 (by decide) ?_
  refine fc_newI (N := 8) hx hb (hts _ (fg_w_in (w := 119) (c := .arrayClass .int) (by decide +kernel) (by decide +kernel))) hK hP hD hS hA (by decide) (by decide) (Nat.le_of_ble_eq_true rfl) (Nat.le_of_ble_eq_true rfl) dc_cX3_init_7 (fun q1 H hP hD hS => ?_)
  refine va_putF (D := fg_D Λ) (ci := 3) (v := .ref q1) (ty := .array .int) (C := RX3) (T := TX3) (N := 6) hx hb hts (fc_lay 3 rfl) tyX3 tyX3_ok nmX3 hown hK hP hD hS 0 rfl rfl 0 (by decide) (hts _ (fg_w_in (w := 252) (c := .fieldLink RX3 9 "FlagSignals$Log" "sent" "[I") (by decide +kernel) (by decide +kernel))) (fun _ h9 => h9) rfl hin rfl (by decide +kernel) rfl rfl (Nat.le_of_ble_eq_true rfl) dc_cX3_init_9 (fun H locs hP hD hS => ?_)
  have hP : va_P (fg_D Λ) vwCl [(h0, .inr (3, [.ref q1, .null, .null, .null, .int 0, .int 0])), (q1, .inl (Λ.2.1, 8, .inl (fun _ => 0)))] H := hP
  have hD : va_D A [(h0, .inr (3, [.ref q1, .null, .null, .null, .int 0, .int 0])), (q1, .inl (Λ.2.1, 8, .inl (fun _ => 0)))] := hD
  refine lv_aload_n hx hb dc_cX3_init_12 rfl (lv_at hl 0 rfl) ?_
  refine lv_bipush (v := 8) hx hb dc_cX3_init_13 (by decide) ?_
  refine fc_newI (N := 8) hx hb (hts _ (fg_w_in (w := 119) (c := .arrayClass .int) (by decide +kernel) (by decide +kernel))) hK hP hD hS hA (by decide) (by decide) (Nat.le_of_ble_eq_true rfl) (Nat.le_of_ble_eq_true rfl) dc_cX3_init_15 (fun q2 H hP hD hS => ?_)
  refine va_putF (D := fg_D Λ) (ci := 3) (v := .ref q2) (ty := .array .int) (C := RX3) (T := TX3) (N := 6) hx hb hts (fc_lay 3 rfl) tyX3 tyX3_ok nmX3 hown hK hP hD hS 0 rfl rfl 1 (by decide) (hts _ (fg_w_in (w := 253) (c := .fieldLink RX3 15 "FlagSignals$Log" "seen" "[I") (by decide +kernel) (by decide +kernel))) (fun _ h9 => h9) rfl hin rfl (by decide +kernel) rfl rfl (Nat.le_of_ble_eq_true rfl) dc_cX3_init_17 (fun H locs hP hD hS => ?_)
  have hP : va_P (fg_D Λ) vwCl [(h0, .inr (3, [.ref q1, .ref q2, .null, .null, .int 0, .int 0])), (q1, .inl (Λ.2.1, 8, .inl (fun _ => 0))), (q2, .inl (Λ.2.1, 8, .inl (fun _ => 0)))] H := hP
  have hD : va_D A [(h0, .inr (3, [.ref q1, .ref q2, .null, .null, .int 0, .int 0])), (q1, .inl (Λ.2.1, 8, .inl (fun _ => 0))), (q2, .inl (Λ.2.1, 8, .inl (fun _ => 0)))] := hD
  refine lv_aload_n hx hb dc_cX3_init_20 rfl (lv_at hl 0 rfl) ?_
  refine lv_bipush (v := 15) hx hb dc_cX3_init_21 (by decide) ?_
  refine fc_newI (N := 15) hx hb (hts _ (fg_w_in (w := 119) (c := .arrayClass .int) (by decide +kernel) (by decide +kernel))) hK hP hD hS hA (by decide) (by decide) (Nat.le_of_ble_eq_true rfl) (Nat.le_of_ble_eq_true rfl) dc_cX3_init_23 (fun q3 H hP hD hS => ?_)
  refine va_putF (D := fg_D Λ) (ci := 3) (v := .ref q3) (ty := .array .int) (C := RX3) (T := TX3) (N := 6) hx hb hts (fc_lay 3 rfl) tyX3 tyX3_ok nmX3 hown hK hP hD hS 0 rfl rfl 2 (by decide) (hts _ (fg_w_in (w := 254) (c := .fieldLink RX3 18 "FlagSignals$Log" "entryLines" "[I") (by decide +kernel) (by decide +kernel))) (fun _ h9 => h9) rfl hin rfl (by decide +kernel) rfl rfl (Nat.le_of_ble_eq_true rfl) dc_cX3_init_25 (fun H locs hP hD hS => ?_)
  have hP : va_P (fg_D Λ) vwCl [(h0, .inr (3, [.ref q1, .ref q2, .ref q3, .null, .int 0, .int 0])), (q1, .inl (Λ.2.1, 8, .inl (fun _ => 0))), (q2, .inl (Λ.2.1, 8, .inl (fun _ => 0))), (q3, .inl (Λ.2.1, 15, .inl (fun _ => 0)))] H := hP
  have hD : va_D A [(h0, .inr (3, [.ref q1, .ref q2, .ref q3, .null, .int 0, .int 0])), (q1, .inl (Λ.2.1, 8, .inl (fun _ => 0))), (q2, .inl (Λ.2.1, 8, .inl (fun _ => 0))), (q3, .inl (Λ.2.1, 15, .inl (fun _ => 0)))] := hD
  refine lv_aload_n hx hb dc_cX3_init_28 rfl (lv_at hl 0 rfl) ?_
  refine lv_bipush (v := 15) hx hb dc_cX3_init_29 (by decide) ?_
  refine fc_newI (N := 15) hx hb (hts _ (fg_w_in (w := 119) (c := .arrayClass .int) (by decide +kernel) (by decide +kernel))) hK hP hD hS hA (by decide) (by decide) (Nat.le_of_ble_eq_true rfl) (Nat.le_of_ble_eq_true rfl) dc_cX3_init_31 (fun q4 H hP hD hS => ?_)
  refine va_putF (D := fg_D Λ) (ci := 3) (v := .ref q4) (ty := .array .int) (C := RX3) (T := TX3) (N := 6) hx hb hts (fc_lay 3 rfl) tyX3 tyX3_ok nmX3 hown hK hP hD hS 0 rfl rfl 3 (by decide) (hts _ (fg_w_in (w := 255) (c := .fieldLink RX3 21 "FlagSignals$Log" "entrySignals" "[I") (by decide +kernel) (by decide +kernel))) (fun _ h9 => h9) rfl hin rfl (by decide +kernel) rfl rfl (Nat.le_of_ble_eq_true rfl) dc_cX3_init_33 (fun H locs hP hD hS => ?_)
  have hP : va_P (fg_D Λ) vwCl [(h0, .inr (3, [.ref q1, .ref q2, .ref q3, .ref q4, .int 0, .int 0])), (q1, .inl (Λ.2.1, 8, .inl (fun _ => 0))), (q2, .inl (Λ.2.1, 8, .inl (fun _ => 0))), (q3, .inl (Λ.2.1, 15, .inl (fun _ => 0))), (q4, .inl (Λ.2.1, 15, .inl (fun _ => 0)))] H := hP
  have hD : va_D A [(h0, .inr (3, [.ref q1, .ref q2, .ref q3, .ref q4, .int 0, .int 0])), (q1, .inl (Λ.2.1, 8, .inl (fun _ => 0))), (q2, .inl (Λ.2.1, 8, .inl (fun _ => 0))), (q3, .inl (Λ.2.1, 15, .inl (fun _ => 0))), (q4, .inl (Λ.2.1, 15, .inl (fun _ => 0)))] := hD
  refine lv_aload_n hx hb dc_cX3_init_36 rfl (lv_at hl 0 rfl) ?_
  refine lv_iconst (v := 0) hx hb dc_cX3_init_37 (by decide) ?_
  refine va_put (D := fg_D Λ) (ci := 3) (v := .int 0) (ty := .int) (C := RX3) (T := TX3) (N := 6) hx hb hts (fc_lay 3 rfl) tyX3 tyX3_ok nmX3 hown hK hP hD hS 0 rfl rfl 4 (by decide) (hts _ (fg_w_in (w := 256) (c := .fieldLink RX3 24 "FlagSignals$Log" "reads" "I") (by decide +kernel) (by decide +kernel))) (fun _ h9 => h9) rfl (by decide +kernel) rfl rfl (Nat.le_of_ble_eq_true rfl) dc_cX3_init_38 (fun H locs hP hD hS => ?_)
  have hP : va_P (fg_D Λ) vwCl [(h0, .inr (3, [.ref q1, .ref q2, .ref q3, .ref q4, .int 0, .int 0])), (q1, .inl (Λ.2.1, 8, .inl (fun _ => 0))), (q2, .inl (Λ.2.1, 8, .inl (fun _ => 0))), (q3, .inl (Λ.2.1, 15, .inl (fun _ => 0))), (q4, .inl (Λ.2.1, 15, .inl (fun _ => 0)))] H := hP
  have hD : va_D A [(h0, .inr (3, [.ref q1, .ref q2, .ref q3, .ref q4, .int 0, .int 0])), (q1, .inl (Λ.2.1, 8, .inl (fun _ => 0))), (q2, .inl (Λ.2.1, 8, .inl (fun _ => 0))), (q3, .inl (Λ.2.1, 15, .inl (fun _ => 0))), (q4, .inl (Λ.2.1, 15, .inl (fun _ => 0)))] := hD
  refine lv_aload_n hx hb dc_cX3_init_41 rfl (lv_at hl 0 rfl) ?_
  refine lv_iconst (v := 0) hx hb dc_cX3_init_42 (by decide) ?_
  refine va_put (D := fg_D Λ) (ci := 3) (v := .int 0) (ty := .int) (C := RX3) (T := TX3) (N := 6) hx hb hts (fc_lay 3 rfl) tyX3 tyX3_ok nmX3 hown hK hP hD hS 0 rfl rfl 5 (by decide) (hts _ (fg_w_in (w := 258) (c := .fieldLink RX3 28 "FlagSignals$Log" "entries" "I") (by decide +kernel) (by decide +kernel))) (fun _ h9 => h9) rfl (by decide +kernel) rfl rfl (Nat.le_of_ble_eq_true rfl) dc_cX3_init_43 (fun H locs hP hD hS => ?_)
  have hP : va_P (fg_D Λ) vwCl [(h0, .inr (3, [.ref q1, .ref q2, .ref q3, .ref q4, .int 0, .int 0])), (q1, .inl (Λ.2.1, 8, .inl (fun _ => 0))), (q2, .inl (Λ.2.1, 8, .inl (fun _ => 0))), (q3, .inl (Λ.2.1, 15, .inl (fun _ => 0))), (q4, .inl (Λ.2.1, 15, .inl (fun _ => 0)))] H := hP
  have hD : va_D A [(h0, .inr (3, [.ref q1, .ref q2, .ref q3, .ref q4, .int 0, .int 0])), (q1, .inl (Λ.2.1, 8, .inl (fun _ => 0))), (q2, .inl (Λ.2.1, 8, .inl (fun _ => 0))), (q3, .inl (Λ.2.1, 15, .inl (fun _ => 0))), (q4, .inl (Λ.2.1, 15, .inl (fun _ => 0)))] := hD
  exact W.vret hx hb hr (fun t ht hW => ⟨⟨[(h0, .inr (3, [.ref q1, .ref q2, .ref q3, .ref q4, .int 0, .int 0])), (q1, .inl (Λ.2.1, 8, .inl (fun _ => 0))), (q2, .inl (Λ.2.1, 8, .inl (fun _ => 0))), (q3, .inl (Λ.2.1, 15, .inl (fun _ => 0))), (q4, .inl (Λ.2.1, 15, .inl (fun _ => 0)))], rfl, ⟨fun k => [0, q1, q2, q3, q4].getD k 0, rfl⟩, by rw [ht]; exact hP, hD⟩, hS.F ht⟩) hS.2.2 dc_cX3_init_46
theorem dc_cX2_init_0 : decode cX2_init 0 = .ok (.aload_n 0, 1) := by decide +kernel
theorem dc_cX2_init_1 : decode cX2_init 1 = .ok (.invokespecial 3, 3) := by decide +kernel
theorem dc_cX2_init_4 : decode cX2_init 4 = .ok (.aload_n 0, 1) := by decide +kernel
theorem dc_cX2_init_5 : decode cX2_init 5 = .ok (.iconst 0, 1) := by decide +kernel
theorem dc_cX2_init_6 : decode cX2_init 6 = .ok (.putfield 9, 3) := by decide +kernel
theorem dc_cX2_init_9 : decode cX2_init 9 = .ok (.aload_n 0, 1) := by decide +kernel
theorem dc_cX2_init_10 : decode cX2_init 10 = .ok (.iconst 0, 1) := by decide +kernel
theorem dc_cX2_init_11 : decode cX2_init 11 = .ok (.putfield 15, 3) := by decide +kernel
theorem dc_cX2_init_14 : decode cX2_init 14 = .ok (.aload_n 0, 1) := by decide +kernel
theorem dc_cX2_init_15 : decode cX2_init 15 = .ok (.iconst 4, 1) := by decide +kernel
theorem dc_cX2_init_16 : decode cX2_init 16 = .ok (.newarray .int, 2) := by decide +kernel
theorem dc_cX2_init_18 : decode cX2_init 18 = .ok (.putfield 18, 3) := by decide +kernel
theorem dc_cX2_init_21 : decode cX2_init 21 = .ok (.return_, 1) := by decide +kernel
def fc_W2 (Λ : fg_La) (h0 : Nat) (q : Nat → Nat) : va_W := [(h0, .inr (2, [.int 0, .int 0, .ref (q 1)])), (q 1, .inl (Λ.2.1, 4, .inl (fun _ => 0)))]
set_option maxHeartbeats 4000000 in
set_option maxRecDepth 100000 in
theorem fc_init2 (l : Launch) {Λ : fg_La} (h0 sz : Nat) : Met l yX2_init (.code yX2_init cX2_init 1 none :: fg_T) (fc_rm 1 1 4) (va_Pc [.ref h0] (fc_Pre Λ sz [(h0, .inr (2, [.int 0, .int 0, .null]))])) (va_Qv (fun w : va_W => ∃ q : Nat → Nat, w = fc_W2 Λ h0 q) (fc_B Λ (va_A [(h0, .inr (2, [.int 0, .int 0, .null]))] sz)) (va_A [(h0, .inr (2, [.int 0, .int 0, .null]))] sz)) 1 4 (va_A [(h0, .inr (2, [.int 0, .int 0, .null]))] sz) := by
  refine Met.ofW (cc := cX2_init) (maxL := 1) (ret := none) (by decide) rfl ?_
  intro p e s m args below meth c s₁ B hml hv
  obtain ⟨rfl, hsz, hP, hD0, hE⟩ := hv
  have hx := B.exec
  have hb := B.bytes
  have hr := B.returns
  have hts0 := atoms_spec (ws := .code yX2_init cX2_init 1 none :: fg_T) B.pre
  have hts : ∀ w ∈ fg_T, w.before (([.ref h0] : List Value).toArray) s = true := fun w hw => hts0 w (List.mem_cons_of_mem _ hw)
  have hown : s.vm.findClass RX2 = some m.cls := findClass_of_methodNamed B.named
  have hlocks := B.notSynchronized
  have hin : meth.name = "<init>" := (name_of_methodNamed B.named B.method).1
  subst hsz
  have hD := hD0.self (sz := s.heap.size)
  generalize hAe : va_A [(h0, .inr (2, [.int 0, .int 0, .null]))] s.heap.size = A at hD ⊢
  have hA : ∀ q : Nat, s.heap.size ≤ q → A q := fun q h => by rw [← hAe]; exact Or.inr h
  have hS : va_S A s.heap s.heap [] := va_S.rf
  have hK := hE.1.1
  have hP : va_P (fg_D Λ) vwCl [(h0, .inr (2, [.int 0, .int 0, .null]))] s.heap := hP
  have hl := lv_entry ([.ref h0]) (n := 1) (Nat.le_of_ble_eq_true rfl)
  rw [lg_entry_eq]
  generalize (lg_sl ([.ref h0]) ++ List.replicate (1 - (lg_sl ([.ref h0])).length) Slot.unset).toArray = ls at hl ⊢
  have hl : lv_has ls 1 [(0, .ref h0)] := hl
  refine lv_aload_n hx hb dc_cX2_init_0 rfl (lv_at hl 0 rfl) ?_
  refine W.objInit hx hb hown (hts _ (fg_w_in (w := 278) (c := .methodLink RX2 3 objectInit) (by decide +kernel) (by decide +kernel))) (hts _ (fg_w_in (w := 93) (c := .instanceMethod objectInit) (by decide +kernel) (by decide +kernel))) (hts _ (fg_w_in (w := 94) (c := .code objectInit ⟨#[0xb1]⟩ 1 none) (by decide +kernel) (by decide +kernel))) rfl (by rw [hml]; exact hl.1) rfl dc_cX2_init_1 (Nat.le_of_ble_eq_true rfl) (Nat.le_of_ble_eq_true rfl) ?_
  refine W.eq (g2 := F0 m 4 ls []) rfl ?_
  refine lv_aload_n hx hb dc_cX2_init_4 rfl (lv_at hl 0 rfl) ?_
  refine lv_iconst (v := 0) hx hb dc_cX2_init_5 (by decide) ?_
  refine va_put (D := fg_D Λ) (ci := 2) (v := .int 0) (ty := .int) (C := RX2) (T := TX2) (N := 3) hx hb hts (fc_lay 2 rfl) tyX2 tyX2_ok nmX2 hown hK hP hD hS 0 rfl rfl 0 (by decide) (hts _ (fg_w_in (w := 279) (c := .fieldLink RX2 9 "FlagSignals$Locker" "flags" "I") (by decide +kernel) (by decide +kernel))) (fun _ h9 => h9) rfl (by decide +kernel) rfl rfl (Nat.le_of_ble_eq_true rfl) dc_cX2_init_6 (fun H locs hP hD hS => ?_)
  have hP : va_P (fg_D Λ) vwCl [(h0, .inr (2, [.int 0, .int 0, .null]))] H := hP
  have hD : va_D A [(h0, .inr (2, [.int 0, .int 0, .null]))] := hD
  refine lv_aload_n hx hb dc_cX2_init_9 rfl (lv_at hl 0 rfl) ?_
  refine lv_iconst (v := 0) hx hb dc_cX2_init_10 (by decide) ?_
  refine va_put (D := fg_D Λ) (ci := 2) (v := .int 0) (ty := .int) (C := RX2) (T := TX2) (N := 3) hx hb hts (fc_lay 2 rfl) tyX2 tyX2_ok nmX2 hown hK hP hD hS 0 rfl rfl 1 (by decide) (hts _ (fg_w_in (w := 280) (c := .fieldLink RX2 15 "FlagSignals$Locker" "substitutes" "I") (by decide +kernel) (by decide +kernel))) (fun _ h9 => h9) rfl (by decide +kernel) rfl rfl (Nat.le_of_ble_eq_true rfl) dc_cX2_init_11 (fun H locs hP hD hS => ?_)
  have hP : va_P (fg_D Λ) vwCl [(h0, .inr (2, [.int 0, .int 0, .null]))] H := hP
  have hD : va_D A [(h0, .inr (2, [.int 0, .int 0, .null]))] := hD
  refine lv_aload_n hx hb dc_cX2_init_14 rfl (lv_at hl 0 rfl) ?_
  refine lv_iconst (v := 4) hx hb dc_cX2_init_15 (by decide) ?_
  refine fc_newI (N := 4) hx hb (hts _ (fg_w_in (w := 119) (c := .arrayClass .int) (by decide +kernel) (by decide +kernel))) hK hP hD hS hA (by decide) (by decide) (Nat.le_of_ble_eq_true rfl) (Nat.le_of_ble_eq_true rfl) dc_cX2_init_16 (fun q1 H hP hD hS => ?_)
  refine va_putF (D := fg_D Λ) (ci := 2) (v := .ref q1) (ty := .array .int) (C := RX2) (T := TX2) (N := 3) hx hb hts (fc_lay 2 rfl) tyX2 tyX2_ok nmX2 hown hK hP hD hS 0 rfl rfl 2 (by decide) (hts _ (fg_w_in (w := 281) (c := .fieldLink RX2 18 "FlagSignals$Locker" "row" "[I") (by decide +kernel) (by decide +kernel))) (fun _ h9 => h9) rfl hin rfl (by decide +kernel) rfl rfl (Nat.le_of_ble_eq_true rfl) dc_cX2_init_18 (fun H locs hP hD hS => ?_)
  have hP : va_P (fg_D Λ) vwCl [(h0, .inr (2, [.int 0, .int 0, .ref q1])), (q1, .inl (Λ.2.1, 4, .inl (fun _ => 0)))] H := hP
  have hD : va_D A [(h0, .inr (2, [.int 0, .int 0, .ref q1])), (q1, .inl (Λ.2.1, 4, .inl (fun _ => 0)))] := hD
  exact W.vret hx hb hr (fun t ht hW => ⟨⟨[(h0, .inr (2, [.int 0, .int 0, .ref q1])), (q1, .inl (Λ.2.1, 4, .inl (fun _ => 0)))], rfl, ⟨fun k => [0, q1].getD k 0, rfl⟩, by rw [ht]; exact hP, hD⟩, hS.F ht⟩) hS.2.2 dc_cX2_init_21
theorem dc_cX8_init_0 : decode cX8_init 0 = .ok (.aload_n 0, 1) := by decide +kernel
theorem dc_cX8_init_1 : decode cX8_init 1 = .ok (.invokespecial 3, 3) := by decide +kernel
theorem dc_cX8_init_4 : decode cX8_init 4 = .ok (.aload_n 0, 1) := by decide +kernel
theorem dc_cX8_init_5 : decode cX8_init 5 = .ok (.bipush 40, 2) := by decide +kernel
theorem dc_cX8_init_7 : decode cX8_init 7 = .ok (.newarray .int, 2) := by decide +kernel
theorem dc_cX8_init_9 : decode cX8_init 9 = .ok (.putfield 9, 3) := by decide +kernel
theorem dc_cX8_init_12 : decode cX8_init 12 = .ok (.aload_n 0, 1) := by decide +kernel
theorem dc_cX8_init_13 : decode cX8_init 13 = .ok (.bipush 10, 2) := by decide +kernel
theorem dc_cX8_init_15 : decode cX8_init 15 = .ok (.newarray .int, 2) := by decide +kernel
theorem dc_cX8_init_17 : decode cX8_init 17 = .ok (.putfield 15, 3) := by decide +kernel
theorem dc_cX8_init_20 : decode cX8_init 20 = .ok (.aload_n 0, 1) := by decide +kernel
theorem dc_cX8_init_21 : decode cX8_init 21 = .ok (.bipush 10, 2) := by decide +kernel
theorem dc_cX8_init_23 : decode cX8_init 23 = .ok (.newarray .int, 2) := by decide +kernel
theorem dc_cX8_init_25 : decode cX8_init 25 = .ok (.putfield 18, 3) := by decide +kernel
theorem dc_cX8_init_28 : decode cX8_init 28 = .ok (.aload_n 0, 1) := by decide +kernel
theorem dc_cX8_init_29 : decode cX8_init 29 = .ok (.iconst 0, 1) := by decide +kernel
theorem dc_cX8_init_30 : decode cX8_init 30 = .ok (.putfield 21, 3) := by decide +kernel
theorem dc_cX8_init_33 : decode cX8_init 33 = .ok (.return_, 1) := by decide +kernel
def fc_W8 (Λ : fg_La) (h0 : Nat) (q : Nat → Nat) : va_W := [(h0, .inr (8, [.ref (q 1), .ref (q 2), .ref (q 3), .int 0])), (q 1, .inl (Λ.2.1, 40, .inl (fun _ => 0))), (q 2, .inl (Λ.2.1, 10, .inl (fun _ => 0))), (q 3, .inl (Λ.2.1, 10, .inl (fun _ => 0)))]
set_option maxHeartbeats 4000000 in
set_option maxRecDepth 100000 in
theorem fc_init8 (l : Launch) {Λ : fg_La} (h0 sz : Nat) : Met l yX8_init (.code yX8_init cX8_init 1 none :: fg_T) (fc_rm 1 3 60) (va_Pc [.ref h0] (fc_Pre Λ sz [(h0, .inr (8, [.null, .null, .null, .int 0]))])) (va_Qv (fun w : va_W => ∃ q : Nat → Nat, w = fc_W8 Λ h0 q) (fc_B Λ (va_A [(h0, .inr (8, [.null, .null, .null, .int 0]))] sz)) (va_A [(h0, .inr (8, [.null, .null, .null, .int 0]))] sz)) 3 60 (va_A [(h0, .inr (8, [.null, .null, .null, .int 0]))] sz) := by
  refine Met.ofW (cc := cX8_init) (maxL := 1) (ret := none) (by decide) rfl ?_
  intro p e s m args below meth c s₁ B hml hv
  obtain ⟨rfl, hsz, hP, hD0, hE⟩ := hv
  have hx := B.exec
  have hb := B.bytes
  have hr := B.returns
  have hts0 := atoms_spec (ws := .code yX8_init cX8_init 1 none :: fg_T) B.pre
  have hts : ∀ w ∈ fg_T, w.before (([.ref h0] : List Value).toArray) s = true := fun w hw => hts0 w (List.mem_cons_of_mem _ hw)
  have hown : s.vm.findClass RX8 = some m.cls := findClass_of_methodNamed B.named
  have hlocks := B.notSynchronized
  have hin : meth.name = "<init>" := (name_of_methodNamed B.named B.method).1
  subst hsz
  have hD := hD0.self (sz := s.heap.size)
  generalize hAe : va_A [(h0, .inr (8, [.null, .null, .null, .int 0]))] s.heap.size = A at hD ⊢
  have hA : ∀ q : Nat, s.heap.size ≤ q → A q := fun q h => by rw [← hAe]; exact Or.inr h
  have hS : va_S A s.heap s.heap [] := va_S.rf
  have hK := hE.1.1
  have hP : va_P (fg_D Λ) vwCl [(h0, .inr (8, [.null, .null, .null, .int 0]))] s.heap := hP
  have hl := lv_entry ([.ref h0]) (n := 1) (Nat.le_of_ble_eq_true rfl)
  rw [lg_entry_eq]
  generalize (lg_sl ([.ref h0]) ++ List.replicate (1 - (lg_sl ([.ref h0])).length) Slot.unset).toArray = ls at hl ⊢
  have hl : lv_has ls 1 [(0, .ref h0)] := hl
  refine lv_aload_n hx hb dc_cX8_init_0 rfl (lv_at hl 0 rfl) ?_
  refine W.objInit hx hb hown (hts _ (fg_w_in (w := 296) (c := .methodLink RX8 3 objectInit) (by decide +kernel) (by decide +kernel))) (hts _ (fg_w_in (w := 93) (c := .instanceMethod objectInit) (by decide +kernel) (by decide +kernel))) (hts _ (fg_w_in (w := 94) (c := .code objectInit ⟨#[0xb1]⟩ 1 none) (by decide +kernel) (by decide +kernel))) rfl (by rw [hml]; exact hl.1) rfl dc_cX8_init_1 (Nat.le_of_ble_eq_true rfl) (Nat.le_of_ble_eq_true rfl) ?_
  refine W.eq (g2 := F0 m 4 ls []) rfl ?_
  refine lv_aload_n hx hb dc_cX8_init_4 rfl (lv_at hl 0 rfl) ?_
  refine lv_bipush (v := 40) hx hb dc_cX8_init_5 (by decide) ?_
  refine fc_newI (N := 40) hx hb (hts _ (fg_w_in (w := 119) (c := .arrayClass .int) (by decide +kernel) (by decide +kernel))) hK hP hD hS hA (by decide) (by decide) (Nat.le_of_ble_eq_true rfl) (Nat.le_of_ble_eq_true rfl) dc_cX8_init_7 (fun q1 H hP hD hS => ?_)
  refine va_putF (D := fg_D Λ) (ci := 8) (v := .ref q1) (ty := .array .int) (C := RX8) (T := TX8) (N := 4) hx hb hts (fc_lay 8 rfl) tyX8 tyX8_ok nmX8 hown hK hP hD hS 0 rfl rfl 0 (by decide) (hts _ (fg_w_in (w := 297) (c := .fieldLink RX8 9 "FlagSignals$Watch" "rows" "[I") (by decide +kernel) (by decide +kernel))) (fun _ h9 => h9) rfl hin rfl (by decide +kernel) rfl rfl (Nat.le_of_ble_eq_true rfl) dc_cX8_init_9 (fun H locs hP hD hS => ?_)
  have hP : va_P (fg_D Λ) vwCl [(h0, .inr (8, [.ref q1, .null, .null, .int 0])), (q1, .inl (Λ.2.1, 40, .inl (fun _ => 0)))] H := hP
  have hD : va_D A [(h0, .inr (8, [.ref q1, .null, .null, .int 0])), (q1, .inl (Λ.2.1, 40, .inl (fun _ => 0)))] := hD
  refine lv_aload_n hx hb dc_cX8_init_12 rfl (lv_at hl 0 rfl) ?_
  refine lv_bipush (v := 10) hx hb dc_cX8_init_13 (by decide) ?_
  refine fc_newI (N := 10) hx hb (hts _ (fg_w_in (w := 119) (c := .arrayClass .int) (by decide +kernel) (by decide +kernel))) hK hP hD hS hA (by decide) (by decide) (Nat.le_of_ble_eq_true rfl) (Nat.le_of_ble_eq_true rfl) dc_cX8_init_15 (fun q2 H hP hD hS => ?_)
  refine va_putF (D := fg_D Λ) (ci := 8) (v := .ref q2) (ty := .array .int) (C := RX8) (T := TX8) (N := 4) hx hb hts (fc_lay 8 rfl) tyX8 tyX8_ok nmX8 hown hK hP hD hS 0 rfl rfl 1 (by decide) (hts _ (fg_w_in (w := 298) (c := .fieldLink RX8 15 "FlagSignals$Watch" "looks" "[I") (by decide +kernel) (by decide +kernel))) (fun _ h9 => h9) rfl hin rfl (by decide +kernel) rfl rfl (Nat.le_of_ble_eq_true rfl) dc_cX8_init_17 (fun H locs hP hD hS => ?_)
  have hP : va_P (fg_D Λ) vwCl [(h0, .inr (8, [.ref q1, .ref q2, .null, .int 0])), (q1, .inl (Λ.2.1, 40, .inl (fun _ => 0))), (q2, .inl (Λ.2.1, 10, .inl (fun _ => 0)))] H := hP
  have hD : va_D A [(h0, .inr (8, [.ref q1, .ref q2, .null, .int 0])), (q1, .inl (Λ.2.1, 40, .inl (fun _ => 0))), (q2, .inl (Λ.2.1, 10, .inl (fun _ => 0)))] := hD
  refine lv_aload_n hx hb dc_cX8_init_20 rfl (lv_at hl 0 rfl) ?_
  refine lv_bipush (v := 10) hx hb dc_cX8_init_21 (by decide) ?_
  refine fc_newI (N := 10) hx hb (hts _ (fg_w_in (w := 119) (c := .arrayClass .int) (by decide +kernel) (by decide +kernel))) hK hP hD hS hA (by decide) (by decide) (Nat.le_of_ble_eq_true rfl) (Nat.le_of_ble_eq_true rfl) dc_cX8_init_23 (fun q3 H hP hD hS => ?_)
  refine va_putF (D := fg_D Λ) (ci := 8) (v := .ref q3) (ty := .array .int) (C := RX8) (T := TX8) (N := 4) hx hb hts (fc_lay 8 rfl) tyX8 tyX8_ok nmX8 hown hK hP hD hS 0 rfl rfl 2 (by decide) (hts _ (fg_w_in (w := 300) (c := .fieldLink RX8 18 "FlagSignals$Watch" "signs" "[I") (by decide +kernel) (by decide +kernel))) (fun _ h9 => h9) rfl hin rfl (by decide +kernel) rfl rfl (Nat.le_of_ble_eq_true rfl) dc_cX8_init_25 (fun H locs hP hD hS => ?_)
  have hP : va_P (fg_D Λ) vwCl [(h0, .inr (8, [.ref q1, .ref q2, .ref q3, .int 0])), (q1, .inl (Λ.2.1, 40, .inl (fun _ => 0))), (q2, .inl (Λ.2.1, 10, .inl (fun _ => 0))), (q3, .inl (Λ.2.1, 10, .inl (fun _ => 0)))] H := hP
  have hD : va_D A [(h0, .inr (8, [.ref q1, .ref q2, .ref q3, .int 0])), (q1, .inl (Λ.2.1, 40, .inl (fun _ => 0))), (q2, .inl (Λ.2.1, 10, .inl (fun _ => 0))), (q3, .inl (Λ.2.1, 10, .inl (fun _ => 0)))] := hD
  refine lv_aload_n hx hb dc_cX8_init_28 rfl (lv_at hl 0 rfl) ?_
  refine lv_iconst (v := 0) hx hb dc_cX8_init_29 (by decide) ?_
  refine va_put (D := fg_D Λ) (ci := 8) (v := .int 0) (ty := .int) (C := RX8) (T := TX8) (N := 4) hx hb hts (fc_lay 8 rfl) tyX8 tyX8_ok nmX8 hown hK hP hD hS 0 rfl rfl 3 (by decide) (hts _ (fg_w_in (w := 301) (c := .fieldLink RX8 21 "FlagSignals$Watch" "up" "I") (by decide +kernel) (by decide +kernel))) (fun _ h9 => h9) rfl (by decide +kernel) rfl rfl (Nat.le_of_ble_eq_true rfl) dc_cX8_init_30 (fun H locs hP hD hS => ?_)
  have hP : va_P (fg_D Λ) vwCl [(h0, .inr (8, [.ref q1, .ref q2, .ref q3, .int 0])), (q1, .inl (Λ.2.1, 40, .inl (fun _ => 0))), (q2, .inl (Λ.2.1, 10, .inl (fun _ => 0))), (q3, .inl (Λ.2.1, 10, .inl (fun _ => 0)))] H := hP
  have hD : va_D A [(h0, .inr (8, [.ref q1, .ref q2, .ref q3, .int 0])), (q1, .inl (Λ.2.1, 40, .inl (fun _ => 0))), (q2, .inl (Λ.2.1, 10, .inl (fun _ => 0))), (q3, .inl (Λ.2.1, 10, .inl (fun _ => 0)))] := hD
  exact W.vret hx hb hr (fun t ht hW => ⟨⟨[(h0, .inr (8, [.ref q1, .ref q2, .ref q3, .int 0])), (q1, .inl (Λ.2.1, 40, .inl (fun _ => 0))), (q2, .inl (Λ.2.1, 10, .inl (fun _ => 0))), (q3, .inl (Λ.2.1, 10, .inl (fun _ => 0)))], rfl, ⟨fun k => [0, q1, q2, q3].getD k 0, rfl⟩, by rw [ht]; exact hP, hD⟩, hS.F ht⟩) hS.2.2 dc_cX8_init_33
theorem dc_cX5_init_0 : decode cX5_init 0 = .ok (.aload_n 0, 1) := by decide +kernel
theorem dc_cX5_init_1 : decode cX5_init 1 = .ok (.invokespecial 3, 3) := by decide +kernel
theorem dc_cX5_init_4 : decode cX5_init 4 = .ok (.aload_n 0, 1) := by decide +kernel
theorem dc_cX5_init_5 : decode cX5_init 5 = .ok (.sipush 1024, 3) := by decide +kernel
theorem dc_cX5_init_8 : decode cX5_init 8 = .ok (.newarray .boolean, 2) := by decide +kernel
theorem dc_cX5_init_10 : decode cX5_init 10 = .ok (.putfield 9, 3) := by decide +kernel
theorem dc_cX5_init_13 : decode cX5_init 13 = .ok (.aload_n 0, 1) := by decide +kernel
theorem dc_cX5_init_14 : decode cX5_init 14 = .ok (.sipush 1024, 3) := by decide +kernel
theorem dc_cX5_init_17 : decode cX5_init 17 = .ok (.newarray .int, 2) := by decide +kernel
theorem dc_cX5_init_19 : decode cX5_init 19 = .ok (.putfield 15, 3) := by decide +kernel
theorem dc_cX5_init_22 : decode cX5_init 22 = .ok (.return_, 1) := by decide +kernel
def fc_W5 (Λ : fg_La) (h0 : Nat) (q : Nat → Nat) : va_W := [(h0, .inr (5, [.ref (q 1), .ref (q 2)])), (q 1, .inl (Λ.2.2.1, 1024, .inl (fun _ => 0))), (q 2, .inl (Λ.2.1, 1024, .inl (fun _ => 0)))]
set_option maxHeartbeats 4000000 in
set_option maxRecDepth 100000 in
theorem fc_init5 (l : Launch) {Λ : fg_La} (h0 sz : Nat) : Met l yX5_init (.code yX5_init cX5_init 1 none :: fg_T) (fc_rm 1 2 2048) (va_Pc [.ref h0] (fc_Pre Λ sz [(h0, .inr (5, [.null, .null]))])) (va_Qv (fun w : va_W => ∃ q : Nat → Nat, w = fc_W5 Λ h0 q) (fc_B Λ (va_A [(h0, .inr (5, [.null, .null]))] sz)) (va_A [(h0, .inr (5, [.null, .null]))] sz)) 2 2048 (va_A [(h0, .inr (5, [.null, .null]))] sz) := by
  refine Met.ofW (cc := cX5_init) (maxL := 1) (ret := none) (by decide) rfl ?_
  intro p e s m args below meth c s₁ B hml hv
  obtain ⟨rfl, hsz, hP, hD0, hE⟩ := hv
  have hx := B.exec
  have hb := B.bytes
  have hr := B.returns
  have hts0 := atoms_spec (ws := .code yX5_init cX5_init 1 none :: fg_T) B.pre
  have hts : ∀ w ∈ fg_T, w.before (([.ref h0] : List Value).toArray) s = true := fun w hw => hts0 w (List.mem_cons_of_mem _ hw)
  have hown : s.vm.findClass RX5 = some m.cls := findClass_of_methodNamed B.named
  have hlocks := B.notSynchronized
  have hin : meth.name = "<init>" := (name_of_methodNamed B.named B.method).1
  subst hsz
  have hD := hD0.self (sz := s.heap.size)
  generalize hAe : va_A [(h0, .inr (5, [.null, .null]))] s.heap.size = A at hD ⊢
  have hA : ∀ q : Nat, s.heap.size ≤ q → A q := fun q h => by rw [← hAe]; exact Or.inr h
  have hS : va_S A s.heap s.heap [] := va_S.rf
  have hK := hE.1.1
  have hP : va_P (fg_D Λ) vwCl [(h0, .inr (5, [.null, .null]))] s.heap := hP
  have hl := lv_entry ([.ref h0]) (n := 1) (Nat.le_of_ble_eq_true rfl)
  rw [lg_entry_eq]
  generalize (lg_sl ([.ref h0]) ++ List.replicate (1 - (lg_sl ([.ref h0])).length) Slot.unset).toArray = ls at hl ⊢
  have hl : lv_has ls 1 [(0, .ref h0)] := hl
  refine lv_aload_n hx hb dc_cX5_init_0 rfl (lv_at hl 0 rfl) ?_
  refine W.objInit hx hb hown (hts _ (fg_w_in (w := 317) (c := .methodLink RX5 3 objectInit) (by decide +kernel) (by decide +kernel))) (hts _ (fg_w_in (w := 93) (c := .instanceMethod objectInit) (by decide +kernel) (by decide +kernel))) (hts _ (fg_w_in (w := 94) (c := .code objectInit ⟨#[0xb1]⟩ 1 none) (by decide +kernel) (by decide +kernel))) rfl (by rw [hml]; exact hl.1) rfl dc_cX5_init_1 (Nat.le_of_ble_eq_true rfl) (Nat.le_of_ble_eq_true rfl) ?_
  refine W.eq (g2 := F0 m 4 ls []) rfl ?_
  refine lv_aload_n hx hb dc_cX5_init_4 rfl (lv_at hl 0 rfl) ?_
  refine lv_sipush (v := 1024) hx hb dc_cX5_init_5 (by decide) ?_
  refine fc_newZ (N := 1024) hx hb (hts _ (fg_w_in (w := 327) (c := .arrayClass .boolean) (by decide +kernel) (by decide +kernel))) hK hP hD hS hA (by decide) (by decide) (Nat.le_of_ble_eq_true rfl) (Nat.le_of_ble_eq_true rfl) dc_cX5_init_8 (fun q1 H hP hD hS => ?_)
  refine va_putF (D := fg_D Λ) (ci := 5) (v := .ref q1) (ty := .array .boolean) (C := RX5) (T := TX5) (N := 2) hx hb hts (fc_lay 5 rfl) tyX5 tyX5_ok nmX5 hown hK hP hD hS 0 rfl rfl 0 (by decide) (hts _ (fg_w_in (w := 318) (c := .fieldLink RX5 9 "FlagSignals$Rota" "flies" "[Z") (by decide +kernel) (by decide +kernel))) (fun _ h9 => h9) rfl hin rfl (by decide +kernel) rfl rfl (Nat.le_of_ble_eq_true rfl) dc_cX5_init_10 (fun H locs hP hD hS => ?_)
  have hP : va_P (fg_D Λ) vwCl [(h0, .inr (5, [.ref q1, .null])), (q1, .inl (Λ.2.2.1, 1024, .inl (fun _ => 0)))] H := hP
  have hD : va_D A [(h0, .inr (5, [.ref q1, .null])), (q1, .inl (Λ.2.2.1, 1024, .inl (fun _ => 0)))] := hD
  refine lv_aload_n hx hb dc_cX5_init_13 rfl (lv_at hl 0 rfl) ?_
  refine lv_sipush (v := 1024) hx hb dc_cX5_init_14 (by decide) ?_
  refine fc_newI (N := 1024) hx hb (hts _ (fg_w_in (w := 119) (c := .arrayClass .int) (by decide +kernel) (by decide +kernel))) hK hP hD hS hA (by decide) (by decide) (Nat.le_of_ble_eq_true rfl) (Nat.le_of_ble_eq_true rfl) dc_cX5_init_17 (fun q2 H hP hD hS => ?_)
  refine va_putF (D := fg_D Λ) (ci := 5) (v := .ref q2) (ty := .array .int) (C := RX5) (T := TX5) (N := 2) hx hb hts (fc_lay 5 rfl) tyX5 tyX5_ok nmX5 hown hK hP hD hS 0 rfl rfl 1 (by decide) (hts _ (fg_w_in (w := 320) (c := .fieldLink RX5 15 "FlagSignals$Rota" "fewest" "[I") (by decide +kernel) (by decide +kernel))) (fun _ h9 => h9) rfl hin rfl (by decide +kernel) rfl rfl (Nat.le_of_ble_eq_true rfl) dc_cX5_init_19 (fun H locs hP hD hS => ?_)
  have hP : va_P (fg_D Λ) vwCl [(h0, .inr (5, [.ref q1, .ref q2])), (q1, .inl (Λ.2.2.1, 1024, .inl (fun _ => 0))), (q2, .inl (Λ.2.1, 1024, .inl (fun _ => 0)))] H := hP
  have hD : va_D A [(h0, .inr (5, [.ref q1, .ref q2])), (q1, .inl (Λ.2.2.1, 1024, .inl (fun _ => 0))), (q2, .inl (Λ.2.1, 1024, .inl (fun _ => 0)))] := hD
  exact W.vret hx hb hr (fun t ht hW => ⟨⟨[(h0, .inr (5, [.ref q1, .ref q2])), (q1, .inl (Λ.2.2.1, 1024, .inl (fun _ => 0))), (q2, .inl (Λ.2.1, 1024, .inl (fun _ => 0)))], rfl, ⟨fun k => [0, q1, q2].getD k 0, rfl⟩, by rw [ht]; exact hP, hD⟩, hS.F ht⟩) hS.2.2 dc_cX5_init_22
theorem dc_cX10_init_0 : decode cX10_init 0 = .ok (.aload_n 0, 1) := by decide +kernel
theorem dc_cX10_init_1 : decode cX10_init 1 = .ok (.invokespecial 1, 3) := by decide +kernel
theorem dc_cX10_init_4 : decode cX10_init 4 = .ok (.aload_n 0, 1) := by decide +kernel
theorem dc_cX10_init_5 : decode cX10_init 5 = .ok (.bipush 10, 2) := by decide +kernel
theorem dc_cX10_init_7 : decode cX10_init 7 = .ok (.newarray .int, 2) := by decide +kernel
theorem dc_cX10_init_9 : decode cX10_init 9 = .ok (.putfield 7, 3) := by decide +kernel
theorem dc_cX10_init_12 : decode cX10_init 12 = .ok (.aload_n 0, 1) := by decide +kernel
theorem dc_cX10_init_13 : decode cX10_init 13 = .ok (.bipush 10, 2) := by decide +kernel
theorem dc_cX10_init_15 : decode cX10_init 15 = .ok (.newarray .int, 2) := by decide +kernel
theorem dc_cX10_init_17 : decode cX10_init 17 = .ok (.putfield 13, 3) := by decide +kernel
theorem dc_cX10_init_20 : decode cX10_init 20 = .ok (.aload_n 0, 1) := by decide +kernel
theorem dc_cX10_init_21 : decode cX10_init 21 = .ok (.bipush 40, 2) := by decide +kernel
theorem dc_cX10_init_23 : decode cX10_init 23 = .ok (.newarray .int, 2) := by decide +kernel
theorem dc_cX10_init_25 : decode cX10_init 25 = .ok (.putfield 16, 3) := by decide +kernel
theorem dc_cX10_init_28 : decode cX10_init 28 = .ok (.aload_n 0, 1) := by decide +kernel
theorem dc_cX10_init_29 : decode cX10_init 29 = .ok (.bipush 61, 2) := by decide +kernel
theorem dc_cX10_init_31 : decode cX10_init 31 = .ok (.newarray .int, 2) := by decide +kernel
theorem dc_cX10_init_33 : decode cX10_init 33 = .ok (.putfield 19, 3) := by decide +kernel
theorem dc_cX10_init_36 : decode cX10_init 36 = .ok (.aload_n 0, 1) := by decide +kernel
theorem dc_cX10_init_37 : decode cX10_init 37 = .ok (.sipush 240, 3) := by decide +kernel
theorem dc_cX10_init_40 : decode cX10_init 40 = .ok (.newarray .int, 2) := by decide +kernel
theorem dc_cX10_init_42 : decode cX10_init 42 = .ok (.putfield 22, 3) := by decide +kernel
theorem dc_cX10_init_45 : decode cX10_init 45 = .ok (.aload_n 0, 1) := by decide +kernel
theorem dc_cX10_init_46 : decode cX10_init 46 = .ok (.iconst (-1), 1) := by decide +kernel
theorem dc_cX10_init_47 : decode cX10_init 47 = .ok (.putfield 25, 3) := by decide +kernel
theorem dc_cX10_init_50 : decode cX10_init 50 = .ok (.aload_n 0, 1) := by decide +kernel
theorem dc_cX10_init_51 : decode cX10_init 51 = .ok (.bipush 10, 2) := by decide +kernel
theorem dc_cX10_init_53 : decode cX10_init 53 = .ok (.newarray .int, 2) := by decide +kernel
theorem dc_cX10_init_55 : decode cX10_init 55 = .ok (.putfield 29, 3) := by decide +kernel
theorem dc_cX10_init_58 : decode cX10_init 58 = .ok (.aload_n 0, 1) := by decide +kernel
theorem dc_cX10_init_59 : decode cX10_init 59 = .ok (.bipush 10, 2) := by decide +kernel
theorem dc_cX10_init_61 : decode cX10_init 61 = .ok (.newarray .int, 2) := by decide +kernel
theorem dc_cX10_init_63 : decode cX10_init 63 = .ok (.putfield 32, 3) := by decide +kernel
theorem dc_cX10_init_66 : decode cX10_init 66 = .ok (.aload_n 0, 1) := by decide +kernel
theorem dc_cX10_init_67 : decode cX10_init 67 = .ok (.bipush 40, 2) := by decide +kernel
theorem dc_cX10_init_69 : decode cX10_init 69 = .ok (.newarray .int, 2) := by decide +kernel
theorem dc_cX10_init_71 : decode cX10_init 71 = .ok (.putfield 35, 3) := by decide +kernel
theorem dc_cX10_init_74 : decode cX10_init 74 = .ok (.aload_n 0, 1) := by decide +kernel
theorem dc_cX10_init_75 : decode cX10_init 75 = .ok (.iconst 4, 1) := by decide +kernel
theorem dc_cX10_init_76 : decode cX10_init 76 = .ok (.newarray .int, 2) := by decide +kernel
theorem dc_cX10_init_78 : decode cX10_init 78 = .ok (.putfield 38, 3) := by decide +kernel
theorem dc_cX10_init_81 : decode cX10_init 81 = .ok (.aload_n 0, 1) := by decide +kernel
theorem dc_cX10_init_82 : decode cX10_init 82 = .ok (.bipush 10, 2) := by decide +kernel
theorem dc_cX10_init_84 : decode cX10_init 84 = .ok (.newarray .boolean, 2) := by decide +kernel
theorem dc_cX10_init_86 : decode cX10_init 86 = .ok (.putfield 41, 3) := by decide +kernel
theorem dc_cX10_init_89 : decode cX10_init 89 = .ok (.aload_n 0, 1) := by decide +kernel
theorem dc_cX10_init_90 : decode cX10_init 90 = .ok (.bipush 40, 2) := by decide +kernel
theorem dc_cX10_init_92 : decode cX10_init 92 = .ok (.newarray .int, 2) := by decide +kernel
theorem dc_cX10_init_94 : decode cX10_init 94 = .ok (.putfield 45, 3) := by decide +kernel
theorem dc_cX10_init_97 : decode cX10_init 97 = .ok (.aload_n 0, 1) := by decide +kernel
theorem dc_cX10_init_98 : decode cX10_init 98 = .ok (.sipush 1024, 3) := by decide +kernel
theorem dc_cX10_init_101 : decode cX10_init 101 = .ok (.newarray .boolean, 2) := by decide +kernel
theorem dc_cX10_init_103 : decode cX10_init 103 = .ok (.putfield 48, 3) := by decide +kernel
theorem dc_cX10_init_106 : decode cX10_init 106 = .ok (.aload_n 0, 1) := by decide +kernel
theorem dc_cX10_init_107 : decode cX10_init 107 = .ok (.sipush 1024, 3) := by decide +kernel
theorem dc_cX10_init_110 : decode cX10_init 110 = .ok (.newarray .int, 2) := by decide +kernel
theorem dc_cX10_init_112 : decode cX10_init 112 = .ok (.putfield 51, 3) := by decide +kernel
theorem dc_cX10_init_115 : decode cX10_init 115 = .ok (.aload_n 0, 1) := by decide +kernel
theorem dc_cX10_init_116 : decode cX10_init 116 = .ok (.bipush 8, 2) := by decide +kernel
theorem dc_cX10_init_118 : decode cX10_init 118 = .ok (.newarray .int, 2) := by decide +kernel
theorem dc_cX10_init_120 : decode cX10_init 120 = .ok (.putfield 54, 3) := by decide +kernel
theorem dc_cX10_init_123 : decode cX10_init 123 = .ok (.aload_n 0, 1) := by decide +kernel
theorem dc_cX10_init_124 : decode cX10_init 124 = .ok (.bipush 8, 2) := by decide +kernel
theorem dc_cX10_init_126 : decode cX10_init 126 = .ok (.newarray .int, 2) := by decide +kernel
theorem dc_cX10_init_128 : decode cX10_init 128 = .ok (.putfield 57, 3) := by decide +kernel
theorem dc_cX10_init_131 : decode cX10_init 131 = .ok (.aload_n 0, 1) := by decide +kernel
theorem dc_cX10_init_132 : decode cX10_init 132 = .ok (.bipush 60, 2) := by decide +kernel
theorem dc_cX10_init_134 : decode cX10_init 134 = .ok (.newarray .int, 2) := by decide +kernel
theorem dc_cX10_init_136 : decode cX10_init 136 = .ok (.putfield 60, 3) := by decide +kernel
theorem dc_cX10_init_139 : decode cX10_init 139 = .ok (.aload_n 0, 1) := by decide +kernel
theorem dc_cX10_init_140 : decode cX10_init 140 = .ok (.sipush 976, 3) := by decide +kernel
theorem dc_cX10_init_143 : decode cX10_init 143 = .ok (.newarray .int, 2) := by decide +kernel
theorem dc_cX10_init_145 : decode cX10_init 145 = .ok (.putfield 63, 3) := by decide +kernel
theorem dc_cX10_init_148 : decode cX10_init 148 = .ok (.aload_n 0, 1) := by decide +kernel
theorem dc_cX10_init_149 : decode cX10_init 149 = .ok (.bipush 15, 2) := by decide +kernel
theorem dc_cX10_init_151 : decode cX10_init 151 = .ok (.newarray .int, 2) := by decide +kernel
theorem dc_cX10_init_153 : decode cX10_init 153 = .ok (.putfield 66, 3) := by decide +kernel
theorem dc_cX10_init_156 : decode cX10_init 156 = .ok (.aload_n 0, 1) := by decide +kernel
theorem dc_cX10_init_157 : decode cX10_init 157 = .ok (.bipush 15, 2) := by decide +kernel
theorem dc_cX10_init_159 : decode cX10_init 159 = .ok (.newarray .int, 2) := by decide +kernel
theorem dc_cX10_init_161 : decode cX10_init 161 = .ok (.putfield 69, 3) := by decide +kernel
theorem dc_cX10_init_164 : decode cX10_init 164 = .ok (.aload_n 0, 1) := by decide +kernel
theorem dc_cX10_init_165 : decode cX10_init 165 = .ok (.bipush 124, 2) := by decide +kernel
theorem dc_cX10_init_167 : decode cX10_init 167 = .ok (.newarray .int, 2) := by decide +kernel
theorem dc_cX10_init_169 : decode cX10_init 169 = .ok (.putfield 72, 3) := by decide +kernel
theorem dc_cX10_init_172 : decode cX10_init 172 = .ok (.aload_n 0, 1) := by decide +kernel
theorem dc_cX10_init_173 : decode cX10_init 173 = .ok (.iconst 2, 1) := by decide +kernel
theorem dc_cX10_init_174 : decode cX10_init 174 = .ok (.newarray .boolean, 2) := by decide +kernel
theorem dc_cX10_init_176 : decode cX10_init 176 = .ok (.putfield 75, 3) := by decide +kernel
theorem dc_cX10_init_179 : decode cX10_init 179 = .ok (.aload_n 0, 1) := by decide +kernel
theorem dc_cX10_init_180 : decode cX10_init 180 = .ok (.iconst 0, 1) := by decide +kernel
theorem dc_cX10_init_181 : decode cX10_init 181 = .ok (.putfield 78, 3) := by decide +kernel
theorem dc_cX10_init_184 : decode cX10_init 184 = .ok (.return_, 1) := by decide +kernel
def fc_W10 (Λ : fg_La) (h0 : Nat) (q : Nat → Nat) : va_W := [(h0, .inr (10, [.int 0, .int 0, .int 0, .ref (q 1), .int 0, .ref (q 2), .ref (q 3), .ref (q 4), .int 0, .ref (q 5), .int 0, .int (-1), .int 0, .int 0, .int 0, .int 0, .int 0, .ref (q 6), .int 0, .ref (q 7), .ref (q 8), .ref (q 9), .ref (q 10), .ref (q 11), .ref (q 12), .ref (q 13), .int 0, .ref (q 14), .ref (q 15), .ref (q 16), .int 0, .ref (q 17), .int 0, .ref (q 18), .ref (q 19), .ref (q 20), .ref (q 21)])), (q 1, .inl (Λ.2.1, 10, .inl (fun _ => 0))), (q 2, .inl (Λ.2.1, 10, .inl (fun _ => 0))), (q 3, .inl (Λ.2.1, 40, .inl (fun _ => 0))), (q 4, .inl (Λ.2.1, 61, .inl (fun _ => 0))), (q 5, .inl (Λ.2.1, 240, .inl (fun _ => 0))), (q 6, .inl (Λ.2.1, 10, .inl (fun _ => 0))), (q 7, .inl (Λ.2.1, 10, .inl (fun _ => 0))), (q 8, .inl (Λ.2.1, 40, .inl (fun _ => 0))), (q 9, .inl (Λ.2.1, 4, .inl (fun _ => 0))), (q 10, .inl (Λ.2.2.1, 10, .inl (fun _ => 0))), (q 11, .inl (Λ.2.1, 40, .inl (fun _ => 0))), (q 12, .inl (Λ.2.2.1, 1024, .inl (fun _ => 0))), (q 13, .inl (Λ.2.1, 1024, .inl (fun _ => 0))), (q 14, .inl (Λ.2.1, 8, .inl (fun _ => 0))), (q 15, .inl (Λ.2.1, 8, .inl (fun _ => 0))), (q 16, .inl (Λ.2.1, 60, .inl (fun _ => 0))), (q 17, .inl (Λ.2.1, 976, .inl (fun _ => 0))), (q 18, .inl (Λ.2.1, 15, .inl (fun _ => 0))), (q 19, .inl (Λ.2.1, 15, .inl (fun _ => 0))), (q 20, .inl (Λ.2.1, 124, .inl (fun _ => 0))), (q 21, .inl (Λ.2.2.1, 2, .inl (fun _ => 0)))]
set_option maxHeartbeats 4000000 in
set_option maxRecDepth 100000 in
theorem fc_init10 (l : Launch) {Λ : fg_La} (h0 sz : Nat) : Met l yX10_init (.code yX10_init cX10_init 1 none :: fg_T) (fc_rm 1 21 3731) (va_Pc [.ref h0] (fc_Pre Λ sz [(h0, .inr (10, [.int 0, .int 0, .int 0, .null, .int 0, .null, .null, .null, .int 0, .null, .int 0, .int 0, .int 0, .int 0, .int 0, .int 0, .int 0, .null, .int 0, .null, .null, .null, .null, .null, .null, .null, .int 0, .null, .null, .null, .int 0, .null, .int 0, .null, .null, .null, .null]))])) (va_Qv (fun w : va_W => ∃ q : Nat → Nat, w = fc_W10 Λ h0 q) (fc_B Λ (va_A [(h0, .inr (10, [.int 0, .int 0, .int 0, .null, .int 0, .null, .null, .null, .int 0, .null, .int 0, .int 0, .int 0, .int 0, .int 0, .int 0, .int 0, .null, .int 0, .null, .null, .null, .null, .null, .null, .null, .int 0, .null, .null, .null, .int 0, .null, .int 0, .null, .null, .null, .null]))] sz)) (va_A [(h0, .inr (10, [.int 0, .int 0, .int 0, .null, .int 0, .null, .null, .null, .int 0, .null, .int 0, .int 0, .int 0, .int 0, .int 0, .int 0, .int 0, .null, .int 0, .null, .null, .null, .null, .null, .null, .null, .int 0, .null, .null, .null, .int 0, .null, .int 0, .null, .null, .null, .null]))] sz)) 21 3731 (va_A [(h0, .inr (10, [.int 0, .int 0, .int 0, .null, .int 0, .null, .null, .null, .int 0, .null, .int 0, .int 0, .int 0, .int 0, .int 0, .int 0, .int 0, .null, .int 0, .null, .null, .null, .null, .null, .null, .null, .int 0, .null, .null, .null, .int 0, .null, .int 0, .null, .null, .null, .null]))] sz) := by
  refine Met.ofW (cc := cX10_init) (maxL := 1) (ret := none) (by decide) rfl ?_
  intro p e s m args below meth c s₁ B hml hv
  obtain ⟨rfl, hsz, hP, hD0, hE⟩ := hv
  have hx := B.exec
  have hb := B.bytes
  have hr := B.returns
  have hts0 := atoms_spec (ws := .code yX10_init cX10_init 1 none :: fg_T) B.pre
  have hts : ∀ w ∈ fg_T, w.before (([.ref h0] : List Value).toArray) s = true := fun w hw => hts0 w (List.mem_cons_of_mem _ hw)
  have hown : s.vm.findClass RX10 = some m.cls := findClass_of_methodNamed B.named
  have hlocks := B.notSynchronized
  have hin : meth.name = "<init>" := (name_of_methodNamed B.named B.method).1
  subst hsz
  have hD := hD0.self (sz := s.heap.size)
  generalize hAe : va_A [(h0, .inr (10, [.int 0, .int 0, .int 0, .null, .int 0, .null, .null, .null, .int 0, .null, .int 0, .int 0, .int 0, .int 0, .int 0, .int 0, .int 0, .null, .int 0, .null, .null, .null, .null, .null, .null, .null, .int 0, .null, .null, .null, .int 0, .null, .int 0, .null, .null, .null, .null]))] s.heap.size = A at hD ⊢
  have hA : ∀ q : Nat, s.heap.size ≤ q → A q := fun q h => by rw [← hAe]; exact Or.inr h
  have hS : va_S A s.heap s.heap [] := va_S.rf
  have hK := hE.1.1
  have hP : va_P (fg_D Λ) vwCl [(h0, .inr (10, [.int 0, .int 0, .int 0, .null, .int 0, .null, .null, .null, .int 0, .null, .int 0, .int 0, .int 0, .int 0, .int 0, .int 0, .int 0, .null, .int 0, .null, .null, .null, .null, .null, .null, .null, .int 0, .null, .null, .null, .int 0, .null, .int 0, .null, .null, .null, .null]))] s.heap := hP
  have hl := lv_entry ([.ref h0]) (n := 1) (Nat.le_of_ble_eq_true rfl)
  rw [lg_entry_eq]
  generalize (lg_sl ([.ref h0]) ++ List.replicate (1 - (lg_sl ([.ref h0])).length) Slot.unset).toArray = ls at hl ⊢
  have hl : lv_has ls 1 [(0, .ref h0)] := hl
  refine lv_aload_n hx hb dc_cX10_init_0 rfl (lv_at hl 0 rfl) ?_
  refine W.objInit hx hb hown (hts _ (fg_w_in (w := 878) (c := .methodLink RX10 1 objectInit) (by decide +kernel) (by decide +kernel))) (hts _ (fg_w_in (w := 93) (c := .instanceMethod objectInit) (by decide +kernel) (by decide +kernel))) (hts _ (fg_w_in (w := 94) (c := .code objectInit ⟨#[0xb1]⟩ 1 none) (by decide +kernel) (by decide +kernel))) rfl (by rw [hml]; exact hl.1) rfl dc_cX10_init_1 (Nat.le_of_ble_eq_true rfl) (Nat.le_of_ble_eq_true rfl) ?_
  refine W.eq (g2 := F0 m 4 ls []) rfl ?_
  refine lv_aload_n hx hb dc_cX10_init_4 rfl (lv_at hl 0 rfl) ?_
  refine lv_bipush (v := 10) hx hb dc_cX10_init_5 (by decide) ?_
  refine fc_newI (N := 10) hx hb (hts _ (fg_w_in (w := 119) (c := .arrayClass .int) (by decide +kernel) (by decide +kernel))) hK hP hD hS hA (by decide) (by decide) (Nat.le_of_ble_eq_true rfl) (Nat.le_of_ble_eq_true rfl) dc_cX10_init_7 (fun q1 H hP hD hS => ?_)
  refine va_putF (D := fg_D Λ) (ci := 10) (v := .ref q1) (ty := .array .int) (C := RX10) (T := TX10) (N := 37) hx hb hts (fc_lay 10 rfl) tyX10 tyX10_ok nmX10 hown hK hP hD hS 0 rfl rfl 3 (by decide) (hts _ (fg_w_in (w := 882) (c := .fieldLink RX10 7 "FlagSignalsModel" "pattern" "[I") (by decide +kernel) (by decide +kernel))) (fun _ h9 => h9) rfl hin rfl (by decide +kernel) rfl rfl (Nat.le_of_ble_eq_true rfl) dc_cX10_init_9 (fun H locs hP hD hS => ?_)
  have hP : va_P (fg_D Λ) vwCl [(h0, .inr (10, [.int 0, .int 0, .int 0, .ref q1, .int 0, .null, .null, .null, .int 0, .null, .int 0, .int 0, .int 0, .int 0, .int 0, .int 0, .int 0, .null, .int 0, .null, .null, .null, .null, .null, .null, .null, .int 0, .null, .null, .null, .int 0, .null, .int 0, .null, .null, .null, .null])), (q1, .inl (Λ.2.1, 10, .inl (fun _ => 0)))] H := hP
  have hD : va_D A [(h0, .inr (10, [.int 0, .int 0, .int 0, .ref q1, .int 0, .null, .null, .null, .int 0, .null, .int 0, .int 0, .int 0, .int 0, .int 0, .int 0, .int 0, .null, .int 0, .null, .null, .null, .null, .null, .null, .null, .int 0, .null, .null, .null, .int 0, .null, .int 0, .null, .null, .null, .null])), (q1, .inl (Λ.2.1, 10, .inl (fun _ => 0)))] := hD
  refine lv_aload_n hx hb dc_cX10_init_12 rfl (lv_at hl 0 rfl) ?_
  refine lv_bipush (v := 10) hx hb dc_cX10_init_13 (by decide) ?_
  refine fc_newI (N := 10) hx hb (hts _ (fg_w_in (w := 119) (c := .arrayClass .int) (by decide +kernel) (by decide +kernel))) hK hP hD hS hA (by decide) (by decide) (Nat.le_of_ble_eq_true rfl) (Nat.le_of_ble_eq_true rfl) dc_cX10_init_15 (fun q2 H hP hD hS => ?_)
  refine va_putF (D := fg_D Λ) (ci := 10) (v := .ref q2) (ty := .array .int) (C := RX10) (T := TX10) (N := 37) hx hb hts (fc_lay 10 rfl) tyX10 tyX10_ok nmX10 hown hK hP hD hS 0 rfl rfl 5 (by decide) (hts _ (fg_w_in (w := 884) (c := .fieldLink RX10 13 "FlagSignalsModel" "longs" "[I") (by decide +kernel) (by decide +kernel))) (fun _ h9 => h9) rfl hin rfl (by decide +kernel) rfl rfl (Nat.le_of_ble_eq_true rfl) dc_cX10_init_17 (fun H locs hP hD hS => ?_)
  have hP : va_P (fg_D Λ) vwCl [(h0, .inr (10, [.int 0, .int 0, .int 0, .ref q1, .int 0, .ref q2, .null, .null, .int 0, .null, .int 0, .int 0, .int 0, .int 0, .int 0, .int 0, .int 0, .null, .int 0, .null, .null, .null, .null, .null, .null, .null, .int 0, .null, .null, .null, .int 0, .null, .int 0, .null, .null, .null, .null])), (q1, .inl (Λ.2.1, 10, .inl (fun _ => 0))), (q2, .inl (Λ.2.1, 10, .inl (fun _ => 0)))] H := hP
  have hD : va_D A [(h0, .inr (10, [.int 0, .int 0, .int 0, .ref q1, .int 0, .ref q2, .null, .null, .int 0, .null, .int 0, .int 0, .int 0, .int 0, .int 0, .int 0, .int 0, .null, .int 0, .null, .null, .null, .null, .null, .null, .null, .int 0, .null, .null, .null, .int 0, .null, .int 0, .null, .null, .null, .null])), (q1, .inl (Λ.2.1, 10, .inl (fun _ => 0))), (q2, .inl (Λ.2.1, 10, .inl (fun _ => 0)))] := hD
  refine lv_aload_n hx hb dc_cX10_init_20 rfl (lv_at hl 0 rfl) ?_
  refine lv_bipush (v := 40) hx hb dc_cX10_init_21 (by decide) ?_
  refine fc_newI (N := 40) hx hb (hts _ (fg_w_in (w := 119) (c := .arrayClass .int) (by decide +kernel) (by decide +kernel))) hK hP hD hS hA (by decide) (by decide) (Nat.le_of_ble_eq_true rfl) (Nat.le_of_ble_eq_true rfl) dc_cX10_init_23 (fun q3 H hP hD hS => ?_)
  refine va_putF (D := fg_D Λ) (ci := 10) (v := .ref q3) (ty := .array .int) (C := RX10) (T := TX10) (N := 37) hx hb hts (fc_lay 10 rfl) tyX10 tyX10_ok nmX10 hown hK hP hD hS 0 rfl rfl 6 (by decide) (hts _ (fg_w_in (w := 885) (c := .fieldLink RX10 16 "FlagSignalsModel" "told" "[I") (by decide +kernel) (by decide +kernel))) (fun _ h9 => h9) rfl hin rfl (by decide +kernel) rfl rfl (Nat.le_of_ble_eq_true rfl) dc_cX10_init_25 (fun H locs hP hD hS => ?_)
  have hP : va_P (fg_D Λ) vwCl [(h0, .inr (10, [.int 0, .int 0, .int 0, .ref q1, .int 0, .ref q2, .ref q3, .null, .int 0, .null, .int 0, .int 0, .int 0, .int 0, .int 0, .int 0, .int 0, .null, .int 0, .null, .null, .null, .null, .null, .null, .null, .int 0, .null, .null, .null, .int 0, .null, .int 0, .null, .null, .null, .null])), (q1, .inl (Λ.2.1, 10, .inl (fun _ => 0))), (q2, .inl (Λ.2.1, 10, .inl (fun _ => 0))), (q3, .inl (Λ.2.1, 40, .inl (fun _ => 0)))] H := hP
  have hD : va_D A [(h0, .inr (10, [.int 0, .int 0, .int 0, .ref q1, .int 0, .ref q2, .ref q3, .null, .int 0, .null, .int 0, .int 0, .int 0, .int 0, .int 0, .int 0, .int 0, .null, .int 0, .null, .null, .null, .null, .null, .null, .null, .int 0, .null, .null, .null, .int 0, .null, .int 0, .null, .null, .null, .null])), (q1, .inl (Λ.2.1, 10, .inl (fun _ => 0))), (q2, .inl (Λ.2.1, 10, .inl (fun _ => 0))), (q3, .inl (Λ.2.1, 40, .inl (fun _ => 0)))] := hD
  refine lv_aload_n hx hb dc_cX10_init_28 rfl (lv_at hl 0 rfl) ?_
  refine lv_bipush (v := 61) hx hb dc_cX10_init_29 (by decide) ?_
  refine fc_newI (N := 61) hx hb (hts _ (fg_w_in (w := 119) (c := .arrayClass .int) (by decide +kernel) (by decide +kernel))) hK hP hD hS hA (by decide) (by decide) (Nat.le_of_ble_eq_true rfl) (Nat.le_of_ble_eq_true rfl) dc_cX10_init_31 (fun q4 H hP hD hS => ?_)
  refine va_putF (D := fg_D Λ) (ci := 10) (v := .ref q4) (ty := .array .int) (C := RX10) (T := TX10) (N := 37) hx hb hts (fc_lay 10 rfl) tyX10 tyX10_ok nmX10 hown hK hP hD hS 0 rfl rfl 7 (by decide) (hts _ (fg_w_in (w := 886) (c := .fieldLink RX10 19 "FlagSignalsModel" "now" "[I") (by decide +kernel) (by decide +kernel))) (fun _ h9 => h9) rfl hin rfl (by decide +kernel) rfl rfl (Nat.le_of_ble_eq_true rfl) dc_cX10_init_33 (fun H locs hP hD hS => ?_)
  have hP : va_P (fg_D Λ) vwCl [(h0, .inr (10, [.int 0, .int 0, .int 0, .ref q1, .int 0, .ref q2, .ref q3, .ref q4, .int 0, .null, .int 0, .int 0, .int 0, .int 0, .int 0, .int 0, .int 0, .null, .int 0, .null, .null, .null, .null, .null, .null, .null, .int 0, .null, .null, .null, .int 0, .null, .int 0, .null, .null, .null, .null])), (q1, .inl (Λ.2.1, 10, .inl (fun _ => 0))), (q2, .inl (Λ.2.1, 10, .inl (fun _ => 0))), (q3, .inl (Λ.2.1, 40, .inl (fun _ => 0))), (q4, .inl (Λ.2.1, 61, .inl (fun _ => 0)))] H := hP
  have hD : va_D A [(h0, .inr (10, [.int 0, .int 0, .int 0, .ref q1, .int 0, .ref q2, .ref q3, .ref q4, .int 0, .null, .int 0, .int 0, .int 0, .int 0, .int 0, .int 0, .int 0, .null, .int 0, .null, .null, .null, .null, .null, .null, .null, .int 0, .null, .null, .null, .int 0, .null, .int 0, .null, .null, .null, .null])), (q1, .inl (Λ.2.1, 10, .inl (fun _ => 0))), (q2, .inl (Λ.2.1, 10, .inl (fun _ => 0))), (q3, .inl (Λ.2.1, 40, .inl (fun _ => 0))), (q4, .inl (Λ.2.1, 61, .inl (fun _ => 0)))] := hD
  refine lv_aload_n hx hb dc_cX10_init_36 rfl (lv_at hl 0 rfl) ?_
  refine lv_sipush (v := 240) hx hb dc_cX10_init_37 (by decide) ?_
  refine fc_newI (N := 240) hx hb (hts _ (fg_w_in (w := 119) (c := .arrayClass .int) (by decide +kernel) (by decide +kernel))) hK hP hD hS hA (by decide) (by decide) (Nat.le_of_ble_eq_true rfl) (Nat.le_of_ble_eq_true rfl) dc_cX10_init_40 (fun q5 H hP hD hS => ?_)
  refine va_putF (D := fg_D Λ) (ci := 10) (v := .ref q5) (ty := .array .int) (C := RX10) (T := TX10) (N := 37) hx hb hts (fc_lay 10 rfl) tyX10 tyX10_ok nmX10 hown hK hP hD hS 0 rfl rfl 9 (by decide) (hts _ (fg_w_in (w := 888) (c := .fieldLink RX10 22 "FlagSignalsModel" "text" "[I") (by decide +kernel) (by decide +kernel))) (fun _ h9 => h9) rfl hin rfl (by decide +kernel) rfl rfl (Nat.le_of_ble_eq_true rfl) dc_cX10_init_42 (fun H locs hP hD hS => ?_)
  have hP : va_P (fg_D Λ) vwCl [(h0, .inr (10, [.int 0, .int 0, .int 0, .ref q1, .int 0, .ref q2, .ref q3, .ref q4, .int 0, .ref q5, .int 0, .int 0, .int 0, .int 0, .int 0, .int 0, .int 0, .null, .int 0, .null, .null, .null, .null, .null, .null, .null, .int 0, .null, .null, .null, .int 0, .null, .int 0, .null, .null, .null, .null])), (q1, .inl (Λ.2.1, 10, .inl (fun _ => 0))), (q2, .inl (Λ.2.1, 10, .inl (fun _ => 0))), (q3, .inl (Λ.2.1, 40, .inl (fun _ => 0))), (q4, .inl (Λ.2.1, 61, .inl (fun _ => 0))), (q5, .inl (Λ.2.1, 240, .inl (fun _ => 0)))] H := hP
  have hD : va_D A [(h0, .inr (10, [.int 0, .int 0, .int 0, .ref q1, .int 0, .ref q2, .ref q3, .ref q4, .int 0, .ref q5, .int 0, .int 0, .int 0, .int 0, .int 0, .int 0, .int 0, .null, .int 0, .null, .null, .null, .null, .null, .null, .null, .int 0, .null, .null, .null, .int 0, .null, .int 0, .null, .null, .null, .null])), (q1, .inl (Λ.2.1, 10, .inl (fun _ => 0))), (q2, .inl (Λ.2.1, 10, .inl (fun _ => 0))), (q3, .inl (Λ.2.1, 40, .inl (fun _ => 0))), (q4, .inl (Λ.2.1, 61, .inl (fun _ => 0))), (q5, .inl (Λ.2.1, 240, .inl (fun _ => 0)))] := hD
  refine lv_aload_n hx hb dc_cX10_init_45 rfl (lv_at hl 0 rfl) ?_
  refine lv_iconst (v := (-1)) hx hb dc_cX10_init_46 (by decide) ?_
  refine va_put (D := fg_D Λ) (ci := 10) (v := .int (-1)) (ty := .int) (C := RX10) (T := TX10) (N := 37) hx hb hts (fc_lay 10 rfl) tyX10 tyX10_ok nmX10 hown hK hP hD hS 0 rfl rfl 11 (by decide) (hts _ (fg_w_in (w := 890) (c := .fieldLink RX10 25 "FlagSignalsModel" "faultPlace" "I") (by decide +kernel) (by decide +kernel))) (fun _ h9 => h9) rfl (by decide +kernel) rfl rfl (Nat.le_of_ble_eq_true rfl) dc_cX10_init_47 (fun H locs hP hD hS => ?_)
  have hP : va_P (fg_D Λ) vwCl [(h0, .inr (10, [.int 0, .int 0, .int 0, .ref q1, .int 0, .ref q2, .ref q3, .ref q4, .int 0, .ref q5, .int 0, .int (-1), .int 0, .int 0, .int 0, .int 0, .int 0, .null, .int 0, .null, .null, .null, .null, .null, .null, .null, .int 0, .null, .null, .null, .int 0, .null, .int 0, .null, .null, .null, .null])), (q1, .inl (Λ.2.1, 10, .inl (fun _ => 0))), (q2, .inl (Λ.2.1, 10, .inl (fun _ => 0))), (q3, .inl (Λ.2.1, 40, .inl (fun _ => 0))), (q4, .inl (Λ.2.1, 61, .inl (fun _ => 0))), (q5, .inl (Λ.2.1, 240, .inl (fun _ => 0)))] H := hP
  have hD : va_D A [(h0, .inr (10, [.int 0, .int 0, .int 0, .ref q1, .int 0, .ref q2, .ref q3, .ref q4, .int 0, .ref q5, .int 0, .int (-1), .int 0, .int 0, .int 0, .int 0, .int 0, .null, .int 0, .null, .null, .null, .null, .null, .null, .null, .int 0, .null, .null, .null, .int 0, .null, .int 0, .null, .null, .null, .null])), (q1, .inl (Λ.2.1, 10, .inl (fun _ => 0))), (q2, .inl (Λ.2.1, 10, .inl (fun _ => 0))), (q3, .inl (Λ.2.1, 40, .inl (fun _ => 0))), (q4, .inl (Λ.2.1, 61, .inl (fun _ => 0))), (q5, .inl (Λ.2.1, 240, .inl (fun _ => 0)))] := hD
  refine lv_aload_n hx hb dc_cX10_init_50 rfl (lv_at hl 0 rfl) ?_
  refine lv_bipush (v := 10) hx hb dc_cX10_init_51 (by decide) ?_
  refine fc_newI (N := 10) hx hb (hts _ (fg_w_in (w := 119) (c := .arrayClass .int) (by decide +kernel) (by decide +kernel))) hK hP hD hS hA (by decide) (by decide) (Nat.le_of_ble_eq_true rfl) (Nat.le_of_ble_eq_true rfl) dc_cX10_init_53 (fun q6 H hP hD hS => ?_)
  refine va_putF (D := fg_D Λ) (ci := 10) (v := .ref q6) (ty := .array .int) (C := RX10) (T := TX10) (N := 37) hx hb hts (fc_lay 10 rfl) tyX10 tyX10_ok nmX10 hown hK hP hD hS 0 rfl rfl 17 (by decide) (hts _ (fg_w_in (w := 896) (c := .fieldLink RX10 29 "FlagSignalsModel" "readPattern" "[I") (by decide +kernel) (by decide +kernel))) (fun _ h9 => h9) rfl hin rfl (by decide +kernel) rfl rfl (Nat.le_of_ble_eq_true rfl) dc_cX10_init_55 (fun H locs hP hD hS => ?_)
  have hP : va_P (fg_D Λ) vwCl [(h0, .inr (10, [.int 0, .int 0, .int 0, .ref q1, .int 0, .ref q2, .ref q3, .ref q4, .int 0, .ref q5, .int 0, .int (-1), .int 0, .int 0, .int 0, .int 0, .int 0, .ref q6, .int 0, .null, .null, .null, .null, .null, .null, .null, .int 0, .null, .null, .null, .int 0, .null, .int 0, .null, .null, .null, .null])), (q1, .inl (Λ.2.1, 10, .inl (fun _ => 0))), (q2, .inl (Λ.2.1, 10, .inl (fun _ => 0))), (q3, .inl (Λ.2.1, 40, .inl (fun _ => 0))), (q4, .inl (Λ.2.1, 61, .inl (fun _ => 0))), (q5, .inl (Λ.2.1, 240, .inl (fun _ => 0))), (q6, .inl (Λ.2.1, 10, .inl (fun _ => 0)))] H := hP
  have hD : va_D A [(h0, .inr (10, [.int 0, .int 0, .int 0, .ref q1, .int 0, .ref q2, .ref q3, .ref q4, .int 0, .ref q5, .int 0, .int (-1), .int 0, .int 0, .int 0, .int 0, .int 0, .ref q6, .int 0, .null, .null, .null, .null, .null, .null, .null, .int 0, .null, .null, .null, .int 0, .null, .int 0, .null, .null, .null, .null])), (q1, .inl (Λ.2.1, 10, .inl (fun _ => 0))), (q2, .inl (Λ.2.1, 10, .inl (fun _ => 0))), (q3, .inl (Λ.2.1, 40, .inl (fun _ => 0))), (q4, .inl (Λ.2.1, 61, .inl (fun _ => 0))), (q5, .inl (Λ.2.1, 240, .inl (fun _ => 0))), (q6, .inl (Λ.2.1, 10, .inl (fun _ => 0)))] := hD
  refine lv_aload_n hx hb dc_cX10_init_58 rfl (lv_at hl 0 rfl) ?_
  refine lv_bipush (v := 10) hx hb dc_cX10_init_59 (by decide) ?_
  refine fc_newI (N := 10) hx hb (hts _ (fg_w_in (w := 119) (c := .arrayClass .int) (by decide +kernel) (by decide +kernel))) hK hP hD hS hA (by decide) (by decide) (Nat.le_of_ble_eq_true rfl) (Nat.le_of_ble_eq_true rfl) dc_cX10_init_61 (fun q7 H hP hD hS => ?_)
  refine va_putF (D := fg_D Λ) (ci := 10) (v := .ref q7) (ty := .array .int) (C := RX10) (T := TX10) (N := 37) hx hb hts (fc_lay 10 rfl) tyX10 tyX10_ok nmX10 hown hK hP hD hS 0 rfl rfl 19 (by decide) (hts _ (fg_w_in (w := 898) (c := .fieldLink RX10 32 "FlagSignalsModel" "readLongs" "[I") (by decide +kernel) (by decide +kernel))) (fun _ h9 => h9) rfl hin rfl (by decide +kernel) rfl rfl (Nat.le_of_ble_eq_true rfl) dc_cX10_init_63 (fun H locs hP hD hS => ?_)
  have hP : va_P (fg_D Λ) vwCl [(h0, .inr (10, [.int 0, .int 0, .int 0, .ref q1, .int 0, .ref q2, .ref q3, .ref q4, .int 0, .ref q5, .int 0, .int (-1), .int 0, .int 0, .int 0, .int 0, .int 0, .ref q6, .int 0, .ref q7, .null, .null, .null, .null, .null, .null, .int 0, .null, .null, .null, .int 0, .null, .int 0, .null, .null, .null, .null])), (q1, .inl (Λ.2.1, 10, .inl (fun _ => 0))), (q2, .inl (Λ.2.1, 10, .inl (fun _ => 0))), (q3, .inl (Λ.2.1, 40, .inl (fun _ => 0))), (q4, .inl (Λ.2.1, 61, .inl (fun _ => 0))), (q5, .inl (Λ.2.1, 240, .inl (fun _ => 0))), (q6, .inl (Λ.2.1, 10, .inl (fun _ => 0))), (q7, .inl (Λ.2.1, 10, .inl (fun _ => 0)))] H := hP
  have hD : va_D A [(h0, .inr (10, [.int 0, .int 0, .int 0, .ref q1, .int 0, .ref q2, .ref q3, .ref q4, .int 0, .ref q5, .int 0, .int (-1), .int 0, .int 0, .int 0, .int 0, .int 0, .ref q6, .int 0, .ref q7, .null, .null, .null, .null, .null, .null, .int 0, .null, .null, .null, .int 0, .null, .int 0, .null, .null, .null, .null])), (q1, .inl (Λ.2.1, 10, .inl (fun _ => 0))), (q2, .inl (Λ.2.1, 10, .inl (fun _ => 0))), (q3, .inl (Λ.2.1, 40, .inl (fun _ => 0))), (q4, .inl (Λ.2.1, 61, .inl (fun _ => 0))), (q5, .inl (Λ.2.1, 240, .inl (fun _ => 0))), (q6, .inl (Λ.2.1, 10, .inl (fun _ => 0))), (q7, .inl (Λ.2.1, 10, .inl (fun _ => 0)))] := hD
  refine lv_aload_n hx hb dc_cX10_init_66 rfl (lv_at hl 0 rfl) ?_
  refine lv_bipush (v := 40) hx hb dc_cX10_init_67 (by decide) ?_
  refine fc_newI (N := 40) hx hb (hts _ (fg_w_in (w := 119) (c := .arrayClass .int) (by decide +kernel) (by decide +kernel))) hK hP hD hS hA (by decide) (by decide) (Nat.le_of_ble_eq_true rfl) (Nat.le_of_ble_eq_true rfl) dc_cX10_init_69 (fun q8 H hP hD hS => ?_)
  refine va_putF (D := fg_D Λ) (ci := 10) (v := .ref q8) (ty := .array .int) (C := RX10) (T := TX10) (N := 37) hx hb hts (fc_lay 10 rfl) tyX10 tyX10_ok nmX10 hown hK hP hD hS 0 rfl rfl 20 (by decide) (hts _ (fg_w_in (w := 899) (c := .fieldLink RX10 35 "FlagSignalsModel" "readTold" "[I") (by decide +kernel) (by decide +kernel))) (fun _ h9 => h9) rfl hin rfl (by decide +kernel) rfl rfl (Nat.le_of_ble_eq_true rfl) dc_cX10_init_71 (fun H locs hP hD hS => ?_)
  have hP : va_P (fg_D Λ) vwCl [(h0, .inr (10, [.int 0, .int 0, .int 0, .ref q1, .int 0, .ref q2, .ref q3, .ref q4, .int 0, .ref q5, .int 0, .int (-1), .int 0, .int 0, .int 0, .int 0, .int 0, .ref q6, .int 0, .ref q7, .ref q8, .null, .null, .null, .null, .null, .int 0, .null, .null, .null, .int 0, .null, .int 0, .null, .null, .null, .null])), (q1, .inl (Λ.2.1, 10, .inl (fun _ => 0))), (q2, .inl (Λ.2.1, 10, .inl (fun _ => 0))), (q3, .inl (Λ.2.1, 40, .inl (fun _ => 0))), (q4, .inl (Λ.2.1, 61, .inl (fun _ => 0))), (q5, .inl (Λ.2.1, 240, .inl (fun _ => 0))), (q6, .inl (Λ.2.1, 10, .inl (fun _ => 0))), (q7, .inl (Λ.2.1, 10, .inl (fun _ => 0))), (q8, .inl (Λ.2.1, 40, .inl (fun _ => 0)))] H := hP
  have hD : va_D A [(h0, .inr (10, [.int 0, .int 0, .int 0, .ref q1, .int 0, .ref q2, .ref q3, .ref q4, .int 0, .ref q5, .int 0, .int (-1), .int 0, .int 0, .int 0, .int 0, .int 0, .ref q6, .int 0, .ref q7, .ref q8, .null, .null, .null, .null, .null, .int 0, .null, .null, .null, .int 0, .null, .int 0, .null, .null, .null, .null])), (q1, .inl (Λ.2.1, 10, .inl (fun _ => 0))), (q2, .inl (Λ.2.1, 10, .inl (fun _ => 0))), (q3, .inl (Λ.2.1, 40, .inl (fun _ => 0))), (q4, .inl (Λ.2.1, 61, .inl (fun _ => 0))), (q5, .inl (Λ.2.1, 240, .inl (fun _ => 0))), (q6, .inl (Λ.2.1, 10, .inl (fun _ => 0))), (q7, .inl (Λ.2.1, 10, .inl (fun _ => 0))), (q8, .inl (Λ.2.1, 40, .inl (fun _ => 0)))] := hD
  refine lv_aload_n hx hb dc_cX10_init_74 rfl (lv_at hl 0 rfl) ?_
  refine lv_iconst (v := 4) hx hb dc_cX10_init_75 (by decide) ?_
  refine fc_newI (N := 4) hx hb (hts _ (fg_w_in (w := 119) (c := .arrayClass .int) (by decide +kernel) (by decide +kernel))) hK hP hD hS hA (by decide) (by decide) (Nat.le_of_ble_eq_true rfl) (Nat.le_of_ble_eq_true rfl) dc_cX10_init_76 (fun q9 H hP hD hS => ?_)
  refine va_putF (D := fg_D Λ) (ci := 10) (v := .ref q9) (ty := .array .int) (C := RX10) (T := TX10) (N := 37) hx hb hts (fc_lay 10 rfl) tyX10 tyX10_ok nmX10 hown hK hP hD hS 0 rfl rfl 21 (by decide) (hts _ (fg_w_in (w := 900) (c := .fieldLink RX10 38 "FlagSignalsModel" "row" "[I") (by decide +kernel) (by decide +kernel))) (fun _ h9 => h9) rfl hin rfl (by decide +kernel) rfl rfl (Nat.le_of_ble_eq_true rfl) dc_cX10_init_78 (fun H locs hP hD hS => ?_)
  have hP : va_P (fg_D Λ) vwCl [(h0, .inr (10, [.int 0, .int 0, .int 0, .ref q1, .int 0, .ref q2, .ref q3, .ref q4, .int 0, .ref q5, .int 0, .int (-1), .int 0, .int 0, .int 0, .int 0, .int 0, .ref q6, .int 0, .ref q7, .ref q8, .ref q9, .null, .null, .null, .null, .int 0, .null, .null, .null, .int 0, .null, .int 0, .null, .null, .null, .null])), (q1, .inl (Λ.2.1, 10, .inl (fun _ => 0))), (q2, .inl (Λ.2.1, 10, .inl (fun _ => 0))), (q3, .inl (Λ.2.1, 40, .inl (fun _ => 0))), (q4, .inl (Λ.2.1, 61, .inl (fun _ => 0))), (q5, .inl (Λ.2.1, 240, .inl (fun _ => 0))), (q6, .inl (Λ.2.1, 10, .inl (fun _ => 0))), (q7, .inl (Λ.2.1, 10, .inl (fun _ => 0))), (q8, .inl (Λ.2.1, 40, .inl (fun _ => 0))), (q9, .inl (Λ.2.1, 4, .inl (fun _ => 0)))] H := hP
  have hD : va_D A [(h0, .inr (10, [.int 0, .int 0, .int 0, .ref q1, .int 0, .ref q2, .ref q3, .ref q4, .int 0, .ref q5, .int 0, .int (-1), .int 0, .int 0, .int 0, .int 0, .int 0, .ref q6, .int 0, .ref q7, .ref q8, .ref q9, .null, .null, .null, .null, .int 0, .null, .null, .null, .int 0, .null, .int 0, .null, .null, .null, .null])), (q1, .inl (Λ.2.1, 10, .inl (fun _ => 0))), (q2, .inl (Λ.2.1, 10, .inl (fun _ => 0))), (q3, .inl (Λ.2.1, 40, .inl (fun _ => 0))), (q4, .inl (Λ.2.1, 61, .inl (fun _ => 0))), (q5, .inl (Λ.2.1, 240, .inl (fun _ => 0))), (q6, .inl (Λ.2.1, 10, .inl (fun _ => 0))), (q7, .inl (Λ.2.1, 10, .inl (fun _ => 0))), (q8, .inl (Λ.2.1, 40, .inl (fun _ => 0))), (q9, .inl (Λ.2.1, 4, .inl (fun _ => 0)))] := hD
  refine lv_aload_n hx hb dc_cX10_init_81 rfl (lv_at hl 0 rfl) ?_
  refine lv_bipush (v := 10) hx hb dc_cX10_init_82 (by decide) ?_
  refine fc_newZ (N := 10) hx hb (hts _ (fg_w_in (w := 327) (c := .arrayClass .boolean) (by decide +kernel) (by decide +kernel))) hK hP hD hS hA (by decide) (by decide) (Nat.le_of_ble_eq_true rfl) (Nat.le_of_ble_eq_true rfl) dc_cX10_init_84 (fun q10 H hP hD hS => ?_)
  refine va_putF (D := fg_D Λ) (ci := 10) (v := .ref q10) (ty := .array .boolean) (C := RX10) (T := TX10) (N := 37) hx hb hts (fc_lay 10 rfl) tyX10 tyX10_ok nmX10 hown hK hP hD hS 0 rfl rfl 22 (by decide) (hts _ (fg_w_in (w := 901) (c := .fieldLink RX10 41 "FlagSignalsModel" "shows" "[Z") (by decide +kernel) (by decide +kernel))) (fun _ h9 => h9) rfl hin rfl (by decide +kernel) rfl rfl (Nat.le_of_ble_eq_true rfl) dc_cX10_init_86 (fun H locs hP hD hS => ?_)
  have hP : va_P (fg_D Λ) vwCl [(h0, .inr (10, [.int 0, .int 0, .int 0, .ref q1, .int 0, .ref q2, .ref q3, .ref q4, .int 0, .ref q5, .int 0, .int (-1), .int 0, .int 0, .int 0, .int 0, .int 0, .ref q6, .int 0, .ref q7, .ref q8, .ref q9, .ref q10, .null, .null, .null, .int 0, .null, .null, .null, .int 0, .null, .int 0, .null, .null, .null, .null])), (q1, .inl (Λ.2.1, 10, .inl (fun _ => 0))), (q2, .inl (Λ.2.1, 10, .inl (fun _ => 0))), (q3, .inl (Λ.2.1, 40, .inl (fun _ => 0))), (q4, .inl (Λ.2.1, 61, .inl (fun _ => 0))), (q5, .inl (Λ.2.1, 240, .inl (fun _ => 0))), (q6, .inl (Λ.2.1, 10, .inl (fun _ => 0))), (q7, .inl (Λ.2.1, 10, .inl (fun _ => 0))), (q8, .inl (Λ.2.1, 40, .inl (fun _ => 0))), (q9, .inl (Λ.2.1, 4, .inl (fun _ => 0))), (q10, .inl (Λ.2.2.1, 10, .inl (fun _ => 0)))] H := hP
  have hD : va_D A [(h0, .inr (10, [.int 0, .int 0, .int 0, .ref q1, .int 0, .ref q2, .ref q3, .ref q4, .int 0, .ref q5, .int 0, .int (-1), .int 0, .int 0, .int 0, .int 0, .int 0, .ref q6, .int 0, .ref q7, .ref q8, .ref q9, .ref q10, .null, .null, .null, .int 0, .null, .null, .null, .int 0, .null, .int 0, .null, .null, .null, .null])), (q1, .inl (Λ.2.1, 10, .inl (fun _ => 0))), (q2, .inl (Λ.2.1, 10, .inl (fun _ => 0))), (q3, .inl (Λ.2.1, 40, .inl (fun _ => 0))), (q4, .inl (Λ.2.1, 61, .inl (fun _ => 0))), (q5, .inl (Λ.2.1, 240, .inl (fun _ => 0))), (q6, .inl (Λ.2.1, 10, .inl (fun _ => 0))), (q7, .inl (Λ.2.1, 10, .inl (fun _ => 0))), (q8, .inl (Λ.2.1, 40, .inl (fun _ => 0))), (q9, .inl (Λ.2.1, 4, .inl (fun _ => 0))), (q10, .inl (Λ.2.2.1, 10, .inl (fun _ => 0)))] := hD
  refine lv_aload_n hx hb dc_cX10_init_89 rfl (lv_at hl 0 rfl) ?_
  refine lv_bipush (v := 40) hx hb dc_cX10_init_90 (by decide) ?_
  refine fc_newI (N := 40) hx hb (hts _ (fg_w_in (w := 119) (c := .arrayClass .int) (by decide +kernel) (by decide +kernel))) hK hP hD hS hA (by decide) (by decide) (Nat.le_of_ble_eq_true rfl) (Nat.le_of_ble_eq_true rfl) dc_cX10_init_92 (fun q11 H hP hD hS => ?_)
  refine va_putF (D := fg_D Λ) (ci := 10) (v := .ref q11) (ty := .array .int) (C := RX10) (T := TX10) (N := 37) hx hb hts (fc_lay 10 rfl) tyX10 tyX10_ok nmX10 hown hK hP hD hS 0 rfl rfl 23 (by decide) (hts _ (fg_w_in (w := 902) (c := .fieldLink RX10 45 "FlagSignalsModel" "looks" "[I") (by decide +kernel) (by decide +kernel))) (fun _ h9 => h9) rfl hin rfl (by decide +kernel) rfl rfl (Nat.le_of_ble_eq_true rfl) dc_cX10_init_94 (fun H locs hP hD hS => ?_)
  have hP : va_P (fg_D Λ) vwCl [(h0, .inr (10, [.int 0, .int 0, .int 0, .ref q1, .int 0, .ref q2, .ref q3, .ref q4, .int 0, .ref q5, .int 0, .int (-1), .int 0, .int 0, .int 0, .int 0, .int 0, .ref q6, .int 0, .ref q7, .ref q8, .ref q9, .ref q10, .ref q11, .null, .null, .int 0, .null, .null, .null, .int 0, .null, .int 0, .null, .null, .null, .null])), (q1, .inl (Λ.2.1, 10, .inl (fun _ => 0))), (q2, .inl (Λ.2.1, 10, .inl (fun _ => 0))), (q3, .inl (Λ.2.1, 40, .inl (fun _ => 0))), (q4, .inl (Λ.2.1, 61, .inl (fun _ => 0))), (q5, .inl (Λ.2.1, 240, .inl (fun _ => 0))), (q6, .inl (Λ.2.1, 10, .inl (fun _ => 0))), (q7, .inl (Λ.2.1, 10, .inl (fun _ => 0))), (q8, .inl (Λ.2.1, 40, .inl (fun _ => 0))), (q9, .inl (Λ.2.1, 4, .inl (fun _ => 0))), (q10, .inl (Λ.2.2.1, 10, .inl (fun _ => 0))), (q11, .inl (Λ.2.1, 40, .inl (fun _ => 0)))] H := hP
  have hD : va_D A [(h0, .inr (10, [.int 0, .int 0, .int 0, .ref q1, .int 0, .ref q2, .ref q3, .ref q4, .int 0, .ref q5, .int 0, .int (-1), .int 0, .int 0, .int 0, .int 0, .int 0, .ref q6, .int 0, .ref q7, .ref q8, .ref q9, .ref q10, .ref q11, .null, .null, .int 0, .null, .null, .null, .int 0, .null, .int 0, .null, .null, .null, .null])), (q1, .inl (Λ.2.1, 10, .inl (fun _ => 0))), (q2, .inl (Λ.2.1, 10, .inl (fun _ => 0))), (q3, .inl (Λ.2.1, 40, .inl (fun _ => 0))), (q4, .inl (Λ.2.1, 61, .inl (fun _ => 0))), (q5, .inl (Λ.2.1, 240, .inl (fun _ => 0))), (q6, .inl (Λ.2.1, 10, .inl (fun _ => 0))), (q7, .inl (Λ.2.1, 10, .inl (fun _ => 0))), (q8, .inl (Λ.2.1, 40, .inl (fun _ => 0))), (q9, .inl (Λ.2.1, 4, .inl (fun _ => 0))), (q10, .inl (Λ.2.2.1, 10, .inl (fun _ => 0))), (q11, .inl (Λ.2.1, 40, .inl (fun _ => 0)))] := hD
  refine lv_aload_n hx hb dc_cX10_init_97 rfl (lv_at hl 0 rfl) ?_
  refine lv_sipush (v := 1024) hx hb dc_cX10_init_98 (by decide) ?_
  refine fc_newZ (N := 1024) hx hb (hts _ (fg_w_in (w := 327) (c := .arrayClass .boolean) (by decide +kernel) (by decide +kernel))) hK hP hD hS hA (by decide) (by decide) (Nat.le_of_ble_eq_true rfl) (Nat.le_of_ble_eq_true rfl) dc_cX10_init_101 (fun q12 H hP hD hS => ?_)
  refine va_putF (D := fg_D Λ) (ci := 10) (v := .ref q12) (ty := .array .boolean) (C := RX10) (T := TX10) (N := 37) hx hb hts (fc_lay 10 rfl) tyX10 tyX10_ok nmX10 hown hK hP hD hS 0 rfl rfl 24 (by decide) (hts _ (fg_w_in (w := 903) (c := .fieldLink RX10 48 "FlagSignalsModel" "flying" "[Z") (by decide +kernel) (by decide +kernel))) (fun _ h9 => h9) rfl hin rfl (by decide +kernel) rfl rfl (Nat.le_of_ble_eq_true rfl) dc_cX10_init_103 (fun H locs hP hD hS => ?_)
  have hP : va_P (fg_D Λ) vwCl [(h0, .inr (10, [.int 0, .int 0, .int 0, .ref q1, .int 0, .ref q2, .ref q3, .ref q4, .int 0, .ref q5, .int 0, .int (-1), .int 0, .int 0, .int 0, .int 0, .int 0, .ref q6, .int 0, .ref q7, .ref q8, .ref q9, .ref q10, .ref q11, .ref q12, .null, .int 0, .null, .null, .null, .int 0, .null, .int 0, .null, .null, .null, .null])), (q1, .inl (Λ.2.1, 10, .inl (fun _ => 0))), (q2, .inl (Λ.2.1, 10, .inl (fun _ => 0))), (q3, .inl (Λ.2.1, 40, .inl (fun _ => 0))), (q4, .inl (Λ.2.1, 61, .inl (fun _ => 0))), (q5, .inl (Λ.2.1, 240, .inl (fun _ => 0))), (q6, .inl (Λ.2.1, 10, .inl (fun _ => 0))), (q7, .inl (Λ.2.1, 10, .inl (fun _ => 0))), (q8, .inl (Λ.2.1, 40, .inl (fun _ => 0))), (q9, .inl (Λ.2.1, 4, .inl (fun _ => 0))), (q10, .inl (Λ.2.2.1, 10, .inl (fun _ => 0))), (q11, .inl (Λ.2.1, 40, .inl (fun _ => 0))), (q12, .inl (Λ.2.2.1, 1024, .inl (fun _ => 0)))] H := hP
  have hD : va_D A [(h0, .inr (10, [.int 0, .int 0, .int 0, .ref q1, .int 0, .ref q2, .ref q3, .ref q4, .int 0, .ref q5, .int 0, .int (-1), .int 0, .int 0, .int 0, .int 0, .int 0, .ref q6, .int 0, .ref q7, .ref q8, .ref q9, .ref q10, .ref q11, .ref q12, .null, .int 0, .null, .null, .null, .int 0, .null, .int 0, .null, .null, .null, .null])), (q1, .inl (Λ.2.1, 10, .inl (fun _ => 0))), (q2, .inl (Λ.2.1, 10, .inl (fun _ => 0))), (q3, .inl (Λ.2.1, 40, .inl (fun _ => 0))), (q4, .inl (Λ.2.1, 61, .inl (fun _ => 0))), (q5, .inl (Λ.2.1, 240, .inl (fun _ => 0))), (q6, .inl (Λ.2.1, 10, .inl (fun _ => 0))), (q7, .inl (Λ.2.1, 10, .inl (fun _ => 0))), (q8, .inl (Λ.2.1, 40, .inl (fun _ => 0))), (q9, .inl (Λ.2.1, 4, .inl (fun _ => 0))), (q10, .inl (Λ.2.2.1, 10, .inl (fun _ => 0))), (q11, .inl (Λ.2.1, 40, .inl (fun _ => 0))), (q12, .inl (Λ.2.2.1, 1024, .inl (fun _ => 0)))] := hD
  refine lv_aload_n hx hb dc_cX10_init_106 rfl (lv_at hl 0 rfl) ?_
  refine lv_sipush (v := 1024) hx hb dc_cX10_init_107 (by decide) ?_
  refine fc_newI (N := 1024) hx hb (hts _ (fg_w_in (w := 119) (c := .arrayClass .int) (by decide +kernel) (by decide +kernel))) hK hP hD hS hA (by decide) (by decide) (Nat.le_of_ble_eq_true rfl) (Nat.le_of_ble_eq_true rfl) dc_cX10_init_110 (fun q13 H hP hD hS => ?_)
  refine va_putF (D := fg_D Λ) (ci := 10) (v := .ref q13) (ty := .array .int) (C := RX10) (T := TX10) (N := 37) hx hb hts (fc_lay 10 rfl) tyX10 tyX10_ok nmX10 hown hK hP hD hS 0 rfl rfl 25 (by decide) (hts _ (fg_w_in (w := 904) (c := .fieldLink RX10 51 "FlagSignalsModel" "fewest" "[I") (by decide +kernel) (by decide +kernel))) (fun _ h9 => h9) rfl hin rfl (by decide +kernel) rfl rfl (Nat.le_of_ble_eq_true rfl) dc_cX10_init_112 (fun H locs hP hD hS => ?_)
  have hP : va_P (fg_D Λ) vwCl [(h0, .inr (10, [.int 0, .int 0, .int 0, .ref q1, .int 0, .ref q2, .ref q3, .ref q4, .int 0, .ref q5, .int 0, .int (-1), .int 0, .int 0, .int 0, .int 0, .int 0, .ref q6, .int 0, .ref q7, .ref q8, .ref q9, .ref q10, .ref q11, .ref q12, .ref q13, .int 0, .null, .null, .null, .int 0, .null, .int 0, .null, .null, .null, .null])), (q1, .inl (Λ.2.1, 10, .inl (fun _ => 0))), (q2, .inl (Λ.2.1, 10, .inl (fun _ => 0))), (q3, .inl (Λ.2.1, 40, .inl (fun _ => 0))), (q4, .inl (Λ.2.1, 61, .inl (fun _ => 0))), (q5, .inl (Λ.2.1, 240, .inl (fun _ => 0))), (q6, .inl (Λ.2.1, 10, .inl (fun _ => 0))), (q7, .inl (Λ.2.1, 10, .inl (fun _ => 0))), (q8, .inl (Λ.2.1, 40, .inl (fun _ => 0))), (q9, .inl (Λ.2.1, 4, .inl (fun _ => 0))), (q10, .inl (Λ.2.2.1, 10, .inl (fun _ => 0))), (q11, .inl (Λ.2.1, 40, .inl (fun _ => 0))), (q12, .inl (Λ.2.2.1, 1024, .inl (fun _ => 0))), (q13, .inl (Λ.2.1, 1024, .inl (fun _ => 0)))] H := hP
  have hD : va_D A [(h0, .inr (10, [.int 0, .int 0, .int 0, .ref q1, .int 0, .ref q2, .ref q3, .ref q4, .int 0, .ref q5, .int 0, .int (-1), .int 0, .int 0, .int 0, .int 0, .int 0, .ref q6, .int 0, .ref q7, .ref q8, .ref q9, .ref q10, .ref q11, .ref q12, .ref q13, .int 0, .null, .null, .null, .int 0, .null, .int 0, .null, .null, .null, .null])), (q1, .inl (Λ.2.1, 10, .inl (fun _ => 0))), (q2, .inl (Λ.2.1, 10, .inl (fun _ => 0))), (q3, .inl (Λ.2.1, 40, .inl (fun _ => 0))), (q4, .inl (Λ.2.1, 61, .inl (fun _ => 0))), (q5, .inl (Λ.2.1, 240, .inl (fun _ => 0))), (q6, .inl (Λ.2.1, 10, .inl (fun _ => 0))), (q7, .inl (Λ.2.1, 10, .inl (fun _ => 0))), (q8, .inl (Λ.2.1, 40, .inl (fun _ => 0))), (q9, .inl (Λ.2.1, 4, .inl (fun _ => 0))), (q10, .inl (Λ.2.2.1, 10, .inl (fun _ => 0))), (q11, .inl (Λ.2.1, 40, .inl (fun _ => 0))), (q12, .inl (Λ.2.2.1, 1024, .inl (fun _ => 0))), (q13, .inl (Λ.2.1, 1024, .inl (fun _ => 0)))] := hD
  refine lv_aload_n hx hb dc_cX10_init_115 rfl (lv_at hl 0 rfl) ?_
  refine lv_bipush (v := 8) hx hb dc_cX10_init_116 (by decide) ?_
  refine fc_newI (N := 8) hx hb (hts _ (fg_w_in (w := 119) (c := .arrayClass .int) (by decide +kernel) (by decide +kernel))) hK hP hD hS hA (by decide) (by decide) (Nat.le_of_ble_eq_true rfl) (Nat.le_of_ble_eq_true rfl) dc_cX10_init_118 (fun q14 H hP hD hS => ?_)
  refine va_putF (D := fg_D Λ) (ci := 10) (v := .ref q14) (ty := .array .int) (C := RX10) (T := TX10) (N := 37) hx hb hts (fc_lay 10 rfl) tyX10 tyX10_ok nmX10 hown hK hP hD hS 0 rfl rfl 27 (by decide) (hts _ (fg_w_in (w := 906) (c := .fieldLink RX10 54 "FlagSignalsModel" "sentOnes" "[I") (by decide +kernel) (by decide +kernel))) (fun _ h9 => h9) rfl hin rfl (by decide +kernel) rfl rfl (Nat.le_of_ble_eq_true rfl) dc_cX10_init_120 (fun H locs hP hD hS => ?_)
  have hP : va_P (fg_D Λ) vwCl [(h0, .inr (10, [.int 0, .int 0, .int 0, .ref q1, .int 0, .ref q2, .ref q3, .ref q4, .int 0, .ref q5, .int 0, .int (-1), .int 0, .int 0, .int 0, .int 0, .int 0, .ref q6, .int 0, .ref q7, .ref q8, .ref q9, .ref q10, .ref q11, .ref q12, .ref q13, .int 0, .ref q14, .null, .null, .int 0, .null, .int 0, .null, .null, .null, .null])), (q1, .inl (Λ.2.1, 10, .inl (fun _ => 0))), (q2, .inl (Λ.2.1, 10, .inl (fun _ => 0))), (q3, .inl (Λ.2.1, 40, .inl (fun _ => 0))), (q4, .inl (Λ.2.1, 61, .inl (fun _ => 0))), (q5, .inl (Λ.2.1, 240, .inl (fun _ => 0))), (q6, .inl (Λ.2.1, 10, .inl (fun _ => 0))), (q7, .inl (Λ.2.1, 10, .inl (fun _ => 0))), (q8, .inl (Λ.2.1, 40, .inl (fun _ => 0))), (q9, .inl (Λ.2.1, 4, .inl (fun _ => 0))), (q10, .inl (Λ.2.2.1, 10, .inl (fun _ => 0))), (q11, .inl (Λ.2.1, 40, .inl (fun _ => 0))), (q12, .inl (Λ.2.2.1, 1024, .inl (fun _ => 0))), (q13, .inl (Λ.2.1, 1024, .inl (fun _ => 0))), (q14, .inl (Λ.2.1, 8, .inl (fun _ => 0)))] H := hP
  have hD : va_D A [(h0, .inr (10, [.int 0, .int 0, .int 0, .ref q1, .int 0, .ref q2, .ref q3, .ref q4, .int 0, .ref q5, .int 0, .int (-1), .int 0, .int 0, .int 0, .int 0, .int 0, .ref q6, .int 0, .ref q7, .ref q8, .ref q9, .ref q10, .ref q11, .ref q12, .ref q13, .int 0, .ref q14, .null, .null, .int 0, .null, .int 0, .null, .null, .null, .null])), (q1, .inl (Λ.2.1, 10, .inl (fun _ => 0))), (q2, .inl (Λ.2.1, 10, .inl (fun _ => 0))), (q3, .inl (Λ.2.1, 40, .inl (fun _ => 0))), (q4, .inl (Λ.2.1, 61, .inl (fun _ => 0))), (q5, .inl (Λ.2.1, 240, .inl (fun _ => 0))), (q6, .inl (Λ.2.1, 10, .inl (fun _ => 0))), (q7, .inl (Λ.2.1, 10, .inl (fun _ => 0))), (q8, .inl (Λ.2.1, 40, .inl (fun _ => 0))), (q9, .inl (Λ.2.1, 4, .inl (fun _ => 0))), (q10, .inl (Λ.2.2.1, 10, .inl (fun _ => 0))), (q11, .inl (Λ.2.1, 40, .inl (fun _ => 0))), (q12, .inl (Λ.2.2.1, 1024, .inl (fun _ => 0))), (q13, .inl (Λ.2.1, 1024, .inl (fun _ => 0))), (q14, .inl (Λ.2.1, 8, .inl (fun _ => 0)))] := hD
  refine lv_aload_n hx hb dc_cX10_init_123 rfl (lv_at hl 0 rfl) ?_
  refine lv_bipush (v := 8) hx hb dc_cX10_init_124 (by decide) ?_
  refine fc_newI (N := 8) hx hb (hts _ (fg_w_in (w := 119) (c := .arrayClass .int) (by decide +kernel) (by decide +kernel))) hK hP hD hS hA (by decide) (by decide) (Nat.le_of_ble_eq_true rfl) (Nat.le_of_ble_eq_true rfl) dc_cX10_init_126 (fun q15 H hP hD hS => ?_)
  refine va_putF (D := fg_D Λ) (ci := 10) (v := .ref q15) (ty := .array .int) (C := RX10) (T := TX10) (N := 37) hx hb hts (fc_lay 10 rfl) tyX10 tyX10_ok nmX10 hown hK hP hD hS 0 rfl rfl 28 (by decide) (hts _ (fg_w_in (w := 907) (c := .fieldLink RX10 57 "FlagSignalsModel" "readOnes" "[I") (by decide +kernel) (by decide +kernel))) (fun _ h9 => h9) rfl hin rfl (by decide +kernel) rfl rfl (Nat.le_of_ble_eq_true rfl) dc_cX10_init_128 (fun H locs hP hD hS => ?_)
  have hP : va_P (fg_D Λ) vwCl [(h0, .inr (10, [.int 0, .int 0, .int 0, .ref q1, .int 0, .ref q2, .ref q3, .ref q4, .int 0, .ref q5, .int 0, .int (-1), .int 0, .int 0, .int 0, .int 0, .int 0, .ref q6, .int 0, .ref q7, .ref q8, .ref q9, .ref q10, .ref q11, .ref q12, .ref q13, .int 0, .ref q14, .ref q15, .null, .int 0, .null, .int 0, .null, .null, .null, .null])), (q1, .inl (Λ.2.1, 10, .inl (fun _ => 0))), (q2, .inl (Λ.2.1, 10, .inl (fun _ => 0))), (q3, .inl (Λ.2.1, 40, .inl (fun _ => 0))), (q4, .inl (Λ.2.1, 61, .inl (fun _ => 0))), (q5, .inl (Λ.2.1, 240, .inl (fun _ => 0))), (q6, .inl (Λ.2.1, 10, .inl (fun _ => 0))), (q7, .inl (Λ.2.1, 10, .inl (fun _ => 0))), (q8, .inl (Λ.2.1, 40, .inl (fun _ => 0))), (q9, .inl (Λ.2.1, 4, .inl (fun _ => 0))), (q10, .inl (Λ.2.2.1, 10, .inl (fun _ => 0))), (q11, .inl (Λ.2.1, 40, .inl (fun _ => 0))), (q12, .inl (Λ.2.2.1, 1024, .inl (fun _ => 0))), (q13, .inl (Λ.2.1, 1024, .inl (fun _ => 0))), (q14, .inl (Λ.2.1, 8, .inl (fun _ => 0))), (q15, .inl (Λ.2.1, 8, .inl (fun _ => 0)))] H := hP
  have hD : va_D A [(h0, .inr (10, [.int 0, .int 0, .int 0, .ref q1, .int 0, .ref q2, .ref q3, .ref q4, .int 0, .ref q5, .int 0, .int (-1), .int 0, .int 0, .int 0, .int 0, .int 0, .ref q6, .int 0, .ref q7, .ref q8, .ref q9, .ref q10, .ref q11, .ref q12, .ref q13, .int 0, .ref q14, .ref q15, .null, .int 0, .null, .int 0, .null, .null, .null, .null])), (q1, .inl (Λ.2.1, 10, .inl (fun _ => 0))), (q2, .inl (Λ.2.1, 10, .inl (fun _ => 0))), (q3, .inl (Λ.2.1, 40, .inl (fun _ => 0))), (q4, .inl (Λ.2.1, 61, .inl (fun _ => 0))), (q5, .inl (Λ.2.1, 240, .inl (fun _ => 0))), (q6, .inl (Λ.2.1, 10, .inl (fun _ => 0))), (q7, .inl (Λ.2.1, 10, .inl (fun _ => 0))), (q8, .inl (Λ.2.1, 40, .inl (fun _ => 0))), (q9, .inl (Λ.2.1, 4, .inl (fun _ => 0))), (q10, .inl (Λ.2.2.1, 10, .inl (fun _ => 0))), (q11, .inl (Λ.2.1, 40, .inl (fun _ => 0))), (q12, .inl (Λ.2.2.1, 1024, .inl (fun _ => 0))), (q13, .inl (Λ.2.1, 1024, .inl (fun _ => 0))), (q14, .inl (Λ.2.1, 8, .inl (fun _ => 0))), (q15, .inl (Λ.2.1, 8, .inl (fun _ => 0)))] := hD
  refine lv_aload_n hx hb dc_cX10_init_131 rfl (lv_at hl 0 rfl) ?_
  refine lv_bipush (v := 60) hx hb dc_cX10_init_132 (by decide) ?_
  refine fc_newI (N := 60) hx hb (hts _ (fg_w_in (w := 119) (c := .arrayClass .int) (by decide +kernel) (by decide +kernel))) hK hP hD hS hA (by decide) (by decide) (Nat.le_of_ble_eq_true rfl) (Nat.le_of_ble_eq_true rfl) dc_cX10_init_134 (fun q16 H hP hD hS => ?_)
  refine va_putF (D := fg_D Λ) (ci := 10) (v := .ref q16) (ty := .array .int) (C := RX10) (T := TX10) (N := 37) hx hb hts (fc_lay 10 rfl) tyX10 tyX10_ok nmX10 hown hK hP hD hS 0 rfl rfl 29 (by decide) (hts _ (fg_w_in (w := 908) (c := .fieldLink RX10 60 "FlagSignalsModel" "likes" "[I") (by decide +kernel) (by decide +kernel))) (fun _ h9 => h9) rfl hin rfl (by decide +kernel) rfl rfl (Nat.le_of_ble_eq_true rfl) dc_cX10_init_136 (fun H locs hP hD hS => ?_)
  have hP : va_P (fg_D Λ) vwCl [(h0, .inr (10, [.int 0, .int 0, .int 0, .ref q1, .int 0, .ref q2, .ref q3, .ref q4, .int 0, .ref q5, .int 0, .int (-1), .int 0, .int 0, .int 0, .int 0, .int 0, .ref q6, .int 0, .ref q7, .ref q8, .ref q9, .ref q10, .ref q11, .ref q12, .ref q13, .int 0, .ref q14, .ref q15, .ref q16, .int 0, .null, .int 0, .null, .null, .null, .null])), (q1, .inl (Λ.2.1, 10, .inl (fun _ => 0))), (q2, .inl (Λ.2.1, 10, .inl (fun _ => 0))), (q3, .inl (Λ.2.1, 40, .inl (fun _ => 0))), (q4, .inl (Λ.2.1, 61, .inl (fun _ => 0))), (q5, .inl (Λ.2.1, 240, .inl (fun _ => 0))), (q6, .inl (Λ.2.1, 10, .inl (fun _ => 0))), (q7, .inl (Λ.2.1, 10, .inl (fun _ => 0))), (q8, .inl (Λ.2.1, 40, .inl (fun _ => 0))), (q9, .inl (Λ.2.1, 4, .inl (fun _ => 0))), (q10, .inl (Λ.2.2.1, 10, .inl (fun _ => 0))), (q11, .inl (Λ.2.1, 40, .inl (fun _ => 0))), (q12, .inl (Λ.2.2.1, 1024, .inl (fun _ => 0))), (q13, .inl (Λ.2.1, 1024, .inl (fun _ => 0))), (q14, .inl (Λ.2.1, 8, .inl (fun _ => 0))), (q15, .inl (Λ.2.1, 8, .inl (fun _ => 0))), (q16, .inl (Λ.2.1, 60, .inl (fun _ => 0)))] H := hP
  have hD : va_D A [(h0, .inr (10, [.int 0, .int 0, .int 0, .ref q1, .int 0, .ref q2, .ref q3, .ref q4, .int 0, .ref q5, .int 0, .int (-1), .int 0, .int 0, .int 0, .int 0, .int 0, .ref q6, .int 0, .ref q7, .ref q8, .ref q9, .ref q10, .ref q11, .ref q12, .ref q13, .int 0, .ref q14, .ref q15, .ref q16, .int 0, .null, .int 0, .null, .null, .null, .null])), (q1, .inl (Λ.2.1, 10, .inl (fun _ => 0))), (q2, .inl (Λ.2.1, 10, .inl (fun _ => 0))), (q3, .inl (Λ.2.1, 40, .inl (fun _ => 0))), (q4, .inl (Λ.2.1, 61, .inl (fun _ => 0))), (q5, .inl (Λ.2.1, 240, .inl (fun _ => 0))), (q6, .inl (Λ.2.1, 10, .inl (fun _ => 0))), (q7, .inl (Λ.2.1, 10, .inl (fun _ => 0))), (q8, .inl (Λ.2.1, 40, .inl (fun _ => 0))), (q9, .inl (Λ.2.1, 4, .inl (fun _ => 0))), (q10, .inl (Λ.2.2.1, 10, .inl (fun _ => 0))), (q11, .inl (Λ.2.1, 40, .inl (fun _ => 0))), (q12, .inl (Λ.2.2.1, 1024, .inl (fun _ => 0))), (q13, .inl (Λ.2.1, 1024, .inl (fun _ => 0))), (q14, .inl (Λ.2.1, 8, .inl (fun _ => 0))), (q15, .inl (Λ.2.1, 8, .inl (fun _ => 0))), (q16, .inl (Λ.2.1, 60, .inl (fun _ => 0)))] := hD
  refine lv_aload_n hx hb dc_cX10_init_139 rfl (lv_at hl 0 rfl) ?_
  refine lv_sipush (v := 976) hx hb dc_cX10_init_140 (by decide) ?_
  refine fc_newI (N := 976) hx hb (hts _ (fg_w_in (w := 119) (c := .arrayClass .int) (by decide +kernel) (by decide +kernel))) hK hP hD hS hA (by decide) (by decide) (Nat.le_of_ble_eq_true rfl) (Nat.le_of_ble_eq_true rfl) dc_cX10_init_143 (fun q17 H hP hD hS => ?_)
  refine va_putF (D := fg_D Λ) (ci := 10) (v := .ref q17) (ty := .array .int) (C := RX10) (T := TX10) (N := 37) hx hb hts (fc_lay 10 rfl) tyX10 tyX10_ok nmX10 hown hK hP hD hS 0 rfl rfl 31 (by decide) (hts _ (fg_w_in (w := 910) (c := .fieldLink RX10 63 "FlagSignalsModel" "past" "[I") (by decide +kernel) (by decide +kernel))) (fun _ h9 => h9) rfl hin rfl (by decide +kernel) rfl rfl (Nat.le_of_ble_eq_true rfl) dc_cX10_init_145 (fun H locs hP hD hS => ?_)
  have hP : va_P (fg_D Λ) vwCl [(h0, .inr (10, [.int 0, .int 0, .int 0, .ref q1, .int 0, .ref q2, .ref q3, .ref q4, .int 0, .ref q5, .int 0, .int (-1), .int 0, .int 0, .int 0, .int 0, .int 0, .ref q6, .int 0, .ref q7, .ref q8, .ref q9, .ref q10, .ref q11, .ref q12, .ref q13, .int 0, .ref q14, .ref q15, .ref q16, .int 0, .ref q17, .int 0, .null, .null, .null, .null])), (q1, .inl (Λ.2.1, 10, .inl (fun _ => 0))), (q2, .inl (Λ.2.1, 10, .inl (fun _ => 0))), (q3, .inl (Λ.2.1, 40, .inl (fun _ => 0))), (q4, .inl (Λ.2.1, 61, .inl (fun _ => 0))), (q5, .inl (Λ.2.1, 240, .inl (fun _ => 0))), (q6, .inl (Λ.2.1, 10, .inl (fun _ => 0))), (q7, .inl (Λ.2.1, 10, .inl (fun _ => 0))), (q8, .inl (Λ.2.1, 40, .inl (fun _ => 0))), (q9, .inl (Λ.2.1, 4, .inl (fun _ => 0))), (q10, .inl (Λ.2.2.1, 10, .inl (fun _ => 0))), (q11, .inl (Λ.2.1, 40, .inl (fun _ => 0))), (q12, .inl (Λ.2.2.1, 1024, .inl (fun _ => 0))), (q13, .inl (Λ.2.1, 1024, .inl (fun _ => 0))), (q14, .inl (Λ.2.1, 8, .inl (fun _ => 0))), (q15, .inl (Λ.2.1, 8, .inl (fun _ => 0))), (q16, .inl (Λ.2.1, 60, .inl (fun _ => 0))), (q17, .inl (Λ.2.1, 976, .inl (fun _ => 0)))] H := hP
  have hD : va_D A [(h0, .inr (10, [.int 0, .int 0, .int 0, .ref q1, .int 0, .ref q2, .ref q3, .ref q4, .int 0, .ref q5, .int 0, .int (-1), .int 0, .int 0, .int 0, .int 0, .int 0, .ref q6, .int 0, .ref q7, .ref q8, .ref q9, .ref q10, .ref q11, .ref q12, .ref q13, .int 0, .ref q14, .ref q15, .ref q16, .int 0, .ref q17, .int 0, .null, .null, .null, .null])), (q1, .inl (Λ.2.1, 10, .inl (fun _ => 0))), (q2, .inl (Λ.2.1, 10, .inl (fun _ => 0))), (q3, .inl (Λ.2.1, 40, .inl (fun _ => 0))), (q4, .inl (Λ.2.1, 61, .inl (fun _ => 0))), (q5, .inl (Λ.2.1, 240, .inl (fun _ => 0))), (q6, .inl (Λ.2.1, 10, .inl (fun _ => 0))), (q7, .inl (Λ.2.1, 10, .inl (fun _ => 0))), (q8, .inl (Λ.2.1, 40, .inl (fun _ => 0))), (q9, .inl (Λ.2.1, 4, .inl (fun _ => 0))), (q10, .inl (Λ.2.2.1, 10, .inl (fun _ => 0))), (q11, .inl (Λ.2.1, 40, .inl (fun _ => 0))), (q12, .inl (Λ.2.2.1, 1024, .inl (fun _ => 0))), (q13, .inl (Λ.2.1, 1024, .inl (fun _ => 0))), (q14, .inl (Λ.2.1, 8, .inl (fun _ => 0))), (q15, .inl (Λ.2.1, 8, .inl (fun _ => 0))), (q16, .inl (Λ.2.1, 60, .inl (fun _ => 0))), (q17, .inl (Λ.2.1, 976, .inl (fun _ => 0)))] := hD
  refine lv_aload_n hx hb dc_cX10_init_148 rfl (lv_at hl 0 rfl) ?_
  refine lv_bipush (v := 15) hx hb dc_cX10_init_149 (by decide) ?_
  refine fc_newI (N := 15) hx hb (hts _ (fg_w_in (w := 119) (c := .arrayClass .int) (by decide +kernel) (by decide +kernel))) hK hP hD hS hA (by decide) (by decide) (Nat.le_of_ble_eq_true rfl) (Nat.le_of_ble_eq_true rfl) dc_cX10_init_151 (fun q18 H hP hD hS => ?_)
  refine va_putF (D := fg_D Λ) (ci := 10) (v := .ref q18) (ty := .array .int) (C := RX10) (T := TX10) (N := 37) hx hb hts (fc_lay 10 rfl) tyX10 tyX10_ok nmX10 hown hK hP hD hS 0 rfl rfl 33 (by decide) (hts _ (fg_w_in (w := 912) (c := .fieldLink RX10 66 "FlagSignalsModel" "bookOf" "[I") (by decide +kernel) (by decide +kernel))) (fun _ h9 => h9) rfl hin rfl (by decide +kernel) rfl rfl (Nat.le_of_ble_eq_true rfl) dc_cX10_init_153 (fun H locs hP hD hS => ?_)
  have hP : va_P (fg_D Λ) vwCl [(h0, .inr (10, [.int 0, .int 0, .int 0, .ref q1, .int 0, .ref q2, .ref q3, .ref q4, .int 0, .ref q5, .int 0, .int (-1), .int 0, .int 0, .int 0, .int 0, .int 0, .ref q6, .int 0, .ref q7, .ref q8, .ref q9, .ref q10, .ref q11, .ref q12, .ref q13, .int 0, .ref q14, .ref q15, .ref q16, .int 0, .ref q17, .int 0, .ref q18, .null, .null, .null])), (q1, .inl (Λ.2.1, 10, .inl (fun _ => 0))), (q2, .inl (Λ.2.1, 10, .inl (fun _ => 0))), (q3, .inl (Λ.2.1, 40, .inl (fun _ => 0))), (q4, .inl (Λ.2.1, 61, .inl (fun _ => 0))), (q5, .inl (Λ.2.1, 240, .inl (fun _ => 0))), (q6, .inl (Λ.2.1, 10, .inl (fun _ => 0))), (q7, .inl (Λ.2.1, 10, .inl (fun _ => 0))), (q8, .inl (Λ.2.1, 40, .inl (fun _ => 0))), (q9, .inl (Λ.2.1, 4, .inl (fun _ => 0))), (q10, .inl (Λ.2.2.1, 10, .inl (fun _ => 0))), (q11, .inl (Λ.2.1, 40, .inl (fun _ => 0))), (q12, .inl (Λ.2.2.1, 1024, .inl (fun _ => 0))), (q13, .inl (Λ.2.1, 1024, .inl (fun _ => 0))), (q14, .inl (Λ.2.1, 8, .inl (fun _ => 0))), (q15, .inl (Λ.2.1, 8, .inl (fun _ => 0))), (q16, .inl (Λ.2.1, 60, .inl (fun _ => 0))), (q17, .inl (Λ.2.1, 976, .inl (fun _ => 0))), (q18, .inl (Λ.2.1, 15, .inl (fun _ => 0)))] H := hP
  have hD : va_D A [(h0, .inr (10, [.int 0, .int 0, .int 0, .ref q1, .int 0, .ref q2, .ref q3, .ref q4, .int 0, .ref q5, .int 0, .int (-1), .int 0, .int 0, .int 0, .int 0, .int 0, .ref q6, .int 0, .ref q7, .ref q8, .ref q9, .ref q10, .ref q11, .ref q12, .ref q13, .int 0, .ref q14, .ref q15, .ref q16, .int 0, .ref q17, .int 0, .ref q18, .null, .null, .null])), (q1, .inl (Λ.2.1, 10, .inl (fun _ => 0))), (q2, .inl (Λ.2.1, 10, .inl (fun _ => 0))), (q3, .inl (Λ.2.1, 40, .inl (fun _ => 0))), (q4, .inl (Λ.2.1, 61, .inl (fun _ => 0))), (q5, .inl (Λ.2.1, 240, .inl (fun _ => 0))), (q6, .inl (Λ.2.1, 10, .inl (fun _ => 0))), (q7, .inl (Λ.2.1, 10, .inl (fun _ => 0))), (q8, .inl (Λ.2.1, 40, .inl (fun _ => 0))), (q9, .inl (Λ.2.1, 4, .inl (fun _ => 0))), (q10, .inl (Λ.2.2.1, 10, .inl (fun _ => 0))), (q11, .inl (Λ.2.1, 40, .inl (fun _ => 0))), (q12, .inl (Λ.2.2.1, 1024, .inl (fun _ => 0))), (q13, .inl (Λ.2.1, 1024, .inl (fun _ => 0))), (q14, .inl (Λ.2.1, 8, .inl (fun _ => 0))), (q15, .inl (Λ.2.1, 8, .inl (fun _ => 0))), (q16, .inl (Λ.2.1, 60, .inl (fun _ => 0))), (q17, .inl (Λ.2.1, 976, .inl (fun _ => 0))), (q18, .inl (Λ.2.1, 15, .inl (fun _ => 0)))] := hD
  refine lv_aload_n hx hb dc_cX10_init_156 rfl (lv_at hl 0 rfl) ?_
  refine lv_bipush (v := 15) hx hb dc_cX10_init_157 (by decide) ?_
  refine fc_newI (N := 15) hx hb (hts _ (fg_w_in (w := 119) (c := .arrayClass .int) (by decide +kernel) (by decide +kernel))) hK hP hD hS hA (by decide) (by decide) (Nat.le_of_ble_eq_true rfl) (Nat.le_of_ble_eq_true rfl) dc_cX10_init_159 (fun q19 H hP hD hS => ?_)
  refine va_putF (D := fg_D Λ) (ci := 10) (v := .ref q19) (ty := .array .int) (C := RX10) (T := TX10) (N := 37) hx hb hts (fc_lay 10 rfl) tyX10 tyX10_ok nmX10 hown hK hP hD hS 0 rfl rfl 34 (by decide) (hts _ (fg_w_in (w := 913) (c := .fieldLink RX10 69 "FlagSignalsModel" "bookIs" "[I") (by decide +kernel) (by decide +kernel))) (fun _ h9 => h9) rfl hin rfl (by decide +kernel) rfl rfl (Nat.le_of_ble_eq_true rfl) dc_cX10_init_161 (fun H locs hP hD hS => ?_)
  have hP : va_P (fg_D Λ) vwCl [(h0, .inr (10, [.int 0, .int 0, .int 0, .ref q1, .int 0, .ref q2, .ref q3, .ref q4, .int 0, .ref q5, .int 0, .int (-1), .int 0, .int 0, .int 0, .int 0, .int 0, .ref q6, .int 0, .ref q7, .ref q8, .ref q9, .ref q10, .ref q11, .ref q12, .ref q13, .int 0, .ref q14, .ref q15, .ref q16, .int 0, .ref q17, .int 0, .ref q18, .ref q19, .null, .null])), (q1, .inl (Λ.2.1, 10, .inl (fun _ => 0))), (q2, .inl (Λ.2.1, 10, .inl (fun _ => 0))), (q3, .inl (Λ.2.1, 40, .inl (fun _ => 0))), (q4, .inl (Λ.2.1, 61, .inl (fun _ => 0))), (q5, .inl (Λ.2.1, 240, .inl (fun _ => 0))), (q6, .inl (Λ.2.1, 10, .inl (fun _ => 0))), (q7, .inl (Λ.2.1, 10, .inl (fun _ => 0))), (q8, .inl (Λ.2.1, 40, .inl (fun _ => 0))), (q9, .inl (Λ.2.1, 4, .inl (fun _ => 0))), (q10, .inl (Λ.2.2.1, 10, .inl (fun _ => 0))), (q11, .inl (Λ.2.1, 40, .inl (fun _ => 0))), (q12, .inl (Λ.2.2.1, 1024, .inl (fun _ => 0))), (q13, .inl (Λ.2.1, 1024, .inl (fun _ => 0))), (q14, .inl (Λ.2.1, 8, .inl (fun _ => 0))), (q15, .inl (Λ.2.1, 8, .inl (fun _ => 0))), (q16, .inl (Λ.2.1, 60, .inl (fun _ => 0))), (q17, .inl (Λ.2.1, 976, .inl (fun _ => 0))), (q18, .inl (Λ.2.1, 15, .inl (fun _ => 0))), (q19, .inl (Λ.2.1, 15, .inl (fun _ => 0)))] H := hP
  have hD : va_D A [(h0, .inr (10, [.int 0, .int 0, .int 0, .ref q1, .int 0, .ref q2, .ref q3, .ref q4, .int 0, .ref q5, .int 0, .int (-1), .int 0, .int 0, .int 0, .int 0, .int 0, .ref q6, .int 0, .ref q7, .ref q8, .ref q9, .ref q10, .ref q11, .ref q12, .ref q13, .int 0, .ref q14, .ref q15, .ref q16, .int 0, .ref q17, .int 0, .ref q18, .ref q19, .null, .null])), (q1, .inl (Λ.2.1, 10, .inl (fun _ => 0))), (q2, .inl (Λ.2.1, 10, .inl (fun _ => 0))), (q3, .inl (Λ.2.1, 40, .inl (fun _ => 0))), (q4, .inl (Λ.2.1, 61, .inl (fun _ => 0))), (q5, .inl (Λ.2.1, 240, .inl (fun _ => 0))), (q6, .inl (Λ.2.1, 10, .inl (fun _ => 0))), (q7, .inl (Λ.2.1, 10, .inl (fun _ => 0))), (q8, .inl (Λ.2.1, 40, .inl (fun _ => 0))), (q9, .inl (Λ.2.1, 4, .inl (fun _ => 0))), (q10, .inl (Λ.2.2.1, 10, .inl (fun _ => 0))), (q11, .inl (Λ.2.1, 40, .inl (fun _ => 0))), (q12, .inl (Λ.2.2.1, 1024, .inl (fun _ => 0))), (q13, .inl (Λ.2.1, 1024, .inl (fun _ => 0))), (q14, .inl (Λ.2.1, 8, .inl (fun _ => 0))), (q15, .inl (Λ.2.1, 8, .inl (fun _ => 0))), (q16, .inl (Λ.2.1, 60, .inl (fun _ => 0))), (q17, .inl (Λ.2.1, 976, .inl (fun _ => 0))), (q18, .inl (Λ.2.1, 15, .inl (fun _ => 0))), (q19, .inl (Λ.2.1, 15, .inl (fun _ => 0)))] := hD
  refine lv_aload_n hx hb dc_cX10_init_164 rfl (lv_at hl 0 rfl) ?_
  refine lv_bipush (v := 124) hx hb dc_cX10_init_165 (by decide) ?_
  refine fc_newI (N := 124) hx hb (hts _ (fg_w_in (w := 119) (c := .arrayClass .int) (by decide +kernel) (by decide +kernel))) hK hP hD hS hA (by decide) (by decide) (Nat.le_of_ble_eq_true rfl) (Nat.le_of_ble_eq_true rfl) dc_cX10_init_167 (fun q20 H hP hD hS => ?_)
  refine va_putF (D := fg_D Λ) (ci := 10) (v := .ref q20) (ty := .array .int) (C := RX10) (T := TX10) (N := 37) hx hb hts (fc_lay 10 rfl) tyX10 tyX10_ok nmX10 hown hK hP hD hS 0 rfl rfl 35 (by decide) (hts _ (fg_w_in (w := 914) (c := .fieldLink RX10 72 "FlagSignalsModel" "images" "[I") (by decide +kernel) (by decide +kernel))) (fun _ h9 => h9) rfl hin rfl (by decide +kernel) rfl rfl (Nat.le_of_ble_eq_true rfl) dc_cX10_init_169 (fun H locs hP hD hS => ?_)
  have hP : va_P (fg_D Λ) vwCl [(h0, .inr (10, [.int 0, .int 0, .int 0, .ref q1, .int 0, .ref q2, .ref q3, .ref q4, .int 0, .ref q5, .int 0, .int (-1), .int 0, .int 0, .int 0, .int 0, .int 0, .ref q6, .int 0, .ref q7, .ref q8, .ref q9, .ref q10, .ref q11, .ref q12, .ref q13, .int 0, .ref q14, .ref q15, .ref q16, .int 0, .ref q17, .int 0, .ref q18, .ref q19, .ref q20, .null])), (q1, .inl (Λ.2.1, 10, .inl (fun _ => 0))), (q2, .inl (Λ.2.1, 10, .inl (fun _ => 0))), (q3, .inl (Λ.2.1, 40, .inl (fun _ => 0))), (q4, .inl (Λ.2.1, 61, .inl (fun _ => 0))), (q5, .inl (Λ.2.1, 240, .inl (fun _ => 0))), (q6, .inl (Λ.2.1, 10, .inl (fun _ => 0))), (q7, .inl (Λ.2.1, 10, .inl (fun _ => 0))), (q8, .inl (Λ.2.1, 40, .inl (fun _ => 0))), (q9, .inl (Λ.2.1, 4, .inl (fun _ => 0))), (q10, .inl (Λ.2.2.1, 10, .inl (fun _ => 0))), (q11, .inl (Λ.2.1, 40, .inl (fun _ => 0))), (q12, .inl (Λ.2.2.1, 1024, .inl (fun _ => 0))), (q13, .inl (Λ.2.1, 1024, .inl (fun _ => 0))), (q14, .inl (Λ.2.1, 8, .inl (fun _ => 0))), (q15, .inl (Λ.2.1, 8, .inl (fun _ => 0))), (q16, .inl (Λ.2.1, 60, .inl (fun _ => 0))), (q17, .inl (Λ.2.1, 976, .inl (fun _ => 0))), (q18, .inl (Λ.2.1, 15, .inl (fun _ => 0))), (q19, .inl (Λ.2.1, 15, .inl (fun _ => 0))), (q20, .inl (Λ.2.1, 124, .inl (fun _ => 0)))] H := hP
  have hD : va_D A [(h0, .inr (10, [.int 0, .int 0, .int 0, .ref q1, .int 0, .ref q2, .ref q3, .ref q4, .int 0, .ref q5, .int 0, .int (-1), .int 0, .int 0, .int 0, .int 0, .int 0, .ref q6, .int 0, .ref q7, .ref q8, .ref q9, .ref q10, .ref q11, .ref q12, .ref q13, .int 0, .ref q14, .ref q15, .ref q16, .int 0, .ref q17, .int 0, .ref q18, .ref q19, .ref q20, .null])), (q1, .inl (Λ.2.1, 10, .inl (fun _ => 0))), (q2, .inl (Λ.2.1, 10, .inl (fun _ => 0))), (q3, .inl (Λ.2.1, 40, .inl (fun _ => 0))), (q4, .inl (Λ.2.1, 61, .inl (fun _ => 0))), (q5, .inl (Λ.2.1, 240, .inl (fun _ => 0))), (q6, .inl (Λ.2.1, 10, .inl (fun _ => 0))), (q7, .inl (Λ.2.1, 10, .inl (fun _ => 0))), (q8, .inl (Λ.2.1, 40, .inl (fun _ => 0))), (q9, .inl (Λ.2.1, 4, .inl (fun _ => 0))), (q10, .inl (Λ.2.2.1, 10, .inl (fun _ => 0))), (q11, .inl (Λ.2.1, 40, .inl (fun _ => 0))), (q12, .inl (Λ.2.2.1, 1024, .inl (fun _ => 0))), (q13, .inl (Λ.2.1, 1024, .inl (fun _ => 0))), (q14, .inl (Λ.2.1, 8, .inl (fun _ => 0))), (q15, .inl (Λ.2.1, 8, .inl (fun _ => 0))), (q16, .inl (Λ.2.1, 60, .inl (fun _ => 0))), (q17, .inl (Λ.2.1, 976, .inl (fun _ => 0))), (q18, .inl (Λ.2.1, 15, .inl (fun _ => 0))), (q19, .inl (Λ.2.1, 15, .inl (fun _ => 0))), (q20, .inl (Λ.2.1, 124, .inl (fun _ => 0)))] := hD
  refine lv_aload_n hx hb dc_cX10_init_172 rfl (lv_at hl 0 rfl) ?_
  refine lv_iconst (v := 2) hx hb dc_cX10_init_173 (by decide) ?_
  refine fc_newZ (N := 2) hx hb (hts _ (fg_w_in (w := 327) (c := .arrayClass .boolean) (by decide +kernel) (by decide +kernel))) hK hP hD hS hA (by decide) (by decide) (Nat.le_of_ble_eq_true rfl) (Nat.le_of_ble_eq_true rfl) dc_cX10_init_174 (fun q21 H hP hD hS => ?_)
  refine va_putF (D := fg_D Λ) (ci := 10) (v := .ref q21) (ty := .array .boolean) (C := RX10) (T := TX10) (N := 37) hx hb hts (fc_lay 10 rfl) tyX10 tyX10_ok nmX10 hown hK hP hD hS 0 rfl rfl 36 (by decide) (hts _ (fg_w_in (w := 915) (c := .fieldLink RX10 75 "FlagSignalsModel" "isKept" "[Z") (by decide +kernel) (by decide +kernel))) (fun _ h9 => h9) rfl hin rfl (by decide +kernel) rfl rfl (Nat.le_of_ble_eq_true rfl) dc_cX10_init_176 (fun H locs hP hD hS => ?_)
  have hP : va_P (fg_D Λ) vwCl [(h0, .inr (10, [.int 0, .int 0, .int 0, .ref q1, .int 0, .ref q2, .ref q3, .ref q4, .int 0, .ref q5, .int 0, .int (-1), .int 0, .int 0, .int 0, .int 0, .int 0, .ref q6, .int 0, .ref q7, .ref q8, .ref q9, .ref q10, .ref q11, .ref q12, .ref q13, .int 0, .ref q14, .ref q15, .ref q16, .int 0, .ref q17, .int 0, .ref q18, .ref q19, .ref q20, .ref q21])), (q1, .inl (Λ.2.1, 10, .inl (fun _ => 0))), (q2, .inl (Λ.2.1, 10, .inl (fun _ => 0))), (q3, .inl (Λ.2.1, 40, .inl (fun _ => 0))), (q4, .inl (Λ.2.1, 61, .inl (fun _ => 0))), (q5, .inl (Λ.2.1, 240, .inl (fun _ => 0))), (q6, .inl (Λ.2.1, 10, .inl (fun _ => 0))), (q7, .inl (Λ.2.1, 10, .inl (fun _ => 0))), (q8, .inl (Λ.2.1, 40, .inl (fun _ => 0))), (q9, .inl (Λ.2.1, 4, .inl (fun _ => 0))), (q10, .inl (Λ.2.2.1, 10, .inl (fun _ => 0))), (q11, .inl (Λ.2.1, 40, .inl (fun _ => 0))), (q12, .inl (Λ.2.2.1, 1024, .inl (fun _ => 0))), (q13, .inl (Λ.2.1, 1024, .inl (fun _ => 0))), (q14, .inl (Λ.2.1, 8, .inl (fun _ => 0))), (q15, .inl (Λ.2.1, 8, .inl (fun _ => 0))), (q16, .inl (Λ.2.1, 60, .inl (fun _ => 0))), (q17, .inl (Λ.2.1, 976, .inl (fun _ => 0))), (q18, .inl (Λ.2.1, 15, .inl (fun _ => 0))), (q19, .inl (Λ.2.1, 15, .inl (fun _ => 0))), (q20, .inl (Λ.2.1, 124, .inl (fun _ => 0))), (q21, .inl (Λ.2.2.1, 2, .inl (fun _ => 0)))] H := hP
  have hD : va_D A [(h0, .inr (10, [.int 0, .int 0, .int 0, .ref q1, .int 0, .ref q2, .ref q3, .ref q4, .int 0, .ref q5, .int 0, .int (-1), .int 0, .int 0, .int 0, .int 0, .int 0, .ref q6, .int 0, .ref q7, .ref q8, .ref q9, .ref q10, .ref q11, .ref q12, .ref q13, .int 0, .ref q14, .ref q15, .ref q16, .int 0, .ref q17, .int 0, .ref q18, .ref q19, .ref q20, .ref q21])), (q1, .inl (Λ.2.1, 10, .inl (fun _ => 0))), (q2, .inl (Λ.2.1, 10, .inl (fun _ => 0))), (q3, .inl (Λ.2.1, 40, .inl (fun _ => 0))), (q4, .inl (Λ.2.1, 61, .inl (fun _ => 0))), (q5, .inl (Λ.2.1, 240, .inl (fun _ => 0))), (q6, .inl (Λ.2.1, 10, .inl (fun _ => 0))), (q7, .inl (Λ.2.1, 10, .inl (fun _ => 0))), (q8, .inl (Λ.2.1, 40, .inl (fun _ => 0))), (q9, .inl (Λ.2.1, 4, .inl (fun _ => 0))), (q10, .inl (Λ.2.2.1, 10, .inl (fun _ => 0))), (q11, .inl (Λ.2.1, 40, .inl (fun _ => 0))), (q12, .inl (Λ.2.2.1, 1024, .inl (fun _ => 0))), (q13, .inl (Λ.2.1, 1024, .inl (fun _ => 0))), (q14, .inl (Λ.2.1, 8, .inl (fun _ => 0))), (q15, .inl (Λ.2.1, 8, .inl (fun _ => 0))), (q16, .inl (Λ.2.1, 60, .inl (fun _ => 0))), (q17, .inl (Λ.2.1, 976, .inl (fun _ => 0))), (q18, .inl (Λ.2.1, 15, .inl (fun _ => 0))), (q19, .inl (Λ.2.1, 15, .inl (fun _ => 0))), (q20, .inl (Λ.2.1, 124, .inl (fun _ => 0))), (q21, .inl (Λ.2.2.1, 2, .inl (fun _ => 0)))] := hD
  refine lv_aload_n hx hb dc_cX10_init_179 rfl (lv_at hl 0 rfl) ?_
  refine lv_iconst (v := 0) hx hb dc_cX10_init_180 (by decide) ?_
  refine va_put (D := fg_D Λ) (ci := 10) (v := .int 0) (ty := .int) (C := RX10) (T := TX10) (N := 37) hx hb hts (fc_lay 10 rfl) tyX10 tyX10_ok nmX10 hown hK hP hD hS 0 rfl rfl 0 (by decide) (hts _ (fg_w_in (w := 879) (c := .fieldLink RX10 78 "FlagSignalsModel" "lines" "I") (by decide +kernel) (by decide +kernel))) (fun _ h9 => h9) rfl (by decide +kernel) rfl rfl (Nat.le_of_ble_eq_true rfl) dc_cX10_init_181 (fun H locs hP hD hS => ?_)
  have hP : va_P (fg_D Λ) vwCl [(h0, .inr (10, [.int 0, .int 0, .int 0, .ref q1, .int 0, .ref q2, .ref q3, .ref q4, .int 0, .ref q5, .int 0, .int (-1), .int 0, .int 0, .int 0, .int 0, .int 0, .ref q6, .int 0, .ref q7, .ref q8, .ref q9, .ref q10, .ref q11, .ref q12, .ref q13, .int 0, .ref q14, .ref q15, .ref q16, .int 0, .ref q17, .int 0, .ref q18, .ref q19, .ref q20, .ref q21])), (q1, .inl (Λ.2.1, 10, .inl (fun _ => 0))), (q2, .inl (Λ.2.1, 10, .inl (fun _ => 0))), (q3, .inl (Λ.2.1, 40, .inl (fun _ => 0))), (q4, .inl (Λ.2.1, 61, .inl (fun _ => 0))), (q5, .inl (Λ.2.1, 240, .inl (fun _ => 0))), (q6, .inl (Λ.2.1, 10, .inl (fun _ => 0))), (q7, .inl (Λ.2.1, 10, .inl (fun _ => 0))), (q8, .inl (Λ.2.1, 40, .inl (fun _ => 0))), (q9, .inl (Λ.2.1, 4, .inl (fun _ => 0))), (q10, .inl (Λ.2.2.1, 10, .inl (fun _ => 0))), (q11, .inl (Λ.2.1, 40, .inl (fun _ => 0))), (q12, .inl (Λ.2.2.1, 1024, .inl (fun _ => 0))), (q13, .inl (Λ.2.1, 1024, .inl (fun _ => 0))), (q14, .inl (Λ.2.1, 8, .inl (fun _ => 0))), (q15, .inl (Λ.2.1, 8, .inl (fun _ => 0))), (q16, .inl (Λ.2.1, 60, .inl (fun _ => 0))), (q17, .inl (Λ.2.1, 976, .inl (fun _ => 0))), (q18, .inl (Λ.2.1, 15, .inl (fun _ => 0))), (q19, .inl (Λ.2.1, 15, .inl (fun _ => 0))), (q20, .inl (Λ.2.1, 124, .inl (fun _ => 0))), (q21, .inl (Λ.2.2.1, 2, .inl (fun _ => 0)))] H := hP
  have hD : va_D A [(h0, .inr (10, [.int 0, .int 0, .int 0, .ref q1, .int 0, .ref q2, .ref q3, .ref q4, .int 0, .ref q5, .int 0, .int (-1), .int 0, .int 0, .int 0, .int 0, .int 0, .ref q6, .int 0, .ref q7, .ref q8, .ref q9, .ref q10, .ref q11, .ref q12, .ref q13, .int 0, .ref q14, .ref q15, .ref q16, .int 0, .ref q17, .int 0, .ref q18, .ref q19, .ref q20, .ref q21])), (q1, .inl (Λ.2.1, 10, .inl (fun _ => 0))), (q2, .inl (Λ.2.1, 10, .inl (fun _ => 0))), (q3, .inl (Λ.2.1, 40, .inl (fun _ => 0))), (q4, .inl (Λ.2.1, 61, .inl (fun _ => 0))), (q5, .inl (Λ.2.1, 240, .inl (fun _ => 0))), (q6, .inl (Λ.2.1, 10, .inl (fun _ => 0))), (q7, .inl (Λ.2.1, 10, .inl (fun _ => 0))), (q8, .inl (Λ.2.1, 40, .inl (fun _ => 0))), (q9, .inl (Λ.2.1, 4, .inl (fun _ => 0))), (q10, .inl (Λ.2.2.1, 10, .inl (fun _ => 0))), (q11, .inl (Λ.2.1, 40, .inl (fun _ => 0))), (q12, .inl (Λ.2.2.1, 1024, .inl (fun _ => 0))), (q13, .inl (Λ.2.1, 1024, .inl (fun _ => 0))), (q14, .inl (Λ.2.1, 8, .inl (fun _ => 0))), (q15, .inl (Λ.2.1, 8, .inl (fun _ => 0))), (q16, .inl (Λ.2.1, 60, .inl (fun _ => 0))), (q17, .inl (Λ.2.1, 976, .inl (fun _ => 0))), (q18, .inl (Λ.2.1, 15, .inl (fun _ => 0))), (q19, .inl (Λ.2.1, 15, .inl (fun _ => 0))), (q20, .inl (Λ.2.1, 124, .inl (fun _ => 0))), (q21, .inl (Λ.2.2.1, 2, .inl (fun _ => 0)))] := hD
  exact W.vret hx hb hr (fun t ht hW => ⟨⟨[(h0, .inr (10, [.int 0, .int 0, .int 0, .ref q1, .int 0, .ref q2, .ref q3, .ref q4, .int 0, .ref q5, .int 0, .int (-1), .int 0, .int 0, .int 0, .int 0, .int 0, .ref q6, .int 0, .ref q7, .ref q8, .ref q9, .ref q10, .ref q11, .ref q12, .ref q13, .int 0, .ref q14, .ref q15, .ref q16, .int 0, .ref q17, .int 0, .ref q18, .ref q19, .ref q20, .ref q21])), (q1, .inl (Λ.2.1, 10, .inl (fun _ => 0))), (q2, .inl (Λ.2.1, 10, .inl (fun _ => 0))), (q3, .inl (Λ.2.1, 40, .inl (fun _ => 0))), (q4, .inl (Λ.2.1, 61, .inl (fun _ => 0))), (q5, .inl (Λ.2.1, 240, .inl (fun _ => 0))), (q6, .inl (Λ.2.1, 10, .inl (fun _ => 0))), (q7, .inl (Λ.2.1, 10, .inl (fun _ => 0))), (q8, .inl (Λ.2.1, 40, .inl (fun _ => 0))), (q9, .inl (Λ.2.1, 4, .inl (fun _ => 0))), (q10, .inl (Λ.2.2.1, 10, .inl (fun _ => 0))), (q11, .inl (Λ.2.1, 40, .inl (fun _ => 0))), (q12, .inl (Λ.2.2.1, 1024, .inl (fun _ => 0))), (q13, .inl (Λ.2.1, 1024, .inl (fun _ => 0))), (q14, .inl (Λ.2.1, 8, .inl (fun _ => 0))), (q15, .inl (Λ.2.1, 8, .inl (fun _ => 0))), (q16, .inl (Λ.2.1, 60, .inl (fun _ => 0))), (q17, .inl (Λ.2.1, 976, .inl (fun _ => 0))), (q18, .inl (Λ.2.1, 15, .inl (fun _ => 0))), (q19, .inl (Λ.2.1, 15, .inl (fun _ => 0))), (q20, .inl (Λ.2.1, 124, .inl (fun _ => 0))), (q21, .inl (Λ.2.2.1, 2, .inl (fun _ => 0)))], rfl, ⟨fun k => [0, q1, q2, q3, q4, q5, q6, q7, q8, q9, q10, q11, q12, q13, q14, q15, q16, q17, q18, q19, q20, q21].getD k 0, rfl⟩, by rw [ht]; exact hP, hD⟩, hS.F ht⟩) hS.2.2 dc_cX10_init_184
