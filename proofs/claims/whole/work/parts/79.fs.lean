/-! THE CONSTRUCTOR OF FlagSignals (laid by wip/whole/gen79.py) -/
theorem dc_cX9_init_0 : decode cX9_init 0 = .ok (.aload_n 0, 1) := by decide +kernel
theorem dc_cX9_init_1 : decode cX9_init 1 = .ok (.invokespecial 3, 3) := by decide +kernel
theorem dc_cX9_init_4 : decode cX9_init 4 = .ok (.aload_n 0, 1) := by decide +kernel
theorem dc_cX9_init_5 : decode cX9_init 5 = .ok (.new 9, 3) := by decide +kernel
theorem dc_cX9_init_8 : decode cX9_init 8 = .ok (.dup, 1) := by decide +kernel
theorem dc_cX9_init_9 : decode cX9_init 9 = .ok (.invokespecial 11, 3) := by decide +kernel
theorem dc_cX9_init_12 : decode cX9_init 12 = .ok (.putfield 12, 3) := by decide +kernel
theorem dc_cX9_init_15 : decode cX9_init 15 = .ok (.aload_n 0, 1) := by decide +kernel
theorem dc_cX9_init_16 : decode cX9_init 16 = .ok (.new 16, 3) := by decide +kernel
theorem dc_cX9_init_19 : decode cX9_init 19 = .ok (.dup, 1) := by decide +kernel
theorem dc_cX9_init_20 : decode cX9_init 20 = .ok (.invokespecial 18, 3) := by decide +kernel
theorem dc_cX9_init_23 : decode cX9_init 23 = .ok (.putfield 19, 3) := by decide +kernel
theorem dc_cX9_init_26 : decode cX9_init 26 = .ok (.aload_n 0, 1) := by decide +kernel
theorem dc_cX9_init_27 : decode cX9_init 27 = .ok (.new 16, 3) := by decide +kernel
theorem dc_cX9_init_30 : decode cX9_init 30 = .ok (.dup, 1) := by decide +kernel
theorem dc_cX9_init_31 : decode cX9_init 31 = .ok (.invokespecial 18, 3) := by decide +kernel
theorem dc_cX9_init_34 : decode cX9_init 34 = .ok (.putfield 23, 3) := by decide +kernel
theorem dc_cX9_init_37 : decode cX9_init 37 = .ok (.aload_n 0, 1) := by decide +kernel
theorem dc_cX9_init_38 : decode cX9_init 38 = .ok (.new 26, 3) := by decide +kernel
theorem dc_cX9_init_41 : decode cX9_init 41 = .ok (.dup, 1) := by decide +kernel
theorem dc_cX9_init_42 : decode cX9_init 42 = .ok (.invokespecial 28, 3) := by decide +kernel
theorem dc_cX9_init_45 : decode cX9_init 45 = .ok (.putfield 29, 3) := by decide +kernel
theorem dc_cX9_init_48 : decode cX9_init 48 = .ok (.aload_n 0, 1) := by decide +kernel
theorem dc_cX9_init_49 : decode cX9_init 49 = .ok (.new 33, 3) := by decide +kernel
theorem dc_cX9_init_52 : decode cX9_init 52 = .ok (.dup, 1) := by decide +kernel
theorem dc_cX9_init_53 : decode cX9_init 53 = .ok (.invokespecial 35, 3) := by decide +kernel
theorem dc_cX9_init_56 : decode cX9_init 56 = .ok (.putfield 36, 3) := by decide +kernel
theorem dc_cX9_init_59 : decode cX9_init 59 = .ok (.aload_n 0, 1) := by decide +kernel
theorem dc_cX9_init_60 : decode cX9_init 60 = .ok (.iconst 2, 1) := by decide +kernel
theorem dc_cX9_init_61 : decode cX9_init 61 = .ok (.anewarray 40, 3) := by decide +kernel
theorem dc_cX9_init_64 : decode cX9_init 64 = .ok (.putfield 42, 3) := by decide +kernel
theorem dc_cX9_init_67 : decode cX9_init 67 = .ok (.aload_n 0, 1) := by decide +kernel
theorem dc_cX9_init_68 : decode cX9_init 68 = .ok (.new 46, 3) := by decide +kernel
theorem dc_cX9_init_71 : decode cX9_init 71 = .ok (.dup, 1) := by decide +kernel
theorem dc_cX9_init_72 : decode cX9_init 72 = .ok (.invokespecial 48, 3) := by decide +kernel
theorem dc_cX9_init_75 : decode cX9_init 75 = .ok (.putfield 49, 3) := by decide +kernel
theorem dc_cX9_init_78 : decode cX9_init 78 = .ok (.aload_n 0, 1) := by decide +kernel
theorem dc_cX9_init_79 : decode cX9_init 79 = .ok (.new 53, 3) := by decide +kernel
theorem dc_cX9_init_82 : decode cX9_init 82 = .ok (.dup, 1) := by decide +kernel
theorem dc_cX9_init_83 : decode cX9_init 83 = .ok (.invokespecial 55, 3) := by decide +kernel
theorem dc_cX9_init_86 : decode cX9_init 86 = .ok (.putfield 56, 3) := by decide +kernel
theorem dc_cX9_init_89 : decode cX9_init 89 = .ok (.aload_n 0, 1) := by decide +kernel
theorem dc_cX9_init_90 : decode cX9_init 90 = .ok (.new 60, 3) := by decide +kernel
theorem dc_cX9_init_93 : decode cX9_init 93 = .ok (.dup, 1) := by decide +kernel
theorem dc_cX9_init_94 : decode cX9_init 94 = .ok (.invokespecial 62, 3) := by decide +kernel
theorem dc_cX9_init_97 : decode cX9_init 97 = .ok (.putfield 63, 3) := by decide +kernel
theorem dc_cX9_init_100 : decode cX9_init 100 = .ok (.aload_n 0, 1) := by decide +kernel
theorem dc_cX9_init_101 : decode cX9_init 101 = .ok (.new 67, 3) := by decide +kernel
theorem dc_cX9_init_104 : decode cX9_init 104 = .ok (.dup, 1) := by decide +kernel
theorem dc_cX9_init_105 : decode cX9_init 105 = .ok (.invokespecial 69, 3) := by decide +kernel
theorem dc_cX9_init_108 : decode cX9_init 108 = .ok (.putfield 70, 3) := by decide +kernel
theorem dc_cX9_init_111 : decode cX9_init 111 = .ok (.aload_n 0, 1) := by decide +kernel
theorem dc_cX9_init_112 : decode cX9_init 112 = .ok (.bipush 60, 2) := by decide +kernel
theorem dc_cX9_init_114 : decode cX9_init 114 = .ok (.newarray .int, 2) := by decide +kernel
theorem dc_cX9_init_116 : decode cX9_init 116 = .ok (.putfield 74, 3) := by decide +kernel
theorem dc_cX9_init_119 : decode cX9_init 119 = .ok (.aload_n 0, 1) := by decide +kernel
theorem dc_cX9_init_120 : decode cX9_init 120 = .ok (.iconst (-1), 1) := by decide +kernel
theorem dc_cX9_init_121 : decode cX9_init 121 = .ok (.putfield 78, 3) := by decide +kernel
theorem dc_cX9_init_124 : decode cX9_init 124 = .ok (.aload_n 0, 1) := by decide +kernel
theorem dc_cX9_init_125 : decode cX9_init 125 = .ok (.iconst 0, 1) := by decide +kernel
theorem dc_cX9_init_126 : decode cX9_init 126 = .ok (.putfield 82, 3) := by decide +kernel
theorem dc_cX9_init_129 : decode cX9_init 129 = .ok (.iconst 0, 1) := by decide +kernel
theorem dc_cX9_init_130 : decode cX9_init 130 = .ok (.istore_n 1, 1) := by decide +kernel
theorem dc_cX9_init_131 : decode cX9_init 131 = .ok (.iload_n 1, 1) := by decide +kernel
theorem dc_cX9_init_132 : decode cX9_init 132 = .ok (.aload_n 0, 1) := by decide +kernel
theorem dc_cX9_init_133 : decode cX9_init 133 = .ok (.getfield 42, 3) := by decide +kernel
theorem dc_cX9_init_136 : decode cX9_init 136 = .ok (.arraylength, 1) := by decide +kernel
theorem dc_cX9_init_137 : decode cX9_init 137 = .ok (.if_icmp .ge 22, 3) := by decide +kernel
theorem dc_cX9_init_140 : decode cX9_init 140 = .ok (.aload_n 0, 1) := by decide +kernel
theorem dc_cX9_init_141 : decode cX9_init 141 = .ok (.getfield 42, 3) := by decide +kernel
theorem dc_cX9_init_144 : decode cX9_init 144 = .ok (.iload_n 1, 1) := by decide +kernel
theorem dc_cX9_init_145 : decode cX9_init 145 = .ok (.new 40, 3) := by decide +kernel
theorem dc_cX9_init_148 : decode cX9_init 148 = .ok (.dup, 1) := by decide +kernel
theorem dc_cX9_init_149 : decode cX9_init 149 = .ok (.invokespecial 85, 3) := by decide +kernel
theorem dc_cX9_init_152 : decode cX9_init 152 = .ok (.aastore, 1) := by decide +kernel
theorem dc_cX9_init_153 : decode cX9_init 153 = .ok (.iinc 1 1, 3) := by decide +kernel
theorem dc_cX9_init_156 : decode cX9_init 156 = .ok (.goto (-25), 3) := by decide +kernel
theorem dc_cX9_init_159 : decode cX9_init 159 = .ok (.aload_n 0, 1) := by decide +kernel
theorem dc_cX9_init_160 : decode cX9_init 160 = .ok (.getfield 29, 3) := by decide +kernel
theorem dc_cX9_init_163 : decode cX9_init 163 = .ok (.aload_n 0, 1) := by decide +kernel
theorem dc_cX9_init_164 : decode cX9_init 164 = .ok (.getfield 19, 3) := by decide +kernel
theorem dc_cX9_init_167 : decode cX9_init 167 = .ok (.invokevirtual 86, 3) := by decide +kernel
theorem dc_cX9_init_170 : decode cX9_init 170 = .ok (.return_, 1) := by decide +kernel
def fc_p9 (Λ : fg_La) (h0 : Nat) (w : va_W) : Prop := ∃ (a : Nat → Nat) (u : fg_St), a 0 = h0 ∧ fh_inj (a, Λ.2) ∧ fg_sm (fg_pH 15) fc_s0 u ∧ fg_DkX u 15 (fg_S1 0 0).1 (fg_w0 (fg_S1 0 0)) ∧ w = fh_ws (a, Λ.2) u
theorem fc_len_s {dl : List (Nat × (Nat → Nat))} {n : Nat} (h : dl.length = n + 1) : ∃ d t, dl = d :: t ∧ t.length = n := by
  cases dl with
  | nil => cases h
  | cons d t => exact ⟨d, t, rfl, by simpa using h⟩
theorem fc_assoc (A1 A2 A3 A4 K B1 B2 B3 B4 B5 B6 B7 : va_W) (p1 p2 : Nat × va_E) : ((((((((((([] ++ A1) ++ A2) ++ A3) ++ A4) ++ (p1 :: p2 :: K)) ++ B1) ++ B2) ++ B3) ++ B4) ++ B5) ++ B6) ++ B7 = (((((A1 ++ A2) ++ A3) ++ A4) ++ [p1, p2]) ++ K) ++ ((((((B1 ++ B2) ++ B3) ++ B4) ++ B5) ++ B6) ++ B7) := by simp [List.append_assoc]
theorem fc_perm {D : va_G} {cl : List vw_C} {H : Heap} {A : Nat → Prop} {x y : Nat × va_E} {P K B : va_W} (h : va_P D cl (x :: y :: ((P ++ K) ++ B)) H) (d : va_D A (x :: y :: ((P ++ K) ++ B))) : va_P D cl (((([x] ++ P) ++ [y]) ++ B) ++ K) H ∧ va_D A (((([x] ++ P) ++ [y]) ++ B) ++ K) := by
  have e1 : x :: y :: ((P ++ K) ++ B) = ([x] ++ [y]) ++ ((P ++ K) ++ B) := rfl
  have e2 : ([x] ++ ((P ++ K) ++ B)) ++ [y] = (([x] ++ P) ++ (K ++ B)) ++ [y] := by simp [List.append_assoc]
  have e3 : (([x] ++ P) ++ [y]) ++ (K ++ B) = ((([x] ++ P) ++ [y]) ++ K) ++ B := by simp [List.append_assoc]
  rw [e1] at h d
  have h1 := h.swap
  have d1 := d.swap
  rw [e2] at h1 d1
  have h2 := h1.swap
  have d2 := d1.swap
  rw [e3] at h2 d2
  exact ⟨h2.swap, d2.swap⟩
theorem fc_DS0 : fg_DS fc_s0 3 (fg_S1 0 0) := ⟨⟨⟨rfl, rfl, rfl, rfl⟩, fun e he => absurd he (Nat.not_lt_zero _), fun e he => absurd he (Nat.not_lt_zero _)⟩, fun g hg => absurd hg (Nat.not_lt_zero _)⟩
set_option maxHeartbeats 40000000 in
set_option maxRecDepth 100000 in
theorem fc_init9 (l : Launch) {Λ : fg_La} (h0 sz : Nat) : Met l yX9_init (.code yX9_init cX9_init 2 none :: fg_T) (fc_rm 3 186 4146) (va_Pc [.ref h0] (fc_Pre Λ sz [(h0, .inr (9, [.null, .null, .null, .null, .null, .null, .null, .null, .null, .null, .null, .int 0, .int 0]))])) (va_Qv (fun w : va_W => fc_p9 Λ h0 w) (fc_B Λ (va_A [(h0, .inr (9, [.null, .null, .null, .null, .null, .null, .null, .null, .null, .null, .null, .int 0, .int 0]))] sz)) (va_A [(h0, .inr (9, [.null, .null, .null, .null, .null, .null, .null, .null, .null, .null, .null, .int 0, .int 0]))] sz)) 186 4146 (va_A [(h0, .inr (9, [.null, .null, .null, .null, .null, .null, .null, .null, .null, .null, .null, .int 0, .int 0]))] sz) := by
  refine Met.ofW (cc := cX9_init) (maxL := 2) (ret := none) (by decide) rfl ?_
  intro p e s m args below meth c s₁ B hml hv
  obtain ⟨rfl, hsz, hP, hD0, hE⟩ := hv
  have hx := B.exec
  have hb := B.bytes
  have hr := B.returns
  have hts0 := atoms_spec (ws := .code yX9_init cX9_init 2 none :: fg_T) B.pre
  have hts : ∀ w ∈ fg_T, w.before (([.ref h0] : List Value).toArray) s = true := fun w hw => hts0 w (List.mem_cons_of_mem _ hw)
  have hown : s.vm.findClass RX9 = some m.cls := findClass_of_methodNamed B.named
  have hlocks := B.notSynchronized
  have hin : meth.name = "<init>" := (name_of_methodNamed B.named B.method).1
  subst hsz
  have hD := hD0.self (sz := s.heap.size)
  generalize hAe : va_A [(h0, .inr (9, [.null, .null, .null, .null, .null, .null, .null, .null, .null, .null, .null, .int 0, .int 0]))] s.heap.size = A at hD ⊢
  have hA : ∀ q : Nat, s.heap.size ≤ q → A q := fun q h => by rw [← hAe]; exact Or.inr h
  have hS : va_S A s.heap s.heap [] := va_S.rf
  have hK := hE.1.1
  have hP : va_P (fg_D Λ) vwCl [(h0, .inr (9, [.null, .null, .null, .null, .null, .null, .null, .null, .null, .null, .null, .int 0, .int 0]))] s.heap := hP
  have hl := lv_entry ([.ref h0]) (n := 2) (Nat.le_of_ble_eq_true rfl)
  rw [lg_entry_eq]
  generalize (lg_sl ([.ref h0]) ++ List.replicate (2 - (lg_sl ([.ref h0])).length) Slot.unset).toArray = ls at hl ⊢
  have hl : lv_has ls 2 [(0, .ref h0)] := hl
  refine lv_aload_n hx hb dc_cX9_init_0 rfl (lv_at hl 0 rfl) ?_
  refine W.objInit hx hb hown (hts _ (fg_w_in (w := 92) (c := .methodLink RX9 3 objectInit) (by decide +kernel) (by decide +kernel))) (hts _ (fg_w_in (w := 93) (c := .instanceMethod objectInit) (by decide +kernel) (by decide +kernel))) (hts _ (fg_w_in (w := 94) (c := .code objectInit ⟨#[0xb1]⟩ 1 none) (by decide +kernel) (by decide +kernel))) rfl (by rw [hml]; exact hl.1) rfl dc_cX9_init_1 (Nat.le_of_ble_eq_true rfl) (Nat.le_of_ble_eq_true rfl) ?_
  refine W.eq (g2 := F0 m 4 ls []) rfl ?_
  refine lv_aload_n hx hb dc_cX9_init_4 rfl (lv_at hl 0 rfl) ?_
  refine fc_sub (host := "FlagSignals") (C := "FlagSignals$Text") (T := TX7) (N := 5) (ci := 7) (k := 1) (mc := 1) (ms := 240) (fs := [.null, .int 0, .int 0, .int 0, .int 0]) (post := fc_p7 Λ) ⟨hx, hb, hml, hown, hts⟩ hE hP hD hS hA rfl tyX7 tyX7_ok (by decide) (hts _ (fg_w_in (w := 95) (c := .classLink RX9 9 "FlagSignals$Text") (by decide +kernel) (by decide +kernel))) (hts _ (fg_w_in (w := 96) (c := .instantiable "FlagSignals$Text" 5) (by decide +kernel) (by decide +kernel))) (hts _ (fg_w_in (w := 74) (c := .initialized "FlagSignals$Text") (by decide +kernel) (by decide +kernel))) (fun h0 sz => fc_init7 l h0 sz) ⟨Or.inl (va_cnB (host := "FlagSignals") 0 hts (fc_good (fg_w_in (w := 99) (c := .code yX7_init cX7_init 1 none) (by decide +kernel) (by decide +kernel))) rfl rfl rfl (hE.2.1 _ (List.mem_of_getElem? (i := 0) rfl)) (hts _ (fg_w_in (w := 74) (c := .initialized "FlagSignals$Text") (by decide +kernel) (by decide +kernel))) ⟨by decide, by decide, rfl⟩ ⟨Nat.le_of_ble_eq_true rfl, Nat.le_of_ble_eq_true rfl⟩), rfl, (hts _ (fg_w_in (w := 98) (c := .instanceMethod yX7_init) (by decide +kernel) (by decide +kernel)))⟩ hl.1 (Nat.le_of_ble_eq_true rfl) (Nat.le_of_ble_eq_true rfl) (Nat.le_of_ble_eq_true rfl) dc_cX9_init_5 dc_cX9_init_8 dc_cX9_init_9 (fun q1 w1 H locs hw1 hP hD hS => ?_)
  obtain ⟨r1, rfl⟩ := hw1
  obtain ⟨T1, eT1⟩ : ∃ T : va_W, T = ([] : va_W) ++ fc_W7 Λ q1 r1 := ⟨_, rfl⟩
  have hP : va_P (fg_D Λ) vwCl ((h0, .inr (9, [.null, .null, .null, .null, .null, .null, .null, .null, .null, .null, .null, .int 0, .int 0])) :: T1) H := by rw [eT1]; exact hP
  have hD : va_D A ((h0, .inr (9, [.null, .null, .null, .null, .null, .null, .null, .null, .null, .null, .null, .int 0, .int 0])) :: T1) := by rw [eT1]; exact hD
  refine va_putF (D := fg_D Λ) (ci := 9) (v := .ref q1) (ty := .object "FlagSignals$Text") (C := RX9) (T := TX9) (N := 13) hx hb hts (fc_lay 9 rfl) tyX9 tyX9_ok nmX9 hown hK hP hD hS 0 rfl rfl 0 (by decide) (hts _ (fg_w_in (w := 360) (c := .fieldLink RX9 12 "FlagSignals" "text" "LFlagSignals$Text;") (by decide +kernel) (by decide +kernel))) (fun _ h9 => h9) rfl hin rfl (by decide +kernel) rfl rfl (Nat.le_of_ble_eq_true rfl) dc_cX9_init_12 (fun H locs hP hD hS => ?_)
  have hP : va_P (fg_D Λ) vwCl ((h0, .inr (9, [.ref q1, .null, .null, .null, .null, .null, .null, .null, .null, .null, .null, .int 0, .int 0])) :: T1) H := hP
  have hD : va_D A ((h0, .inr (9, [.ref q1, .null, .null, .null, .null, .null, .null, .null, .null, .null, .null, .int 0, .int 0])) :: T1) := hD
  refine lv_aload_n hx hb dc_cX9_init_15 rfl (lv_at hl 0 rfl) ?_
  refine fc_sub (host := "FlagSignals") (C := "FlagSignals$Ship") (T := TX6) (N := 9) (ci := 6) (k := 1) (mc := 5) (ms := 80) (fs := [.int 0, .int 0, .int 0, .int 0, .null, .null, .null, .null, .null]) (post := fc_p6 Λ) ⟨hx, hb, hml, hown, hts⟩ hE hP hD hS hA rfl tyX6 tyX6_ok (by decide) (hts _ (fg_w_in (w := 120) (c := .classLink RX9 16 "FlagSignals$Ship") (by decide +kernel) (by decide +kernel))) (hts _ (fg_w_in (w := 121) (c := .instantiable "FlagSignals$Ship" 9) (by decide +kernel) (by decide +kernel))) (hts _ (fg_w_in (w := 75) (c := .initialized "FlagSignals$Ship") (by decide +kernel) (by decide +kernel))) (fun h0 sz => fc_init6 l h0 sz) ⟨Or.inl (va_cnB (host := "FlagSignals") 0 hts (fc_good (fg_w_in (w := 124) (c := .code yX6_init cX6_init 1 none) (by decide +kernel) (by decide +kernel))) rfl rfl rfl (hE.2.1 _ (List.mem_of_getElem? (i := 1) rfl)) (hts _ (fg_w_in (w := 75) (c := .initialized "FlagSignals$Ship") (by decide +kernel) (by decide +kernel))) ⟨by decide, by decide, rfl⟩ ⟨Nat.le_of_ble_eq_true rfl, Nat.le_of_ble_eq_true rfl⟩), rfl, (hts _ (fg_w_in (w := 123) (c := .instanceMethod yX6_init) (by decide +kernel) (by decide +kernel)))⟩ hl.1 (Nat.le_of_ble_eq_true rfl) (Nat.le_of_ble_eq_true rfl) (Nat.le_of_ble_eq_true rfl) dc_cX9_init_16 dc_cX9_init_19 dc_cX9_init_20 (fun q2 w1 H locs hw1 hP hD hS => ?_)
  obtain ⟨r2, rfl⟩ := hw1
  obtain ⟨T2, eT2⟩ : ∃ T : va_W, T = T1 ++ fc_W6 Λ q2 r2 := ⟨_, rfl⟩
  have hP : va_P (fg_D Λ) vwCl ((h0, .inr (9, [.ref q1, .null, .null, .null, .null, .null, .null, .null, .null, .null, .null, .int 0, .int 0])) :: T2) H := by rw [eT2]; exact hP
  have hD : va_D A ((h0, .inr (9, [.ref q1, .null, .null, .null, .null, .null, .null, .null, .null, .null, .null, .int 0, .int 0])) :: T2) := by rw [eT2]; exact hD
  refine va_put (D := fg_D Λ) (ci := 9) (v := .ref q2) (ty := .object "FlagSignals$Ship") (C := RX9) (T := TX9) (N := 13) hx hb hts (fc_lay 9 rfl) tyX9 tyX9_ok nmX9 hown hK hP hD hS 0 rfl rfl 1 (by decide) (hts _ (fg_w_in (w := 361) (c := .fieldLink RX9 19 "FlagSignals" "ship" "LFlagSignals$Ship;") (by decide +kernel) (by decide +kernel))) (fun _ h9 => h9) rfl (by decide +kernel) rfl rfl (Nat.le_of_ble_eq_true rfl) dc_cX9_init_23 (fun H locs hP hD hS => ?_)
  have hP : va_P (fg_D Λ) vwCl ((h0, .inr (9, [.ref q1, .ref q2, .null, .null, .null, .null, .null, .null, .null, .null, .null, .int 0, .int 0])) :: T2) H := hP
  have hD : va_D A ((h0, .inr (9, [.ref q1, .ref q2, .null, .null, .null, .null, .null, .null, .null, .null, .null, .int 0, .int 0])) :: T2) := hD
  refine lv_aload_n hx hb dc_cX9_init_26 rfl (lv_at hl 0 rfl) ?_
  refine fc_sub (host := "FlagSignals") (C := "FlagSignals$Ship") (T := TX6) (N := 9) (ci := 6) (k := 1) (mc := 5) (ms := 80) (fs := [.int 0, .int 0, .int 0, .int 0, .null, .null, .null, .null, .null]) (post := fc_p6 Λ) ⟨hx, hb, hml, hown, hts⟩ hE hP hD hS hA rfl tyX6 tyX6_ok (by decide) (hts _ (fg_w_in (w := 120) (c := .classLink RX9 16 "FlagSignals$Ship") (by decide +kernel) (by decide +kernel))) (hts _ (fg_w_in (w := 121) (c := .instantiable "FlagSignals$Ship" 9) (by decide +kernel) (by decide +kernel))) (hts _ (fg_w_in (w := 75) (c := .initialized "FlagSignals$Ship") (by decide +kernel) (by decide +kernel))) (fun h0 sz => fc_init6 l h0 sz) ⟨Or.inl (va_cnB (host := "FlagSignals") 0 hts (fc_good (fg_w_in (w := 124) (c := .code yX6_init cX6_init 1 none) (by decide +kernel) (by decide +kernel))) rfl rfl rfl (hE.2.1 _ (List.mem_of_getElem? (i := 1) rfl)) (hts _ (fg_w_in (w := 75) (c := .initialized "FlagSignals$Ship") (by decide +kernel) (by decide +kernel))) ⟨by decide, by decide, rfl⟩ ⟨Nat.le_of_ble_eq_true rfl, Nat.le_of_ble_eq_true rfl⟩), rfl, (hts _ (fg_w_in (w := 123) (c := .instanceMethod yX6_init) (by decide +kernel) (by decide +kernel)))⟩ hl.1 (Nat.le_of_ble_eq_true rfl) (Nat.le_of_ble_eq_true rfl) (Nat.le_of_ble_eq_true rfl) dc_cX9_init_27 dc_cX9_init_30 dc_cX9_init_31 (fun q3 w1 H locs hw1 hP hD hS => ?_)
  obtain ⟨r3, rfl⟩ := hw1
  obtain ⟨T3, eT3⟩ : ∃ T : va_W, T = T2 ++ fc_W6 Λ q3 r3 := ⟨_, rfl⟩
  have hP : va_P (fg_D Λ) vwCl ((h0, .inr (9, [.ref q1, .ref q2, .null, .null, .null, .null, .null, .null, .null, .null, .null, .int 0, .int 0])) :: T3) H := by rw [eT3]; exact hP
  have hD : va_D A ((h0, .inr (9, [.ref q1, .ref q2, .null, .null, .null, .null, .null, .null, .null, .null, .null, .int 0, .int 0])) :: T3) := by rw [eT3]; exact hD
  refine va_put (D := fg_D Λ) (ci := 9) (v := .ref q3) (ty := .object "FlagSignals$Ship") (C := RX9) (T := TX9) (N := 13) hx hb hts (fc_lay 9 rfl) tyX9 tyX9_ok nmX9 hown hK hP hD hS 0 rfl rfl 2 (by decide) (hts _ (fg_w_in (w := 362) (c := .fieldLink RX9 23 "FlagSignals" "draft" "LFlagSignals$Ship;") (by decide +kernel) (by decide +kernel))) (fun _ h9 => h9) rfl (by decide +kernel) rfl rfl (Nat.le_of_ble_eq_true rfl) dc_cX9_init_34 (fun H locs hP hD hS => ?_)
  have hP : va_P (fg_D Λ) vwCl ((h0, .inr (9, [.ref q1, .ref q2, .ref q3, .null, .null, .null, .null, .null, .null, .null, .null, .int 0, .int 0])) :: T3) H := hP
  have hD : va_D A ((h0, .inr (9, [.ref q1, .ref q2, .ref q3, .null, .null, .null, .null, .null, .null, .null, .null, .int 0, .int 0])) :: T3) := hD
  refine lv_aload_n hx hb dc_cX9_init_37 rfl (lv_at hl 0 rfl) ?_
  refine fc_sub (host := "FlagSignals") (C := "FlagSignals$Deck") (T := TX0) (N := 12) (ci := 0) (k := 1) (mc := 7) (ms := 65) (fs := [.null, .null, .null, .null, .null, .null, .null, .int 0, .int 0, .int 0, .int 0, .int 0]) (post := fc_p0 Λ) ⟨hx, hb, hml, hown, hts⟩ hE hP hD hS hA rfl tyX0 tyX0_ok (by decide) (hts _ (fg_w_in (w := 169) (c := .classLink RX9 26 "FlagSignals$Deck") (by decide +kernel) (by decide +kernel))) (hts _ (fg_w_in (w := 170) (c := .instantiable "FlagSignals$Deck" 12) (by decide +kernel) (by decide +kernel))) (hts _ (fg_w_in (w := 76) (c := .initialized "FlagSignals$Deck") (by decide +kernel) (by decide +kernel))) (fun h0 sz => fc_init0 l h0 sz) ⟨Or.inl (va_cnB (host := "FlagSignals") 0 hts (fc_good (fg_w_in (w := 173) (c := .code yX0_init cX0_init 1 none) (by decide +kernel) (by decide +kernel))) rfl rfl rfl (hE.2.1 _ (List.mem_of_getElem? (i := 2) rfl)) (hts _ (fg_w_in (w := 76) (c := .initialized "FlagSignals$Deck") (by decide +kernel) (by decide +kernel))) ⟨by decide, by decide, rfl⟩ ⟨Nat.le_of_ble_eq_true rfl, Nat.le_of_ble_eq_true rfl⟩), rfl, (hts _ (fg_w_in (w := 172) (c := .instanceMethod yX0_init) (by decide +kernel) (by decide +kernel)))⟩ hl.1 (Nat.le_of_ble_eq_true rfl) (Nat.le_of_ble_eq_true rfl) (Nat.le_of_ble_eq_true rfl) dc_cX9_init_38 dc_cX9_init_41 dc_cX9_init_42 (fun q4 w1 H locs hw1 hP hD hS => ?_)
  obtain ⟨r4, rfl⟩ := hw1
  obtain ⟨T4, eT4⟩ : ∃ T : va_W, T = T3 ++ fc_W0 Λ q4 r4 := ⟨_, rfl⟩
  have hP : va_P (fg_D Λ) vwCl ((h0, .inr (9, [.ref q1, .ref q2, .ref q3, .null, .null, .null, .null, .null, .null, .null, .null, .int 0, .int 0])) :: T4) H := by rw [eT4]; exact hP
  have hD : va_D A ((h0, .inr (9, [.ref q1, .ref q2, .ref q3, .null, .null, .null, .null, .null, .null, .null, .null, .int 0, .int 0])) :: T4) := by rw [eT4]; exact hD
  refine va_putF (D := fg_D Λ) (ci := 9) (v := .ref q4) (ty := .object "FlagSignals$Deck") (C := RX9) (T := TX9) (N := 13) hx hb hts (fc_lay 9 rfl) tyX9 tyX9_ok nmX9 hown hK hP hD hS 0 rfl rfl 3 (by decide) (hts _ (fg_w_in (w := 363) (c := .fieldLink RX9 29 "FlagSignals" "now" "LFlagSignals$Deck;") (by decide +kernel) (by decide +kernel))) (fun _ h9 => h9) rfl hin rfl (by decide +kernel) rfl rfl (Nat.le_of_ble_eq_true rfl) dc_cX9_init_45 (fun H locs hP hD hS => ?_)
  have hP : va_P (fg_D Λ) vwCl ((h0, .inr (9, [.ref q1, .ref q2, .ref q3, .ref q4, .null, .null, .null, .null, .null, .null, .null, .int 0, .int 0])) :: T4) H := hP
  have hD : va_D A ((h0, .inr (9, [.ref q1, .ref q2, .ref q3, .ref q4, .null, .null, .null, .null, .null, .null, .null, .int 0, .int 0])) :: T4) := hD
  refine lv_aload_n hx hb dc_cX9_init_48 rfl (lv_at hl 0 rfl) ?_
  refine fc_sub (host := "FlagSignals") (C := "FlagSignals$Past") (T := TX4) (N := 3) (ci := 4) (k := 2) (mc := 129) (ms := 1248) (fs := [.null, .int 0, .int 0]) (post := fc_p4 Λ) ⟨hx, hb, hml, hown, hts⟩ hE hP hD hS hA rfl tyX4 tyX4_ok (by decide) (hts _ (fg_w_in (w := 224) (c := .classLink RX9 33 "FlagSignals$Past") (by decide +kernel) (by decide +kernel))) (hts _ (fg_w_in (w := 225) (c := .instantiable "FlagSignals$Past" 3) (by decide +kernel) (by decide +kernel))) (hts _ (fg_w_in (w := 77) (c := .initialized "FlagSignals$Past") (by decide +kernel) (by decide +kernel))) (fun h0 sz => fc_init4 l h0 sz) ⟨Or.inr (callB_of 0 hts (fc_good (fg_w_in (w := 228) (c := .code yX4_init cX4_init 2 none) (by decide +kernel) (by decide +kernel))) rfl rfl rfl (hts _ (fg_w_in (w := 77) (c := .initialized "FlagSignals$Past") (by decide +kernel) (by decide +kernel))) (hts _ (fg_w_in (w := 226) (c := .methodLink RX9 35 yX4_init) (by decide +kernel) (by decide +kernel))) ⟨by decide, by decide, rfl⟩ ⟨Nat.le_of_ble_eq_true rfl, Nat.le_of_ble_eq_true rfl⟩), rfl, (hts _ (fg_w_in (w := 227) (c := .instanceMethod yX4_init) (by decide +kernel) (by decide +kernel)))⟩ hl.1 (Nat.le_of_ble_eq_true rfl) (Nat.le_of_ble_eq_true rfl) (Nat.le_of_ble_eq_true rfl) dc_cX9_init_49 dc_cX9_init_52 dc_cX9_init_53 (fun q5 w1 H locs hw1 hP hD hS => ?_)
  obtain ⟨qa, dl, hdl, rfl⟩ := hw1
  obtain ⟨T5, eT5⟩ : ∃ T : va_W, T = T4 ++ fc_pw Λ q5 qa dl := ⟨_, rfl⟩
  have hP : va_P (fg_D Λ) vwCl ((h0, .inr (9, [.ref q1, .ref q2, .ref q3, .ref q4, .null, .null, .null, .null, .null, .null, .null, .int 0, .int 0])) :: T5) H := by rw [eT5]; exact hP
  have hD : va_D A ((h0, .inr (9, [.ref q1, .ref q2, .ref q3, .ref q4, .null, .null, .null, .null, .null, .null, .null, .int 0, .int 0])) :: T5) := by rw [eT5]; exact hD
  refine va_putF (D := fg_D Λ) (ci := 9) (v := .ref q5) (ty := .object "FlagSignals$Past") (C := RX9) (T := TX9) (N := 13) hx hb hts (fc_lay 9 rfl) tyX9 tyX9_ok nmX9 hown hK hP hD hS 0 rfl rfl 4 (by decide) (hts _ (fg_w_in (w := 364) (c := .fieldLink RX9 36 "FlagSignals" "past" "LFlagSignals$Past;") (by decide +kernel) (by decide +kernel))) (fun _ h9 => h9) rfl hin rfl (by decide +kernel) rfl rfl (Nat.le_of_ble_eq_true rfl) dc_cX9_init_56 (fun H locs hP hD hS => ?_)
  have hP : va_P (fg_D Λ) vwCl ((h0, .inr (9, [.ref q1, .ref q2, .ref q3, .ref q4, .ref q5, .null, .null, .null, .null, .null, .null, .int 0, .int 0])) :: T5) H := hP
  have hD : va_D A ((h0, .inr (9, [.ref q1, .ref q2, .ref q3, .ref q4, .ref q5, .null, .null, .null, .null, .null, .null, .int 0, .int 0])) :: T5) := hD
  refine lv_aload_n hx hb dc_cX9_init_59 rfl (lv_at hl 0 rfl) ?_
  refine lv_iconst (v := 2) hx hb dc_cX9_init_60 (by decide) ?_
  refine va_newq (C := "FlagSignals$Image") (n := 2) (N' := 2) hx hb hown (hts _ (fg_w_in (w := 244) (c := .classLink RX9 40 "FlagSignals$Image") (by decide +kernel) (by decide +kernel))) hE.2.2.2 hK hP hD hS hA (by decide) (by decide) (by decide) (Nat.le_of_ble_eq_true rfl) (Nat.le_of_ble_eq_true rfl) dc_cX9_init_61 (fun qi cA H hK1 hP hD hS => ?_)
  have e3 : cA = Λ.2.2.2.2.1 := Option.some.inj ((va_nmO (hK1.2 4 _ rfl).2 rfl).symm.trans (va_nmO (C := "FlagSignals$Image") (hK.2 3 _ rfl).2 rfl))
  rw [e3] at hP hD
  have hP := va_P.swap (a := [(h0, .inr (9, [.ref q1, .ref q2, .ref q3, .ref q4, .ref q5, .null, .null, .null, .null, .null, .null, .int 0, .int 0]))]) (b := T5) (c := [(qi, .inl (Λ.2.2.2.2.1, 2, .inr (.inr (.inr (.inr (fun _ => none))))))]) hP
  have hD := va_D.swap (a := [(h0, .inr (9, [.ref q1, .ref q2, .ref q3, .ref q4, .ref q5, .null, .null, .null, .null, .null, .null, .int 0, .int 0]))]) (b := T5) (c := [(qi, .inl (Λ.2.2.2.2.1, 2, .inr (.inr (.inr (.inr (fun _ => none))))))]) hD
  have hP : va_P (fg_D Λ) vwCl ((h0, .inr (9, [.ref q1, .ref q2, .ref q3, .ref q4, .ref q5, .null, .null, .null, .null, .null, .null, .int 0, .int 0])) :: (qi, .inl (Λ.2.2.2.2.1, 2, .inr (.inr (.inr (.inr (fun _ => none)))))) :: T5) H := hP
  have hD : va_D A ((h0, .inr (9, [.ref q1, .ref q2, .ref q3, .ref q4, .ref q5, .null, .null, .null, .null, .null, .null, .int 0, .int 0])) :: (qi, .inl (Λ.2.2.2.2.1, 2, .inr (.inr (.inr (.inr (fun _ => none)))))) :: T5) := hD
  refine va_putF (D := fg_D Λ) (ci := 9) (v := .ref qi) (ty := .array (.object "FlagSignals$Image")) (C := RX9) (T := TX9) (N := 13) hx hb hts (fc_lay 9 rfl) tyX9 tyX9_ok nmX9 hown hK hP hD hS 0 rfl rfl 5 (by decide) (hts _ (fg_w_in (w := 365) (c := .fieldLink RX9 42 "FlagSignals" "images" "[LFlagSignals$Image;") (by decide +kernel) (by decide +kernel))) (fun _ h9 => h9) rfl hin rfl (by decide +kernel) rfl rfl (Nat.le_of_ble_eq_true rfl) dc_cX9_init_64 (fun H locs hP hD hS => ?_)
  have hP : va_P (fg_D Λ) vwCl ((h0, .inr (9, [.ref q1, .ref q2, .ref q3, .ref q4, .ref q5, .ref qi, .null, .null, .null, .null, .null, .int 0, .int 0])) :: (qi, .inl (Λ.2.2.2.2.1, 2, .inr (.inr (.inr (.inr (fun _ => none)))))) :: T5) H := hP
  have hD : va_D A ((h0, .inr (9, [.ref q1, .ref q2, .ref q3, .ref q4, .ref q5, .ref qi, .null, .null, .null, .null, .null, .int 0, .int 0])) :: (qi, .inl (Λ.2.2.2.2.1, 2, .inr (.inr (.inr (.inr (fun _ => none)))))) :: T5) := hD
  refine lv_aload_n hx hb dc_cX9_init_67 rfl (lv_at hl 0 rfl) ?_
  refine fc_sub (host := "FlagSignals") (C := "FlagSignals$Log") (T := TX3) (N := 6) (ci := 3) (k := 1) (mc := 4) (ms := 46) (fs := [.null, .null, .null, .null, .int 0, .int 0]) (post := fc_p3 Λ) ⟨hx, hb, hml, hown, hts⟩ hE hP hD hS hA rfl tyX3 tyX3_ok (by decide) (hts _ (fg_w_in (w := 246) (c := .classLink RX9 46 "FlagSignals$Log") (by decide +kernel) (by decide +kernel))) (hts _ (fg_w_in (w := 247) (c := .instantiable "FlagSignals$Log" 6) (by decide +kernel) (by decide +kernel))) (hts _ (fg_w_in (w := 78) (c := .initialized "FlagSignals$Log") (by decide +kernel) (by decide +kernel))) (fun h0 sz => fc_init3 l h0 sz) ⟨Or.inl (va_cnB (host := "FlagSignals") 0 hts (fc_good (fg_w_in (w := 250) (c := .code yX3_init cX3_init 1 none) (by decide +kernel) (by decide +kernel))) rfl rfl rfl (hE.2.1 _ (List.mem_of_getElem? (i := 4) rfl)) (hts _ (fg_w_in (w := 78) (c := .initialized "FlagSignals$Log") (by decide +kernel) (by decide +kernel))) ⟨by decide, by decide, rfl⟩ ⟨Nat.le_of_ble_eq_true rfl, Nat.le_of_ble_eq_true rfl⟩), rfl, (hts _ (fg_w_in (w := 249) (c := .instanceMethod yX3_init) (by decide +kernel) (by decide +kernel)))⟩ hl.1 (Nat.le_of_ble_eq_true rfl) (Nat.le_of_ble_eq_true rfl) (Nat.le_of_ble_eq_true rfl) dc_cX9_init_68 dc_cX9_init_71 dc_cX9_init_72 (fun q6 w1 H locs hw1 hP hD hS => ?_)
  obtain ⟨r6, rfl⟩ := hw1
  obtain ⟨T6, eT6⟩ : ∃ T : va_W, T = T5 ++ fc_W3 Λ q6 r6 := ⟨_, rfl⟩
  have hP : va_P (fg_D Λ) vwCl ((h0, .inr (9, [.ref q1, .ref q2, .ref q3, .ref q4, .ref q5, .ref qi, .null, .null, .null, .null, .null, .int 0, .int 0])) :: (qi, .inl (Λ.2.2.2.2.1, 2, .inr (.inr (.inr (.inr (fun _ => none)))))) :: T6) H := by rw [eT6]; exact hP
  have hD : va_D A ((h0, .inr (9, [.ref q1, .ref q2, .ref q3, .ref q4, .ref q5, .ref qi, .null, .null, .null, .null, .null, .int 0, .int 0])) :: (qi, .inl (Λ.2.2.2.2.1, 2, .inr (.inr (.inr (.inr (fun _ => none)))))) :: T6) := by rw [eT6]; exact hD
  refine va_putF (D := fg_D Λ) (ci := 9) (v := .ref q6) (ty := .object "FlagSignals$Log") (C := RX9) (T := TX9) (N := 13) hx hb hts (fc_lay 9 rfl) tyX9 tyX9_ok nmX9 hown hK hP hD hS 0 rfl rfl 6 (by decide) (hts _ (fg_w_in (w := 366) (c := .fieldLink RX9 49 "FlagSignals" "log" "LFlagSignals$Log;") (by decide +kernel) (by decide +kernel))) (fun _ h9 => h9) rfl hin rfl (by decide +kernel) rfl rfl (Nat.le_of_ble_eq_true rfl) dc_cX9_init_75 (fun H locs hP hD hS => ?_)
  have hP : va_P (fg_D Λ) vwCl ((h0, .inr (9, [.ref q1, .ref q2, .ref q3, .ref q4, .ref q5, .ref qi, .ref q6, .null, .null, .null, .null, .int 0, .int 0])) :: (qi, .inl (Λ.2.2.2.2.1, 2, .inr (.inr (.inr (.inr (fun _ => none)))))) :: T6) H := hP
  have hD : va_D A ((h0, .inr (9, [.ref q1, .ref q2, .ref q3, .ref q4, .ref q5, .ref qi, .ref q6, .null, .null, .null, .null, .int 0, .int 0])) :: (qi, .inl (Λ.2.2.2.2.1, 2, .inr (.inr (.inr (.inr (fun _ => none)))))) :: T6) := hD
  refine lv_aload_n hx hb dc_cX9_init_78 rfl (lv_at hl 0 rfl) ?_
  refine fc_sub (host := "FlagSignals") (C := "FlagSignals$Locker") (T := TX2) (N := 3) (ci := 2) (k := 1) (mc := 1) (ms := 4) (fs := [.int 0, .int 0, .null]) (post := fc_p2 Λ) ⟨hx, hb, hml, hown, hts⟩ hE hP hD hS hA rfl tyX2 tyX2_ok (by decide) (hts _ (fg_w_in (w := 273) (c := .classLink RX9 53 "FlagSignals$Locker") (by decide +kernel) (by decide +kernel))) (hts _ (fg_w_in (w := 274) (c := .instantiable "FlagSignals$Locker" 3) (by decide +kernel) (by decide +kernel))) (hts _ (fg_w_in (w := 79) (c := .initialized "FlagSignals$Locker") (by decide +kernel) (by decide +kernel))) (fun h0 sz => fc_init2 l h0 sz) ⟨Or.inl (va_cnB (host := "FlagSignals") 0 hts (fc_good (fg_w_in (w := 277) (c := .code yX2_init cX2_init 1 none) (by decide +kernel) (by decide +kernel))) rfl rfl rfl (hE.2.1 _ (List.mem_of_getElem? (i := 5) rfl)) (hts _ (fg_w_in (w := 79) (c := .initialized "FlagSignals$Locker") (by decide +kernel) (by decide +kernel))) ⟨by decide, by decide, rfl⟩ ⟨Nat.le_of_ble_eq_true rfl, Nat.le_of_ble_eq_true rfl⟩), rfl, (hts _ (fg_w_in (w := 276) (c := .instanceMethod yX2_init) (by decide +kernel) (by decide +kernel)))⟩ hl.1 (Nat.le_of_ble_eq_true rfl) (Nat.le_of_ble_eq_true rfl) (Nat.le_of_ble_eq_true rfl) dc_cX9_init_79 dc_cX9_init_82 dc_cX9_init_83 (fun q7 w1 H locs hw1 hP hD hS => ?_)
  obtain ⟨r7, rfl⟩ := hw1
  obtain ⟨T7, eT7⟩ : ∃ T : va_W, T = T6 ++ fc_W2 Λ q7 r7 := ⟨_, rfl⟩
  have hP : va_P (fg_D Λ) vwCl ((h0, .inr (9, [.ref q1, .ref q2, .ref q3, .ref q4, .ref q5, .ref qi, .ref q6, .null, .null, .null, .null, .int 0, .int 0])) :: (qi, .inl (Λ.2.2.2.2.1, 2, .inr (.inr (.inr (.inr (fun _ => none)))))) :: T7) H := by rw [eT7]; exact hP
  have hD : va_D A ((h0, .inr (9, [.ref q1, .ref q2, .ref q3, .ref q4, .ref q5, .ref qi, .ref q6, .null, .null, .null, .null, .int 0, .int 0])) :: (qi, .inl (Λ.2.2.2.2.1, 2, .inr (.inr (.inr (.inr (fun _ => none)))))) :: T7) := by rw [eT7]; exact hD
  refine va_putF (D := fg_D Λ) (ci := 9) (v := .ref q7) (ty := .object "FlagSignals$Locker") (C := RX9) (T := TX9) (N := 13) hx hb hts (fc_lay 9 rfl) tyX9 tyX9_ok nmX9 hown hK hP hD hS 0 rfl rfl 7 (by decide) (hts _ (fg_w_in (w := 367) (c := .fieldLink RX9 56 "FlagSignals" "locker" "LFlagSignals$Locker;") (by decide +kernel) (by decide +kernel))) (fun _ h9 => h9) rfl hin rfl (by decide +kernel) rfl rfl (Nat.le_of_ble_eq_true rfl) dc_cX9_init_86 (fun H locs hP hD hS => ?_)
  have hP : va_P (fg_D Λ) vwCl ((h0, .inr (9, [.ref q1, .ref q2, .ref q3, .ref q4, .ref q5, .ref qi, .ref q6, .ref q7, .null, .null, .null, .int 0, .int 0])) :: (qi, .inl (Λ.2.2.2.2.1, 2, .inr (.inr (.inr (.inr (fun _ => none)))))) :: T7) H := hP
  have hD : va_D A ((h0, .inr (9, [.ref q1, .ref q2, .ref q3, .ref q4, .ref q5, .ref qi, .ref q6, .ref q7, .null, .null, .null, .int 0, .int 0])) :: (qi, .inl (Λ.2.2.2.2.1, 2, .inr (.inr (.inr (.inr (fun _ => none)))))) :: T7) := hD
  refine lv_aload_n hx hb dc_cX9_init_89 rfl (lv_at hl 0 rfl) ?_
  refine fc_sub (host := "FlagSignals") (C := "FlagSignals$Watch") (T := TX8) (N := 4) (ci := 8) (k := 1) (mc := 3) (ms := 60) (fs := [.null, .null, .null, .int 0]) (post := fc_p8 Λ) ⟨hx, hb, hml, hown, hts⟩ hE hP hD hS hA rfl tyX8 tyX8_ok (by decide) (hts _ (fg_w_in (w := 291) (c := .classLink RX9 60 "FlagSignals$Watch") (by decide +kernel) (by decide +kernel))) (hts _ (fg_w_in (w := 292) (c := .instantiable "FlagSignals$Watch" 4) (by decide +kernel) (by decide +kernel))) (hts _ (fg_w_in (w := 80) (c := .initialized "FlagSignals$Watch") (by decide +kernel) (by decide +kernel))) (fun h0 sz => fc_init8 l h0 sz) ⟨Or.inl (va_cnB (host := "FlagSignals") 0 hts (fc_good (fg_w_in (w := 295) (c := .code yX8_init cX8_init 1 none) (by decide +kernel) (by decide +kernel))) rfl rfl rfl (hE.2.1 _ (List.mem_of_getElem? (i := 6) rfl)) (hts _ (fg_w_in (w := 80) (c := .initialized "FlagSignals$Watch") (by decide +kernel) (by decide +kernel))) ⟨by decide, by decide, rfl⟩ ⟨Nat.le_of_ble_eq_true rfl, Nat.le_of_ble_eq_true rfl⟩), rfl, (hts _ (fg_w_in (w := 294) (c := .instanceMethod yX8_init) (by decide +kernel) (by decide +kernel)))⟩ hl.1 (Nat.le_of_ble_eq_true rfl) (Nat.le_of_ble_eq_true rfl) (Nat.le_of_ble_eq_true rfl) dc_cX9_init_90 dc_cX9_init_93 dc_cX9_init_94 (fun q8 w1 H locs hw1 hP hD hS => ?_)
  obtain ⟨r8, rfl⟩ := hw1
  obtain ⟨T8, eT8⟩ : ∃ T : va_W, T = T7 ++ fc_W8 Λ q8 r8 := ⟨_, rfl⟩
  have hP : va_P (fg_D Λ) vwCl ((h0, .inr (9, [.ref q1, .ref q2, .ref q3, .ref q4, .ref q5, .ref qi, .ref q6, .ref q7, .null, .null, .null, .int 0, .int 0])) :: (qi, .inl (Λ.2.2.2.2.1, 2, .inr (.inr (.inr (.inr (fun _ => none)))))) :: T8) H := by rw [eT8]; exact hP
  have hD : va_D A ((h0, .inr (9, [.ref q1, .ref q2, .ref q3, .ref q4, .ref q5, .ref qi, .ref q6, .ref q7, .null, .null, .null, .int 0, .int 0])) :: (qi, .inl (Λ.2.2.2.2.1, 2, .inr (.inr (.inr (.inr (fun _ => none)))))) :: T8) := by rw [eT8]; exact hD
  refine va_putF (D := fg_D Λ) (ci := 9) (v := .ref q8) (ty := .object "FlagSignals$Watch") (C := RX9) (T := TX9) (N := 13) hx hb hts (fc_lay 9 rfl) tyX9 tyX9_ok nmX9 hown hK hP hD hS 0 rfl rfl 8 (by decide) (hts _ (fg_w_in (w := 368) (c := .fieldLink RX9 63 "FlagSignals" "watch" "LFlagSignals$Watch;") (by decide +kernel) (by decide +kernel))) (fun _ h9 => h9) rfl hin rfl (by decide +kernel) rfl rfl (Nat.le_of_ble_eq_true rfl) dc_cX9_init_97 (fun H locs hP hD hS => ?_)
  have hP : va_P (fg_D Λ) vwCl ((h0, .inr (9, [.ref q1, .ref q2, .ref q3, .ref q4, .ref q5, .ref qi, .ref q6, .ref q7, .ref q8, .null, .null, .int 0, .int 0])) :: (qi, .inl (Λ.2.2.2.2.1, 2, .inr (.inr (.inr (.inr (fun _ => none)))))) :: T8) H := hP
  have hD : va_D A ((h0, .inr (9, [.ref q1, .ref q2, .ref q3, .ref q4, .ref q5, .ref qi, .ref q6, .ref q7, .ref q8, .null, .null, .int 0, .int 0])) :: (qi, .inl (Λ.2.2.2.2.1, 2, .inr (.inr (.inr (.inr (fun _ => none)))))) :: T8) := hD
  refine lv_aload_n hx hb dc_cX9_init_100 rfl (lv_at hl 0 rfl) ?_
  refine fc_sub (host := "FlagSignals") (C := "FlagSignals$Rota") (T := TX5) (N := 2) (ci := 5) (k := 1) (mc := 2) (ms := 2048) (fs := [.null, .null]) (post := fc_p5 Λ) ⟨hx, hb, hml, hown, hts⟩ hE hP hD hS hA rfl tyX5 tyX5_ok (by decide) (hts _ (fg_w_in (w := 312) (c := .classLink RX9 67 "FlagSignals$Rota") (by decide +kernel) (by decide +kernel))) (hts _ (fg_w_in (w := 313) (c := .instantiable "FlagSignals$Rota" 2) (by decide +kernel) (by decide +kernel))) (hts _ (fg_w_in (w := 81) (c := .initialized "FlagSignals$Rota") (by decide +kernel) (by decide +kernel))) (fun h0 sz => fc_init5 l h0 sz) ⟨Or.inl (va_cnB (host := "FlagSignals") 0 hts (fc_good (fg_w_in (w := 316) (c := .code yX5_init cX5_init 1 none) (by decide +kernel) (by decide +kernel))) rfl rfl rfl (hE.2.1 _ (List.mem_of_getElem? (i := 7) rfl)) (hts _ (fg_w_in (w := 81) (c := .initialized "FlagSignals$Rota") (by decide +kernel) (by decide +kernel))) ⟨by decide, by decide, rfl⟩ ⟨Nat.le_of_ble_eq_true rfl, Nat.le_of_ble_eq_true rfl⟩), rfl, (hts _ (fg_w_in (w := 315) (c := .instanceMethod yX5_init) (by decide +kernel) (by decide +kernel)))⟩ hl.1 (Nat.le_of_ble_eq_true rfl) (Nat.le_of_ble_eq_true rfl) (Nat.le_of_ble_eq_true rfl) dc_cX9_init_101 dc_cX9_init_104 dc_cX9_init_105 (fun q9 w1 H locs hw1 hP hD hS => ?_)
  obtain ⟨r9, rfl⟩ := hw1
  obtain ⟨T9, eT9⟩ : ∃ T : va_W, T = T8 ++ fc_W5 Λ q9 r9 := ⟨_, rfl⟩
  have hP : va_P (fg_D Λ) vwCl ((h0, .inr (9, [.ref q1, .ref q2, .ref q3, .ref q4, .ref q5, .ref qi, .ref q6, .ref q7, .ref q8, .null, .null, .int 0, .int 0])) :: (qi, .inl (Λ.2.2.2.2.1, 2, .inr (.inr (.inr (.inr (fun _ => none)))))) :: T9) H := by rw [eT9]; exact hP
  have hD : va_D A ((h0, .inr (9, [.ref q1, .ref q2, .ref q3, .ref q4, .ref q5, .ref qi, .ref q6, .ref q7, .ref q8, .null, .null, .int 0, .int 0])) :: (qi, .inl (Λ.2.2.2.2.1, 2, .inr (.inr (.inr (.inr (fun _ => none)))))) :: T9) := by rw [eT9]; exact hD
  refine va_putF (D := fg_D Λ) (ci := 9) (v := .ref q9) (ty := .object "FlagSignals$Rota") (C := RX9) (T := TX9) (N := 13) hx hb hts (fc_lay 9 rfl) tyX9 tyX9_ok nmX9 hown hK hP hD hS 0 rfl rfl 9 (by decide) (hts _ (fg_w_in (w := 369) (c := .fieldLink RX9 70 "FlagSignals" "rota" "LFlagSignals$Rota;") (by decide +kernel) (by decide +kernel))) (fun _ h9 => h9) rfl hin rfl (by decide +kernel) rfl rfl (Nat.le_of_ble_eq_true rfl) dc_cX9_init_108 (fun H locs hP hD hS => ?_)
  have hP : va_P (fg_D Λ) vwCl ((h0, .inr (9, [.ref q1, .ref q2, .ref q3, .ref q4, .ref q5, .ref qi, .ref q6, .ref q7, .ref q8, .ref q9, .null, .int 0, .int 0])) :: (qi, .inl (Λ.2.2.2.2.1, 2, .inr (.inr (.inr (.inr (fun _ => none)))))) :: T9) H := hP
  have hD : va_D A ((h0, .inr (9, [.ref q1, .ref q2, .ref q3, .ref q4, .ref q5, .ref qi, .ref q6, .ref q7, .ref q8, .ref q9, .null, .int 0, .int 0])) :: (qi, .inl (Λ.2.2.2.2.1, 2, .inr (.inr (.inr (.inr (fun _ => none)))))) :: T9) := hD
  refine lv_aload_n hx hb dc_cX9_init_111 rfl (lv_at hl 0 rfl) ?_
  refine lv_bipush (v := 60) hx hb dc_cX9_init_112 (by decide) ?_
  refine fc_newI (N := 60) hx hb (hts _ (fg_w_in (w := 119) (c := .arrayClass .int) (by decide +kernel) (by decide +kernel))) hK hP hD hS hA (by decide) (by decide) (Nat.le_of_ble_eq_true rfl) (Nat.le_of_ble_eq_true rfl) dc_cX9_init_114 (fun ql H hP hD hS => ?_)
  obtain ⟨T10, eT10⟩ : ∃ T : va_W, T = T9 ++ [(ql, .inl (Λ.2.1, 60, .inl (fun _ => 0)))] := ⟨_, rfl⟩
  have hP : va_P (fg_D Λ) vwCl ((h0, .inr (9, [.ref q1, .ref q2, .ref q3, .ref q4, .ref q5, .ref qi, .ref q6, .ref q7, .ref q8, .ref q9, .null, .int 0, .int 0])) :: (qi, .inl (Λ.2.2.2.2.1, 2, .inr (.inr (.inr (.inr (fun _ => none)))))) :: T10) H := by rw [eT10]; exact hP
  have hD : va_D A ((h0, .inr (9, [.ref q1, .ref q2, .ref q3, .ref q4, .ref q5, .ref qi, .ref q6, .ref q7, .ref q8, .ref q9, .null, .int 0, .int 0])) :: (qi, .inl (Λ.2.2.2.2.1, 2, .inr (.inr (.inr (.inr (fun _ => none)))))) :: T10) := by rw [eT10]; exact hD
  refine va_putF (D := fg_D Λ) (ci := 9) (v := .ref ql) (ty := .array .int) (C := RX9) (T := TX9) (N := 13) hx hb hts (fc_lay 9 rfl) tyX9 tyX9_ok nmX9 hown hK hP hD hS 0 rfl rfl 10 (by decide) (hts _ (fg_w_in (w := 370) (c := .fieldLink RX9 74 "FlagSignals" "likes" "[I") (by decide +kernel) (by decide +kernel))) (fun _ h9 => h9) rfl hin rfl (by decide +kernel) rfl rfl (Nat.le_of_ble_eq_true rfl) dc_cX9_init_116 (fun H locs hP hD hS => ?_)
  have hP : va_P (fg_D Λ) vwCl ((h0, .inr (9, [.ref q1, .ref q2, .ref q3, .ref q4, .ref q5, .ref qi, .ref q6, .ref q7, .ref q8, .ref q9, .ref ql, .int 0, .int 0])) :: (qi, .inl (Λ.2.2.2.2.1, 2, .inr (.inr (.inr (.inr (fun _ => none)))))) :: T10) H := hP
  have hD : va_D A ((h0, .inr (9, [.ref q1, .ref q2, .ref q3, .ref q4, .ref q5, .ref qi, .ref q6, .ref q7, .ref q8, .ref q9, .ref ql, .int 0, .int 0])) :: (qi, .inl (Λ.2.2.2.2.1, 2, .inr (.inr (.inr (.inr (fun _ => none)))))) :: T10) := hD
  refine lv_aload_n hx hb dc_cX9_init_119 rfl (lv_at hl 0 rfl) ?_
  refine lv_iconst (v := (-1)) hx hb dc_cX9_init_120 (by decide) ?_
  refine va_put (D := fg_D Λ) (ci := 9) (v := .int (-1)) (ty := .int) (C := RX9) (T := TX9) (N := 13) hx hb hts (fc_lay 9 rfl) tyX9 tyX9_ok nmX9 hown hK hP hD hS 0 rfl rfl 11 (by decide) (hts _ (fg_w_in (w := 371) (c := .fieldLink RX9 78 "FlagSignals" "faultAt" "I") (by decide +kernel) (by decide +kernel))) (fun _ h9 => h9) rfl (by decide +kernel) rfl rfl (Nat.le_of_ble_eq_true rfl) dc_cX9_init_121 (fun H locs hP hD hS => ?_)
  have hP : va_P (fg_D Λ) vwCl ((h0, .inr (9, [.ref q1, .ref q2, .ref q3, .ref q4, .ref q5, .ref qi, .ref q6, .ref q7, .ref q8, .ref q9, .ref ql, .int (-1), .int 0])) :: (qi, .inl (Λ.2.2.2.2.1, 2, .inr (.inr (.inr (.inr (fun _ => none)))))) :: T10) H := hP
  have hD : va_D A ((h0, .inr (9, [.ref q1, .ref q2, .ref q3, .ref q4, .ref q5, .ref qi, .ref q6, .ref q7, .ref q8, .ref q9, .ref ql, .int (-1), .int 0])) :: (qi, .inl (Λ.2.2.2.2.1, 2, .inr (.inr (.inr (.inr (fun _ => none)))))) :: T10) := hD
  refine lv_aload_n hx hb dc_cX9_init_124 rfl (lv_at hl 0 rfl) ?_
  refine lv_iconst (v := 0) hx hb dc_cX9_init_125 (by decide) ?_
  refine va_put (D := fg_D Λ) (ci := 9) (v := .int 0) (ty := .int) (C := RX9) (T := TX9) (N := 13) hx hb hts (fc_lay 9 rfl) tyX9 tyX9_ok nmX9 hown hK hP hD hS 0 rfl rfl 12 (by decide) (hts _ (fg_w_in (w := 372) (c := .fieldLink RX9 82 "FlagSignals" "seedNow" "I") (by decide +kernel) (by decide +kernel))) (fun _ h9 => h9) rfl (by decide +kernel) rfl rfl (Nat.le_of_ble_eq_true rfl) dc_cX9_init_126 (fun H locs hP hD hS => ?_)
  have hP : va_P (fg_D Λ) vwCl ((h0, .inr (9, [.ref q1, .ref q2, .ref q3, .ref q4, .ref q5, .ref qi, .ref q6, .ref q7, .ref q8, .ref q9, .ref ql, .int (-1), .int 0])) :: (qi, .inl (Λ.2.2.2.2.1, 2, .inr (.inr (.inr (.inr (fun _ => none)))))) :: T10) H := hP
  have hD : va_D A ((h0, .inr (9, [.ref q1, .ref q2, .ref q3, .ref q4, .ref q5, .ref qi, .ref q6, .ref q7, .ref q8, .ref q9, .ref ql, .int (-1), .int 0])) :: (qi, .inl (Λ.2.2.2.2.1, 2, .inr (.inr (.inr (.inr (fun _ => none)))))) :: T10) := hD
  refine lv_iconst (v := 0) hx hb dc_cX9_init_129 (by decide) ?_
  refine lv_istore_n hx hb dc_cX9_init_130 rfl hl (by decide) rfl (fun ls hl => ?_)
  refine lv_iload_n hx hb dc_cX9_init_131 rfl (lv_at hl 0 rfl) ?_
  refine lv_aload_n hx hb dc_cX9_init_132 rfl (lv_at hl 1 rfl) ?_
  refine va_get (C := RX9) (T := TX9) (N := 13) (ci := 9) hx hb hts (fc_lay 9 rfl) hown hK hP 0 rfl rfl 5 (by decide) (hts _ (fg_w_in (w := 365) (c := .fieldLink RX9 42 "FlagSignals" "images" "[LFlagSignals$Image;") (by decide +kernel) (by decide +kernel))) (fun _ h9 => h9) rfl dc_cX9_init_133 ?_
  refine va_alen hx hb hK hP 1 3 rfl rfl rfl dc_cX9_init_136 ?_
  refine lv_icmp_ge (tgt := 159) hx hb dc_cX9_init_137 (by decide) (fun q => absurd q (show ¬ (2 : Int32) ≤ 0 by decide)) (fun _ => ?_)
  refine lv_aload_n hx hb dc_cX9_init_140 rfl (lv_at hl 1 rfl) ?_
  refine va_get (C := RX9) (T := TX9) (N := 13) (ci := 9) hx hb hts (fc_lay 9 rfl) hown hK hP 0 rfl rfl 5 (by decide) (hts _ (fg_w_in (w := 365) (c := .fieldLink RX9 42 "FlagSignals" "images" "[LFlagSignals$Image;") (by decide +kernel) (by decide +kernel))) (fun _ h9 => h9) rfl dc_cX9_init_141 ?_
  refine lv_iload_n hx hb dc_cX9_init_144 rfl (lv_at hl 0 rfl) ?_
  refine fc_sub (host := "FlagSignals") (C := "FlagSignals$Image") (T := TX1) (N := 3) (ci := 1) (k := 2) (mc := 8) (ms := 77) (fs := [.null, .int 0, .int 0]) (post := fc_p1 Λ) ⟨hx, hb, hml, hown, hts⟩ hE hP hD hS hA rfl tyX1 tyX1_ok (by decide) (hts _ (fg_w_in (w := 244) (c := .classLink RX9 40 "FlagSignals$Image") (by decide +kernel) (by decide +kernel))) (hts _ (fg_w_in (w := 328) (c := .instantiable "FlagSignals$Image" 3) (by decide +kernel) (by decide +kernel))) (hts _ (fg_w_in (w := 82) (c := .initialized "FlagSignals$Image") (by decide +kernel) (by decide +kernel))) (fun h0 sz => fc_init1 l h0 sz) ⟨Or.inl (va_cnB (host := "FlagSignals") 0 hts (fc_good (fg_w_in (w := 331) (c := .code yX1_init cX1_init 1 none) (by decide +kernel) (by decide +kernel))) rfl rfl rfl (hE.2.1 _ (List.mem_of_getElem? (i := 8) rfl)) (hts _ (fg_w_in (w := 82) (c := .initialized "FlagSignals$Image") (by decide +kernel) (by decide +kernel))) ⟨by decide, by decide, rfl⟩ ⟨Nat.le_of_ble_eq_true rfl, Nat.le_of_ble_eq_true rfl⟩), rfl, (hts _ (fg_w_in (w := 330) (c := .instanceMethod yX1_init) (by decide +kernel) (by decide +kernel)))⟩ hl.1 (Nat.le_of_ble_eq_true rfl) (Nat.le_of_ble_eq_true rfl) (Nat.le_of_ble_eq_true rfl) dc_cX9_init_145 dc_cX9_init_148 dc_cX9_init_149 (fun q10 w1 H locs hw1 hP hD hS => ?_)
  obtain ⟨k10, r10, rfl⟩ := hw1
  refine va_astq (r := (RX1, TX1, 3)) (v := q10) (vs := [.ref k10, .int 0, .int 0]) hx hb hK hP hD hS 1 3 (2 + T10.length) 1 rfl rfl ?_ rfl (vp_in_nI (n := 0) (N := 2) (by decide) (by decide)) dc_cX9_init_152 (fun H locs hP hD hS => ?_)
  · rw [List.getElem?_append_right (by show T10.length + 1 + 1 ≤ _; omega)]
    have e5 : 2 + T10.length - ((h0, .inr (9, [.ref q1, .ref q2, .ref q3, .ref q4, .ref q5, .ref qi, .ref q6, .ref q7, .ref q8, .ref q9, .ref ql, .int (-1), .int 0])) :: (qi, .inl (Λ.2.2.2.2.1, 2, .inr (.inr (.inr (.inr (fun _ => none)))))) :: T10).length = 0 := by show 2 + T10.length - (T10.length + 1 + 1) = 0; omega
    rw [e5]
    rfl
  obtain ⟨T11, eT11⟩ : ∃ T : va_W, T = T10 ++ ((q10, .inr (1, [.ref k10, .int 0, .int 0])) :: fc_W0 Λ k10 r10) := ⟨_, rfl⟩
  have hP : va_P (fg_D Λ) vwCl ((h0, .inr (9, [.ref q1, .ref q2, .ref q3, .ref q4, .ref q5, .ref qi, .ref q6, .ref q7, .ref q8, .ref q9, .ref ql, .int (-1), .int 0])) :: (qi, .inl (Λ.2.2.2.2.1, 2, .inr (.inr (.inr (.inr (va_up (fun _ => none) 0 (some q10))))))) :: T11) H := by rw [eT11]; exact hP
  have hD : va_D A ((h0, .inr (9, [.ref q1, .ref q2, .ref q3, .ref q4, .ref q5, .ref qi, .ref q6, .ref q7, .ref q8, .ref q9, .ref ql, .int (-1), .int 0])) :: (qi, .inl (Λ.2.2.2.2.1, 2, .inr (.inr (.inr (.inr (va_up (fun _ => none) 0 (some q10))))))) :: T11) := by rw [eT11]; exact hD
  refine lv_iinc hx hb dc_cX9_init_153 hl (k := 0) (v := 1) rfl (by decide) (by decide) rfl (fun ls hl => ?_)
  refine lv_goto (tgt := 131) hx hb dc_cX9_init_156 (by decide) ?_
  refine lv_iload_n hx hb dc_cX9_init_131 rfl (lv_at hl 0 rfl) ?_
  refine lv_aload_n hx hb dc_cX9_init_132 rfl (lv_at hl 1 rfl) ?_
  refine va_get (C := RX9) (T := TX9) (N := 13) (ci := 9) hx hb hts (fc_lay 9 rfl) hown hK hP 0 rfl rfl 5 (by decide) (hts _ (fg_w_in (w := 365) (c := .fieldLink RX9 42 "FlagSignals" "images" "[LFlagSignals$Image;") (by decide +kernel) (by decide +kernel))) (fun _ h9 => h9) rfl dc_cX9_init_133 ?_
  refine va_alen hx hb hK hP 1 3 rfl rfl rfl dc_cX9_init_136 ?_
  refine lv_icmp_ge (tgt := 159) hx hb dc_cX9_init_137 (by decide) (fun q => absurd q (show ¬ (2 : Int32) ≤ 1 by decide)) (fun _ => ?_)
  refine lv_aload_n hx hb dc_cX9_init_140 rfl (lv_at hl 1 rfl) ?_
  refine va_get (C := RX9) (T := TX9) (N := 13) (ci := 9) hx hb hts (fc_lay 9 rfl) hown hK hP 0 rfl rfl 5 (by decide) (hts _ (fg_w_in (w := 365) (c := .fieldLink RX9 42 "FlagSignals" "images" "[LFlagSignals$Image;") (by decide +kernel) (by decide +kernel))) (fun _ h9 => h9) rfl dc_cX9_init_141 ?_
  refine lv_iload_n hx hb dc_cX9_init_144 rfl (lv_at hl 0 rfl) ?_
  refine fc_sub (host := "FlagSignals") (C := "FlagSignals$Image") (T := TX1) (N := 3) (ci := 1) (k := 2) (mc := 8) (ms := 77) (fs := [.null, .int 0, .int 0]) (post := fc_p1 Λ) ⟨hx, hb, hml, hown, hts⟩ hE hP hD hS hA rfl tyX1 tyX1_ok (by decide) (hts _ (fg_w_in (w := 244) (c := .classLink RX9 40 "FlagSignals$Image") (by decide +kernel) (by decide +kernel))) (hts _ (fg_w_in (w := 328) (c := .instantiable "FlagSignals$Image" 3) (by decide +kernel) (by decide +kernel))) (hts _ (fg_w_in (w := 82) (c := .initialized "FlagSignals$Image") (by decide +kernel) (by decide +kernel))) (fun h0 sz => fc_init1 l h0 sz) ⟨Or.inl (va_cnB (host := "FlagSignals") 0 hts (fc_good (fg_w_in (w := 331) (c := .code yX1_init cX1_init 1 none) (by decide +kernel) (by decide +kernel))) rfl rfl rfl (hE.2.1 _ (List.mem_of_getElem? (i := 8) rfl)) (hts _ (fg_w_in (w := 82) (c := .initialized "FlagSignals$Image") (by decide +kernel) (by decide +kernel))) ⟨by decide, by decide, rfl⟩ ⟨Nat.le_of_ble_eq_true rfl, Nat.le_of_ble_eq_true rfl⟩), rfl, (hts _ (fg_w_in (w := 330) (c := .instanceMethod yX1_init) (by decide +kernel) (by decide +kernel)))⟩ hl.1 (Nat.le_of_ble_eq_true rfl) (Nat.le_of_ble_eq_true rfl) (Nat.le_of_ble_eq_true rfl) dc_cX9_init_145 dc_cX9_init_148 dc_cX9_init_149 (fun q11 w1 H locs hw1 hP hD hS => ?_)
  obtain ⟨k11, r11, rfl⟩ := hw1
  refine va_astq (r := (RX1, TX1, 3)) (v := q11) (vs := [.ref k11, .int 0, .int 0]) hx hb hK hP hD hS 1 3 (2 + T11.length) 1 rfl rfl ?_ rfl (vp_in_nI (n := 1) (N := 2) (by decide) (by decide)) dc_cX9_init_152 (fun H locs hP hD hS => ?_)
  · rw [List.getElem?_append_right (by show T11.length + 1 + 1 ≤ _; omega)]
    have e5 : 2 + T11.length - ((h0, .inr (9, [.ref q1, .ref q2, .ref q3, .ref q4, .ref q5, .ref qi, .ref q6, .ref q7, .ref q8, .ref q9, .ref ql, .int (-1), .int 0])) :: (qi, .inl (Λ.2.2.2.2.1, 2, .inr (.inr (.inr (.inr (va_up (fun _ => none) 0 (some q10))))))) :: T11).length = 0 := by show 2 + T11.length - (T11.length + 1 + 1) = 0; omega
    rw [e5]
    rfl
  obtain ⟨T12, eT12⟩ : ∃ T : va_W, T = T11 ++ ((q11, .inr (1, [.ref k11, .int 0, .int 0])) :: fc_W0 Λ k11 r11) := ⟨_, rfl⟩
  have hP : va_P (fg_D Λ) vwCl ((h0, .inr (9, [.ref q1, .ref q2, .ref q3, .ref q4, .ref q5, .ref qi, .ref q6, .ref q7, .ref q8, .ref q9, .ref ql, .int (-1), .int 0])) :: (qi, .inl (Λ.2.2.2.2.1, 2, .inr (.inr (.inr (.inr (va_up (va_up (fun _ => none) 0 (some q10)) 1 (some q11))))))) :: T12) H := by rw [eT12]; exact hP
  have hD : va_D A ((h0, .inr (9, [.ref q1, .ref q2, .ref q3, .ref q4, .ref q5, .ref qi, .ref q6, .ref q7, .ref q8, .ref q9, .ref ql, .int (-1), .int 0])) :: (qi, .inl (Λ.2.2.2.2.1, 2, .inr (.inr (.inr (.inr (va_up (va_up (fun _ => none) 0 (some q10)) 1 (some q11))))))) :: T12) := by rw [eT12]; exact hD
  refine lv_iinc hx hb dc_cX9_init_153 hl (k := 0) (v := 2) rfl (by decide) (by decide) rfl (fun ls hl => ?_)
  refine lv_goto (tgt := 131) hx hb dc_cX9_init_156 (by decide) ?_
  refine lv_iload_n hx hb dc_cX9_init_131 rfl (lv_at hl 0 rfl) ?_
  refine lv_aload_n hx hb dc_cX9_init_132 rfl (lv_at hl 1 rfl) ?_
  refine va_get (C := RX9) (T := TX9) (N := 13) (ci := 9) hx hb hts (fc_lay 9 rfl) hown hK hP 0 rfl rfl 5 (by decide) (hts _ (fg_w_in (w := 365) (c := .fieldLink RX9 42 "FlagSignals" "images" "[LFlagSignals$Image;") (by decide +kernel) (by decide +kernel))) (fun _ h9 => h9) rfl dc_cX9_init_133 ?_
  refine va_alen hx hb hK hP 1 3 rfl rfl rfl dc_cX9_init_136 ?_
  refine lv_icmp_ge (tgt := 159) hx hb dc_cX9_init_137 (by decide) (fun _ => ?_) (fun q => absurd (show (2 : Int32) ≤ 2 by decide) q)
  refine lv_aload_n hx hb dc_cX9_init_159 rfl (lv_at hl 1 rfl) ?_
  refine va_get (C := RX9) (T := TX9) (N := 13) (ci := 9) hx hb hts (fc_lay 9 rfl) hown hK hP 0 rfl rfl 3 (by decide) (hts _ (fg_w_in (w := 363) (c := .fieldLink RX9 29 "FlagSignals" "now" "LFlagSignals$Deck;") (by decide +kernel) (by decide +kernel))) (fun _ h9 => h9) rfl dc_cX9_init_160 ?_
  refine lv_aload_n hx hb dc_cX9_init_163 rfl (lv_at hl 1 rfl) ?_
  refine va_get (C := RX9) (T := TX9) (N := 13) (ci := 9) hx hb hts (fc_lay 9 rfl) hown hK hP 0 rfl rfl 1 (by decide) (hts _ (fg_w_in (w := 361) (c := .fieldLink RX9 19 "FlagSignals" "ship" "LFlagSignals$Ship;") (by decide +kernel) (by decide +kernel))) (fun _ h9 => h9) rfl dc_cX9_init_164 ?_
  obtain ⟨d0, t0, rfl, h100⟩ := fc_len_s (n := 15) hdl
  obtain ⟨d1, t1, rfl, h101⟩ := fc_len_s (n := 14) h100
  obtain ⟨d2, t2, rfl, h102⟩ := fc_len_s (n := 13) h101
  obtain ⟨d3, t3, rfl, h103⟩ := fc_len_s (n := 12) h102
  obtain ⟨d4, t4, rfl, h104⟩ := fc_len_s (n := 11) h103
  obtain ⟨d5, t5, rfl, h105⟩ := fc_len_s (n := 10) h104
  obtain ⟨d6, t6, rfl, h106⟩ := fc_len_s (n := 9) h105
  obtain ⟨d7, t7, rfl, h107⟩ := fc_len_s (n := 8) h106
  obtain ⟨d8, t8, rfl, h108⟩ := fc_len_s (n := 7) h107
  obtain ⟨d9, t9, rfl, h109⟩ := fc_len_s (n := 6) h108
  obtain ⟨d10, t10, rfl, h110⟩ := fc_len_s (n := 5) h109
  obtain ⟨d11, t11, rfl, h111⟩ := fc_len_s (n := 4) h110
  obtain ⟨d12, t12, rfl, h112⟩ := fc_len_s (n := 3) h111
  obtain ⟨d13, t13, rfl, h113⟩ := fc_len_s (n := 2) h112
  obtain ⟨d14, t14, rfl, h114⟩ := fc_len_s (n := 1) h113
  obtain ⟨d15, t15, rfl, h115⟩ := fc_len_s (n := 0) h114
  have hnil := List.eq_nil_of_length_eq_zero h115
  subst hnil
  subst eT12
  subst eT11
  subst eT10
  subst eT9
  subst eT8
  subst eT7
  subst eT6
  subst eT5
  subst eT4
  subst eT3
  subst eT2
  subst eT1
  rw [fc_pw, fc_assoc] at hP hD
  obtain ⟨hP, hD⟩ := fc_perm hP hD
  obtain ⟨a, ea⟩ : ∃ a : Nat → Nat, a = fun h => ([h0, q1, (r1 1), q2, (r2 1), (r2 2), (r2 3), (r2 4), (r2 5), q3, (r3 1), (r3 2), (r3 3), (r3 4), (r3 5), q4, (r4 1), (r4 2), (r4 3), (r4 4), (r4 5), (r4 6), (r4 7), q5, qa, qi, q6, (r6 1), (r6 2), (r6 3), (r6 4), q7, (r7 1), q8, (r8 1), (r8 2), (r8 3), q9, (r9 1), (r9 2), ql, q10, k10, (r10 1), (r10 2), (r10 3), (r10 4), (r10 5), (r10 6), (r10 7), q11, k11, (r11 1), (r11 2), (r11 3), (r11 4), (r11 5), (r11 6), (r11 7), d0.1, (d0.2 1), (d0.2 2), (d0.2 3), (d0.2 4), (d0.2 5), (d0.2 6), (d0.2 7), d1.1, (d1.2 1), (d1.2 2), (d1.2 3), (d1.2 4), (d1.2 5), (d1.2 6), (d1.2 7), d2.1, (d2.2 1), (d2.2 2), (d2.2 3), (d2.2 4), (d2.2 5), (d2.2 6), (d2.2 7), d3.1, (d3.2 1), (d3.2 2), (d3.2 3), (d3.2 4), (d3.2 5), (d3.2 6), (d3.2 7), d4.1, (d4.2 1), (d4.2 2), (d4.2 3), (d4.2 4), (d4.2 5), (d4.2 6), (d4.2 7), d5.1, (d5.2 1), (d5.2 2), (d5.2 3), (d5.2 4), (d5.2 5), (d5.2 6), (d5.2 7), d6.1, (d6.2 1), (d6.2 2), (d6.2 3), (d6.2 4), (d6.2 5), (d6.2 6), (d6.2 7), d7.1, (d7.2 1), (d7.2 2), (d7.2 3), (d7.2 4), (d7.2 5), (d7.2 6), (d7.2 7), d8.1, (d8.2 1), (d8.2 2), (d8.2 3), (d8.2 4), (d8.2 5), (d8.2 6), (d8.2 7), d9.1, (d9.2 1), (d9.2 2), (d9.2 3), (d9.2 4), (d9.2 5), (d9.2 6), (d9.2 7), d10.1, (d10.2 1), (d10.2 2), (d10.2 3), (d10.2 4), (d10.2 5), (d10.2 6), (d10.2 7), d11.1, (d11.2 1), (d11.2 2), (d11.2 3), (d11.2 4), (d11.2 5), (d11.2 6), (d11.2 7), d12.1, (d12.2 1), (d12.2 2), (d12.2 3), (d12.2 4), (d12.2 5), (d12.2 6), (d12.2 7), d13.1, (d13.2 1), (d13.2 2), (d13.2 3), (d13.2 4), (d13.2 5), (d13.2 6), (d13.2 7), d14.1, (d14.2 1), (d14.2 2), (d14.2 3), (d14.2 4), (d14.2 5), (d14.2 6), (d14.2 7), d15.1, (d15.2 1), (d15.2 2), (d15.2 3), (d15.2 4), (d15.2 5), (d15.2 6), (d15.2 7)] : List Nat).getD h 0 := ⟨_, rfl⟩
  have hPL : va_P (fg_D Λ) vwCl (fc_L Λ a (fc_dr [d0, d1, d2, d3, d4, d5, d6, d7, d8, d9, d10, d11, d12, d13, d14, d15]) (va_up (va_up (fun _ => none) 0 (some q10)) 1 (some q11))) H := by rw [ea]; exact hP
  have hDL : va_D A (fc_L Λ a (fc_dr [d0, d1, d2, d3, d4, d5, d6, d7, d8, d9, d10, d11, d12, d13, d14, d15]) (va_up (va_up (fun _ => none) 0 (some q10)) 1 (some q11))) := by rw [ea]; exact hD
  have h1 : ∀ j, j < 16 → fc_dr [d0, d1, d2, d3, d4, d5, d6, d7, d8, d9, d10, d11, d12, d13, d14, d15] j = some (a (59 + 8 * j)) := by
    intro j hj
    rw [ea]
    match j, hj with
    | 0, _ => rfl
    | 1, _ => rfl
    | 2, _ => rfl
    | 3, _ => rfl
    | 4, _ => rfl
    | 5, _ => rfl
    | 6, _ => rfl
    | 7, _ => rfl
    | 8, _ => rfl
    | 9, _ => rfl
    | 10, _ => rfl
    | 11, _ => rfl
    | 12, _ => rfl
    | 13, _ => rfl
    | 14, _ => rfl
    | 15, _ => rfl
    | n + 16, hj => omega
  have h2 : ∀ j, j < 2 → (va_up (va_up (fun _ => none) 0 (some q10)) 1 (some q11)) j = some (a (41 + 9 * j)) := by
    intro j hj
    rw [ea]
    match j, hj with
    | 0, _ => rfl
    | 1, _ => rfl
  obtain ⟨gP, gi, gA⟩ := fc_fsj h1 h2 hPL hDL
  have a0 : a 0 = h0 := by rw [ea]; rfl
  have a3 : q2 = a 3 := by rw [ea]; rfl
  have a15 : q4 = a 15 := by rw [ea]; rfl
  clear hPL hDL h1 h2 hP hD ea
  rw [a3, a15]
  have F := fh_mfacts (i := 0) (M := (yX0_rig, cX0_rig, 3, none)) rfl
  have hM := fh_met (l := l) (Λ := (a, Λ.2)) (d := 2) (j := 0) (M := (yX0_rig, cX0_rig, 3, none)) (σ := fc_s0) (vs := [.ref 15, .ref 3]) (Qc := va_Qv (fun u => fg_sm (fg_pH 15) fc_s0 u ∧ fg_DkX u 15 (fg_S1 0 0).1 (fg_w0 (fg_S1 0 0))) (fun u t => va_P (fh_D (a, Λ.2)) vwCl (fh_ws (a, Λ.2) u) t.heap) (fh_A (a, Λ.2))) gi rfl (by decide) (fh_sound (rh_DK_rig (Q := fun _ u => fg_sm (fg_pH 15) fc_s0 u ∧ fg_DkX u 15 (fg_S1 0 0).1 (fg_w0 (fg_S1 0 0))) (Or.inl rfl) fc_DS0 fg_S1_ok0 (fun u m k => ⟨m, k⟩))) (fun s t y u hp h1 h2 => ⟨⟨u, rfl, hp, h1⟩, h2⟩)
  have hEh : fh_E (a, Λ.2) s := hE.1
  have he := fh_ws_at (Λ := (a, Λ.2)) (σ := fc_s0) (h := 15) (by decide)
  rw [fh_cell_o (c := 0) rfl (by decide)] at he
  refine va_callv (va_runV (C := RX0) (As := [.ref (a 3)]) (rest := []) ⟨hx, hb, hml, hown, hts⟩ hM (cwV 1 hts (fh_good (ws := wsV RX9 86 RX0 yX0_rig (fh_wm (yX0_rig, cX0_rig, 3, none))) ?_) rfl rfl rfl ⟨rfl, F.2.2.2.1.1, F.2.2.2.1.2, rfl⟩ ⟨Nat.le_of_ble_eq_true rfl, Nat.le_of_ble_eq_true rfl⟩) ⟨fh_pcb, va_recv hEh.1 gP (q := (RX0, TX0, 12)) rfl he, fun U hU hW => ⟨rfl, by rw [hU]; exact gP, hEh.warm hW⟩⟩ rfl rfl hl.1 rfl (lv_room (Nat.zero_le _)) dc_cX9_init_167 ⟨Nat.le_of_ble_eq_true rfl, Nat.le_of_ble_eq_true rfl⟩) hS (fun q _ h => ?_) (fun q h => ?_) (fun u t H1 locs1 ht hvm hw hB hz1 hk1 hS1 => ?_)
  · intro w hw2
    have F8 := F.2.2.2.2.2.2.2 rfl
    rcases List.mem_append.mp hw2 with h2 | h2
    · simp only [List.mem_cons, List.not_mem_nil, or_false] at h2
      rcases h2 with rfl | rfl | rfl | rfl
      · exact fh_w_in (w := 348) (by decide +kernel) (by decide +kernel)
      · exact F8.1
      · exact F8.2
      · exact F.2.2.1
    · exact fh_wm_in (i := 0) rfl w h2
  · obtain ⟨h, hh, rfl⟩ := h
    exact gA h hh
  · obtain ⟨h, hh, rfl⟩ := h
    exact gA h hh
  · rw [ht] at hB
    exact W.vret hx hb hr (fun t ht hW => ⟨⟨_, rfl, ⟨a, u, a0, gi, hw.1, hw.2, rfl⟩, by rw [ht]; exact hB, (fh_ws_D gi u).weaken (fun k q _ h => by obtain ⟨g, hg, e⟩ := h; rw [e]; exact gA g hg)⟩, hS1.F ht⟩) hS1.2.2 dc_cX9_init_170
