/-! THE CONSTRUCTORS OF Image AND Past (laid by wip/whole/gen77.py) -/
def fc_p0 (Λ : fg_La) (h0 : Nat) (w : va_W) : Prop := ∃ q : Nat → Nat, w = fc_W0 Λ h0 q
def fc_p6 (Λ : fg_La) (h0 : Nat) (w : va_W) : Prop := ∃ q : Nat → Nat, w = fc_W6 Λ h0 q
def fc_p7 (Λ : fg_La) (h0 : Nat) (w : va_W) : Prop := ∃ q : Nat → Nat, w = fc_W7 Λ h0 q
def fc_p3 (Λ : fg_La) (h0 : Nat) (w : va_W) : Prop := ∃ q : Nat → Nat, w = fc_W3 Λ h0 q
def fc_p2 (Λ : fg_La) (h0 : Nat) (w : va_W) : Prop := ∃ q : Nat → Nat, w = fc_W2 Λ h0 q
def fc_p8 (Λ : fg_La) (h0 : Nat) (w : va_W) : Prop := ∃ q : Nat → Nat, w = fc_W8 Λ h0 q
def fc_p5 (Λ : fg_La) (h0 : Nat) (w : va_W) : Prop := ∃ q : Nat → Nat, w = fc_W5 Λ h0 q
def fc_p10 (Λ : fg_La) (h0 : Nat) (w : va_W) : Prop := ∃ q : Nat → Nat, w = fc_W10 Λ h0 q
theorem dc_cX1_init_0 : decode cX1_init 0 = .ok (.aload_n 0, 1) := by decide +kernel
theorem dc_cX1_init_1 : decode cX1_init 1 = .ok (.invokespecial 1, 3) := by decide +kernel
theorem dc_cX1_init_4 : decode cX1_init 4 = .ok (.aload_n 0, 1) := by decide +kernel
theorem dc_cX1_init_5 : decode cX1_init 5 = .ok (.new 7, 3) := by decide +kernel
theorem dc_cX1_init_8 : decode cX1_init 8 = .ok (.dup, 1) := by decide +kernel
theorem dc_cX1_init_9 : decode cX1_init 9 = .ok (.invokespecial 9, 3) := by decide +kernel
theorem dc_cX1_init_12 : decode cX1_init 12 = .ok (.putfield 10, 3) := by decide +kernel
theorem dc_cX1_init_15 : decode cX1_init 15 = .ok (.aload_n 0, 1) := by decide +kernel
theorem dc_cX1_init_16 : decode cX1_init 16 = .ok (.iconst 0, 1) := by decide +kernel
theorem dc_cX1_init_17 : decode cX1_init 17 = .ok (.putfield 16, 3) := by decide +kernel
theorem dc_cX1_init_20 : decode cX1_init 20 = .ok (.aload_n 0, 1) := by decide +kernel
theorem dc_cX1_init_21 : decode cX1_init 21 = .ok (.iconst 0, 1) := by decide +kernel
theorem dc_cX1_init_22 : decode cX1_init 22 = .ok (.putfield 20, 3) := by decide +kernel
theorem dc_cX1_init_25 : decode cX1_init 25 = .ok (.return_, 1) := by decide +kernel
def fc_p1 (Λ : fg_La) (h0 : Nat) (w : va_W) : Prop := ∃ (q : Nat) (r : Nat → Nat), w = (h0, .inr (1, [.ref q, .int 0, .int 0])) :: fc_W0 Λ q r
set_option maxHeartbeats 4000000 in
set_option maxRecDepth 100000 in
theorem fc_init1 (l : Launch) {Λ : fg_La} (h0 sz : Nat) : Met l yX1_init (.code yX1_init cX1_init 1 none :: fg_T) (fc_rm 2 8 77) (va_Pc [.ref h0] (fc_Pre Λ sz [(h0, .inr (1, [.null, .int 0, .int 0]))])) (va_Qv (fun w : va_W => fc_p1 Λ h0 w) (fc_B Λ (va_A [(h0, .inr (1, [.null, .int 0, .int 0]))] sz)) (va_A [(h0, .inr (1, [.null, .int 0, .int 0]))] sz)) 8 77 (va_A [(h0, .inr (1, [.null, .int 0, .int 0]))] sz) := by
  refine Met.ofW (cc := cX1_init) (maxL := 1) (ret := none) (by decide) rfl ?_
  intro p e s m args below meth c s₁ B hml hv
  obtain ⟨rfl, hsz, hP, hD0, hE⟩ := hv
  have hx := B.exec
  have hb := B.bytes
  have hr := B.returns
  have hts0 := atoms_spec (ws := .code yX1_init cX1_init 1 none :: fg_T) B.pre
  have hts : ∀ w ∈ fg_T, w.before (([.ref h0] : List Value).toArray) s = true := fun w hw => hts0 w (List.mem_cons_of_mem _ hw)
  have hown : s.vm.findClass RX1 = some m.cls := findClass_of_methodNamed B.named
  have hlocks := B.notSynchronized
  have hin : meth.name = "<init>" := (name_of_methodNamed B.named B.method).1
  subst hsz
  have hD := hD0.self (sz := s.heap.size)
  generalize hAe : va_A [(h0, .inr (1, [.null, .int 0, .int 0]))] s.heap.size = A at hD ⊢
  have hA : ∀ q : Nat, s.heap.size ≤ q → A q := fun q h => by rw [← hAe]; exact Or.inr h
  have hS : va_S A s.heap s.heap [] := va_S.rf
  have hK := hE.1.1
  have hP : va_P (fg_D Λ) vwCl [(h0, .inr (1, [.null, .int 0, .int 0]))] s.heap := hP
  have hl := lv_entry ([.ref h0]) (n := 1) (Nat.le_of_ble_eq_true rfl)
  rw [lg_entry_eq]
  generalize (lg_sl ([.ref h0]) ++ List.replicate (1 - (lg_sl ([.ref h0])).length) Slot.unset).toArray = ls at hl ⊢
  have hl : lv_has ls 1 [(0, .ref h0)] := hl
  refine lv_aload_n hx hb dc_cX1_init_0 rfl (lv_at hl 0 rfl) ?_
  refine W.objInit hx hb hown (hts _ (fg_w_in (w := 332) (c := .methodLink RX1 1 objectInit) (by decide +kernel) (by decide +kernel))) (hts _ (fg_w_in (w := 93) (c := .instanceMethod objectInit) (by decide +kernel) (by decide +kernel))) (hts _ (fg_w_in (w := 94) (c := .code objectInit ⟨#[0xb1]⟩ 1 none) (by decide +kernel) (by decide +kernel))) rfl (by rw [hml]; exact hl.1) rfl dc_cX1_init_1 (Nat.le_of_ble_eq_true rfl) (Nat.le_of_ble_eq_true rfl) ?_
  refine W.eq (g2 := F0 m 4 ls []) rfl ?_
  refine lv_aload_n hx hb dc_cX1_init_4 rfl (lv_at hl 0 rfl) ?_
  refine fc_sub (host := "FlagSignals") (C := "FlagSignals$Deck") (T := TX0) (N := 12) (ci := 0) (k := 1) (mc := 7) (ms := 65) (fs := [.null, .null, .null, .null, .null, .null, .null, .int 0, .int 0, .int 0, .int 0, .int 0]) (post := fc_p0 Λ) ⟨hx, hb, hml, hown, hts⟩ hE hP hD hS hA rfl tyX0 tyX0_ok (by decide) (hts _ (fg_w_in (w := 333) (c := .classLink RX1 7 "FlagSignals$Deck") (by decide +kernel) (by decide +kernel))) (hts _ (fg_w_in (w := 170) (c := .instantiable "FlagSignals$Deck" 12) (by decide +kernel) (by decide +kernel))) (hts _ (fg_w_in (w := 76) (c := .initialized "FlagSignals$Deck") (by decide +kernel) (by decide +kernel))) (fun h0 sz => fc_init0 l h0 sz) ⟨Or.inl (va_cnB (host := "FlagSignals") 0 hts (fc_good (fg_w_in (w := 173) (c := .code yX0_init cX0_init 1 none) (by decide +kernel) (by decide +kernel))) rfl rfl rfl (hE.2.1 _ (List.mem_of_getElem? (i := 9) rfl)) (hts _ (fg_w_in (w := 76) (c := .initialized "FlagSignals$Deck") (by decide +kernel) (by decide +kernel))) ⟨by decide, by decide, rfl⟩ ⟨Nat.le_of_ble_eq_true rfl, Nat.le_of_ble_eq_true rfl⟩), rfl, (hts _ (fg_w_in (w := 172) (c := .instanceMethod yX0_init) (by decide +kernel) (by decide +kernel)))⟩ hl.1 (Nat.le_of_ble_eq_true rfl) (Nat.le_of_ble_eq_true rfl) (Nat.le_of_ble_eq_true rfl) dc_cX1_init_5 dc_cX1_init_8 dc_cX1_init_9 (fun q w1 H locs hw1 hP hD hS => ?_)
  obtain ⟨r, rfl⟩ := hw1
  refine va_putF (D := fg_D Λ) (ci := 1) (v := .ref q) (ty := .object "FlagSignals$Deck") (C := RX1) (T := TX1) (N := 3) hx hb hts (fc_lay 1 rfl) tyX1 tyX1_ok nmX1 hown hK hP hD hS 0 rfl rfl 0 (by decide) (hts _ (fg_w_in (w := 335) (c := .fieldLink RX1 10 "FlagSignals$Image" "deck" "LFlagSignals$Deck;") (by decide +kernel) (by decide +kernel))) (fun _ h9 => h9) rfl hin rfl (by decide +kernel) rfl rfl (Nat.le_of_ble_eq_true rfl) dc_cX1_init_12 (fun H locs hP hD hS => ?_)
  have hP : va_P (fg_D Λ) vwCl ((h0, .inr (1, [.ref q, .int 0, .int 0])) :: fc_W0 Λ q r) H := hP
  have hD : va_D A ((h0, .inr (1, [.ref q, .int 0, .int 0])) :: fc_W0 Λ q r) := hD
  refine lv_aload_n hx hb dc_cX1_init_15 rfl (lv_at hl 0 rfl) ?_
  refine lv_iconst (v := 0) hx hb dc_cX1_init_16 (by decide) ?_
  refine va_put (D := fg_D Λ) (ci := 1) (v := .int 0) (ty := .int) (C := RX1) (T := TX1) (N := 3) hx hb hts (fc_lay 1 rfl) tyX1 tyX1_ok nmX1 hown hK hP hD hS 0 rfl rfl 1 (by decide) (hts _ (fg_w_in (w := 337) (c := .fieldLink RX1 16 "FlagSignals$Image" "seedThen" "I") (by decide +kernel) (by decide +kernel))) (fun _ h9 => h9) rfl (by decide +kernel) rfl rfl (Nat.le_of_ble_eq_true rfl) dc_cX1_init_17 (fun H locs hP hD hS => ?_)
  have hP : va_P (fg_D Λ) vwCl ((h0, .inr (1, [.ref q, .int 0, .int 0])) :: fc_W0 Λ q r) H := hP
  have hD : va_D A ((h0, .inr (1, [.ref q, .int 0, .int 0])) :: fc_W0 Λ q r) := hD
  refine lv_aload_n hx hb dc_cX1_init_20 rfl (lv_at hl 0 rfl) ?_
  refine lv_iconst (v := 0) hx hb dc_cX1_init_21 (by decide) ?_
  refine va_put (D := fg_D Λ) (ci := 1) (v := .int 0) (ty := .boolean) (C := RX1) (T := TX1) (N := 3) hx hb hts (fc_lay 1 rfl) tyX1 tyX1_ok nmX1 hown hK hP hD hS 0 rfl rfl 2 (by decide) (hts _ (fg_w_in (w := 339) (c := .fieldLink RX1 20 "FlagSignals$Image" "kept" "Z") (by decide +kernel) (by decide +kernel))) (fun _ h9 => h9) rfl (by decide +kernel) rfl rfl (Nat.le_of_ble_eq_true rfl) dc_cX1_init_22 (fun H locs hP hD hS => ?_)
  have hP : va_P (fg_D Λ) vwCl ((h0, .inr (1, [.ref q, .int 0, .int 0])) :: fc_W0 Λ q r) H := hP
  have hD : va_D A ((h0, .inr (1, [.ref q, .int 0, .int 0])) :: fc_W0 Λ q r) := hD
  exact W.vret hx hb hr (fun t ht hW => ⟨⟨_, rfl, ⟨q, r, rfl⟩, by rw [ht]; exact hP, hD⟩, hS.F ht⟩) hS.2.2 dc_cX1_init_25
theorem dc_cX4_init_0 : decode cX4_init 0 = .ok (.aload_n 0, 1) := by decide +kernel
theorem dc_cX4_init_1 : decode cX4_init 1 = .ok (.invokespecial 3, 3) := by decide +kernel
theorem dc_cX4_init_4 : decode cX4_init 4 = .ok (.aload_n 0, 1) := by decide +kernel
theorem dc_cX4_init_5 : decode cX4_init 5 = .ok (.bipush 16, 2) := by decide +kernel
theorem dc_cX4_init_7 : decode cX4_init 7 = .ok (.anewarray 9, 3) := by decide +kernel
theorem dc_cX4_init_10 : decode cX4_init 10 = .ok (.putfield 11, 3) := by decide +kernel
theorem dc_cX4_init_13 : decode cX4_init 13 = .ok (.aload_n 0, 1) := by decide +kernel
theorem dc_cX4_init_14 : decode cX4_init 14 = .ok (.iconst 0, 1) := by decide +kernel
theorem dc_cX4_init_15 : decode cX4_init 15 = .ok (.putfield 17, 3) := by decide +kernel
theorem dc_cX4_init_18 : decode cX4_init 18 = .ok (.aload_n 0, 1) := by decide +kernel
theorem dc_cX4_init_19 : decode cX4_init 19 = .ok (.iconst 0, 1) := by decide +kernel
theorem dc_cX4_init_20 : decode cX4_init 20 = .ok (.putfield 21, 3) := by decide +kernel
theorem dc_cX4_init_23 : decode cX4_init 23 = .ok (.iconst 0, 1) := by decide +kernel
theorem dc_cX4_init_24 : decode cX4_init 24 = .ok (.istore_n 1, 1) := by decide +kernel
theorem dc_cX4_init_25 : decode cX4_init 25 = .ok (.iload_n 1, 1) := by decide +kernel
theorem dc_cX4_init_26 : decode cX4_init 26 = .ok (.aload_n 0, 1) := by decide +kernel
theorem dc_cX4_init_27 : decode cX4_init 27 = .ok (.getfield 11, 3) := by decide +kernel
theorem dc_cX4_init_30 : decode cX4_init 30 = .ok (.arraylength, 1) := by decide +kernel
theorem dc_cX4_init_31 : decode cX4_init 31 = .ok (.if_icmp .ge 22, 3) := by decide +kernel
theorem dc_cX4_init_34 : decode cX4_init 34 = .ok (.aload_n 0, 1) := by decide +kernel
theorem dc_cX4_init_35 : decode cX4_init 35 = .ok (.getfield 11, 3) := by decide +kernel
theorem dc_cX4_init_38 : decode cX4_init 38 = .ok (.iload_n 1, 1) := by decide +kernel
theorem dc_cX4_init_39 : decode cX4_init 39 = .ok (.new 9, 3) := by decide +kernel
theorem dc_cX4_init_42 : decode cX4_init 42 = .ok (.dup, 1) := by decide +kernel
theorem dc_cX4_init_43 : decode cX4_init 43 = .ok (.invokespecial 24, 3) := by decide +kernel
theorem dc_cX4_init_46 : decode cX4_init 46 = .ok (.aastore, 1) := by decide +kernel
theorem dc_cX4_init_47 : decode cX4_init 47 = .ok (.iinc 1 1, 3) := by decide +kernel
theorem dc_cX4_init_50 : decode cX4_init 50 = .ok (.goto (-25), 3) := by decide +kernel
theorem dc_cX4_init_53 : decode cX4_init 53 = .ok (.return_, 1) := by decide +kernel
/-- decks, one after another -/
def fc_dks (Λ : fg_La) (dl : List (Nat × (Nat → Nat))) : va_W := dl.flatMap (fun d => fc_W0 Λ d.1 d.2)
def fc_dr (dl : List (Nat × (Nat → Nat))) (j : Nat) : Option Nat := (dl[j]?).map (fun d => d.1)
def fc_pw (Λ : fg_La) (h0 qa : Nat) (dl : List (Nat × (Nat → Nat))) : va_W := (h0, .inr (4, [.ref qa, .int 0, .int 0])) :: (qa, .inl (Λ.2.2.2.1, 16, .inr (.inr (.inr (.inr (fc_dr dl)))))) :: fc_dks Λ dl
def fc_p4 (Λ : fg_La) (h0 : Nat) (w : va_W) : Prop := ∃ (qa : Nat) (dl : List (Nat × (Nat → Nat))), dl.length = 16 ∧ w = fc_pw Λ h0 qa dl
theorem fc_dks_s {Λ : fg_La} {dl : List (Nat × (Nat → Nat))} {q : Nat} {r : Nat → Nat} : fc_dks Λ (dl ++ [(q, r)]) = fc_dks Λ dl ++ fc_W0 Λ q r := by
  unfold fc_dks
  rw [List.flatMap_append, List.flatMap_cons, List.flatMap_nil, List.append_nil]
theorem fc_dr_s {dl : List (Nat × (Nat → Nat))} {q i : Nat} {r : Nat → Nat} (hi : dl.length = i) : va_up (fc_dr dl) i (some q) = fc_dr (dl ++ [(q, r)]) := by
  subst hi
  funext j
  unfold va_up fc_dr
  by_cases h : j = dl.length
  · rw [if_pos h, h, List.getElem?_append_right (Nat.le_refl _), Nat.sub_self]
    rfl
  · rw [if_neg h]
    by_cases h2 : j < dl.length
    · rw [List.getElem?_append_left h2]
    · rw [List.getElem?_append_right (by omega), List.getElem?_eq_none (by omega)]
      have : j - dl.length ≠ 0 := by omega
      rw [List.getElem?_eq_none (by simp; omega)]
theorem fc_W0_0 (Λ : fg_La) (q : Nat) (r : Nat → Nat) : ∃ e, (fc_W0 Λ q r)[0]? = some (q, .inr (0, e)) := ⟨_, rfl⟩
section
variable {p : Program} {l : Launch} {e : Env} {s : State} {m : MethodId} {args : Array Value} {below : List Frame} {meth : Method} {c : Code} {Q : State → Prop} {Λ : fg_La} {A : Nat → Prop} {H0 : Heap} {h0 qa : Nat}
set_option maxHeartbeats 4000000 in
set_option maxRecDepth 100000 in
theorem fc_loop4 (hx : p.tables.exec = Jvm.exec) (hb : c.code = cX4_init) (hml : c.maxLocals = 2) (hown : s.vm.findClass RX4 = some m.cls) (hts : ∀ w ∈ fg_T, w.before args s = true) (hE : fc_E Λ s) (hA : ∀ q, H0.size ≤ q → A q) (kk : ∀ (dl : List (Nat × (Nat → Nat))) (H : Heap) (locs : List Loc) (ls : Array Slot), dl.length = 16 → va_P (fg_D Λ) vwCl (fc_pw Λ h0 qa dl) H → va_D A (fc_pw Λ h0 qa dl) → va_S A H0 H locs → W p l e (fc_rm 2 129 1248) s m args below meth c H locs 129 1248 Q (F0 m 53 ls [])) : ∀ (n i : Nat) (dl : List (Nat × (Nat → Nat))) (H : Heap) (locs : List Loc) (ls : Array Slot), i + n = 16 → dl.length = i → lv_has ls 2 [(1, .int (nI i)), (0, .ref h0)] → va_P (fg_D Λ) vwCl (fc_pw Λ h0 qa dl) H → va_D A (fc_pw Λ h0 qa dl) → va_S A H0 H locs → W p l e (fc_rm 2 129 1248) s m args below meth c H locs (1 + 8 * i) (16 + 77 * i) Q (F0 m 25 ls []) := by
  have hK := hE.1.1
  intro n
  induction n with
  | zero =>
    intro i dl H locs ls hi hd hl hP hD hS
    have hi : i = 16 := by omega
    subst hi
    refine lv_iload_n hx hb dc_cX4_init_25 rfl (lv_at hl 0 rfl) ?_
    refine lv_aload_n hx hb dc_cX4_init_26 rfl (lv_at hl 1 rfl) ?_
    refine va_get (C := RX4) (T := TX4) (N := 3) (ci := 4) hx hb hts (fc_lay 4 rfl) hown hK hP 0 rfl rfl 0 (by decide) (hts _ (fg_w_in (w := 233) (c := .fieldLink RX4 11 "FlagSignals$Past" "decks" "[LFlagSignals$Deck;") (by decide +kernel) (by decide +kernel))) (fun _ h9 => h9) rfl dc_cX4_init_27 ?_
    refine va_alen hx hb hK hP 1 2 rfl rfl rfl dc_cX4_init_30 ?_
    refine lv_icmp_ge (tgt := 53) hx hb dc_cX4_init_31 (by decide) (fun _ => ?_) (fun q => absurd (nI_le (a := 16) (b := 16) (by decide) (by decide)) q)
    exact kk dl H locs ls hd hP hD hS
  | succ n ih =>
    intro i dl H locs ls hi hd hl hP hD hS
    refine lv_iload_n hx hb dc_cX4_init_25 rfl (lv_at hl 0 rfl) ?_
    refine lv_aload_n hx hb dc_cX4_init_26 rfl (lv_at hl 1 rfl) ?_
    refine va_get (C := RX4) (T := TX4) (N := 3) (ci := 4) hx hb hts (fc_lay 4 rfl) hown hK hP 0 rfl rfl 0 (by decide) (hts _ (fg_w_in (w := 233) (c := .fieldLink RX4 11 "FlagSignals$Past" "decks" "[LFlagSignals$Deck;") (by decide +kernel) (by decide +kernel))) (fun _ h9 => h9) rfl dc_cX4_init_27 ?_
    refine va_alen hx hb hK hP 1 2 rfl rfl rfl dc_cX4_init_30 ?_
    refine lv_icmp_ge (tgt := 53) hx hb dc_cX4_init_31 (by decide) (fun q => absurd q (nI_ge (b := 16) (by omega) (by decide))) (fun _ => ?_)
    refine lv_aload_n hx hb dc_cX4_init_34 rfl (lv_at hl 1 rfl) ?_
    refine va_get (C := RX4) (T := TX4) (N := 3) (ci := 4) hx hb hts (fc_lay 4 rfl) hown hK hP 0 rfl rfl 0 (by decide) (hts _ (fg_w_in (w := 233) (c := .fieldLink RX4 11 "FlagSignals$Past" "decks" "[LFlagSignals$Deck;") (by decide +kernel) (by decide +kernel))) (fun _ h9 => h9) rfl dc_cX4_init_35 ?_
    refine lv_iload_n hx hb dc_cX4_init_38 rfl (lv_at hl 0 rfl) ?_
    refine fc_sub (host := "FlagSignals") (C := "FlagSignals$Deck") (T := TX0) (N := 12) (ci := 0) (k := 1) (mc := 7) (ms := 65) (fs := [.null, .null, .null, .null, .null, .null, .null, .int 0, .int 0, .int 0, .int 0, .int 0]) (post := fc_p0 Λ) ⟨hx, hb, hml, hown, hts⟩ hE hP hD hS hA rfl tyX0 tyX0_ok (by decide) (hts _ (fg_w_in (w := 230) (c := .classLink RX4 9 "FlagSignals$Deck") (by decide +kernel) (by decide +kernel))) (hts _ (fg_w_in (w := 170) (c := .instantiable "FlagSignals$Deck" 12) (by decide +kernel) (by decide +kernel))) (hts _ (fg_w_in (w := 76) (c := .initialized "FlagSignals$Deck") (by decide +kernel) (by decide +kernel))) (fun h0 sz => fc_init0 l h0 sz) ⟨Or.inl (va_cnB (host := "FlagSignals") 0 hts (fc_good (fg_w_in (w := 173) (c := .code yX0_init cX0_init 1 none) (by decide +kernel) (by decide +kernel))) rfl rfl rfl (hE.2.1 _ (List.mem_of_getElem? (i := 3) rfl)) (hts _ (fg_w_in (w := 76) (c := .initialized "FlagSignals$Deck") (by decide +kernel) (by decide +kernel))) ⟨by decide, by decide, rfl⟩ ⟨Nat.le_of_ble_eq_true rfl, Nat.le_of_ble_eq_true rfl⟩), rfl, (hts _ (fg_w_in (w := 172) (c := .instanceMethod yX0_init) (by decide +kernel) (by decide +kernel)))⟩ hl.1 (Nat.le_of_ble_eq_true rfl) (by show 1 + 8 * i + 1 + 7 ≤ 129; omega) (by show 16 + 77 * i + 12 + 65 ≤ 1248; omega) dc_cX4_init_39 dc_cX4_init_42 dc_cX4_init_43 (fun q w1 H locs hw1 hP hD hS => ?_)
    obtain ⟨r, rfl⟩ := hw1
    have e1 : 1 + 8 * i + 1 + 7 = 1 + 8 * (i + 1) := by omega
    have e2 : 16 + 77 * i + 12 + 65 = 16 + 77 * (i + 1) := by omega
    rw [e1, e2]
    refine va_astq (r := (RX0, TX0, 12)) (v := q) (vs := [.ref (r 1), .ref (r 2), .ref (r 3), .ref (r 4), .ref (r 5), .ref (r 6), .ref (r 7), .int 0, .int 0, .int 0, .int 0, .int 0]) hx hb hK hP hD hS 1 2 (2 + (fc_dks Λ dl).length) 0 rfl rfl ?_ rfl (vp_in_nI (by omega) (by decide)) dc_cX4_init_46 (fun H locs hP hD hS => ?_)
    · rw [List.getElem?_append_right (by show (fc_dks Λ dl).length + 1 + 1 ≤ _; omega)]
      have e5 : 2 + (fc_dks Λ dl).length - (fc_pw Λ h0 qa dl).length = 0 := by show 2 + (fc_dks Λ dl).length - ((fc_dks Λ dl).length + 1 + 1) = 0; omega
      rw [e5]
      rfl
    · have hP : va_P (fg_D Λ) vwCl ((h0, .inr (4, [.ref qa, .int 0, .int 0])) :: (qa, .inl (Λ.2.2.2.1, 16, .inr (.inr (.inr (.inr (va_up (fc_dr dl) (nI i).toNatClampNeg (some q))))))) :: (fc_dks Λ dl ++ fc_W0 Λ q r)) H := hP
      have hD : va_D A ((h0, .inr (4, [.ref qa, .int 0, .int 0])) :: (qa, .inl (Λ.2.2.2.1, 16, .inr (.inr (.inr (.inr (va_up (fc_dr dl) (nI i).toNatClampNeg (some q))))))) :: (fc_dks Λ dl ++ fc_W0 Λ q r)) := hD
      rw [nI_clamp (by omega), fc_dr_s (r := r) hd, ← fc_dks_s] at hP hD
      refine lv_iinc hx hb dc_cX4_init_47 hl (k := 0) rfl (show nI i + 1 = nI (i + 1) from nI_1 ..) (by decide) rfl (fun ls hl => ?_)
      refine lv_goto (tgt := 25) hx hb dc_cX4_init_50 (by decide) ?_
      exact ih (i + 1) (dl ++ [(q, r)]) H locs ls (by omega) (by rw [List.length_append, hd]; rfl) hl hP hD hS
end
set_option maxHeartbeats 4000000 in
set_option maxRecDepth 100000 in
theorem fc_init4 (l : Launch) {Λ : fg_La} (h0 sz : Nat) : Met l yX4_init (.code yX4_init cX4_init 2 none :: fg_T) (fc_rm 2 129 1248) (va_Pc [.ref h0] (fc_Pre Λ sz [(h0, .inr (4, [.null, .int 0, .int 0]))])) (va_Qv (fun w : va_W => fc_p4 Λ h0 w) (fc_B Λ (va_A [(h0, .inr (4, [.null, .int 0, .int 0]))] sz)) (va_A [(h0, .inr (4, [.null, .int 0, .int 0]))] sz)) 129 1248 (va_A [(h0, .inr (4, [.null, .int 0, .int 0]))] sz) := by
  refine Met.ofW (cc := cX4_init) (maxL := 2) (ret := none) (by decide) rfl ?_
  intro p e s m args below meth c s₁ B hml hv
  obtain ⟨rfl, hsz, hP, hD0, hE⟩ := hv
  have hx := B.exec
  have hb := B.bytes
  have hr := B.returns
  have hts0 := atoms_spec (ws := .code yX4_init cX4_init 2 none :: fg_T) B.pre
  have hts : ∀ w ∈ fg_T, w.before (([.ref h0] : List Value).toArray) s = true := fun w hw => hts0 w (List.mem_cons_of_mem _ hw)
  have hown : s.vm.findClass RX4 = some m.cls := findClass_of_methodNamed B.named
  have hlocks := B.notSynchronized
  have hin : meth.name = "<init>" := (name_of_methodNamed B.named B.method).1
  subst hsz
  have hD := hD0.self (sz := s.heap.size)
  generalize hAe : va_A [(h0, .inr (4, [.null, .int 0, .int 0]))] s.heap.size = A at hD ⊢
  have hA : ∀ q : Nat, s.heap.size ≤ q → A q := fun q h => by rw [← hAe]; exact Or.inr h
  have hS : va_S A s.heap s.heap [] := va_S.rf
  have hK := hE.1.1
  have hP : va_P (fg_D Λ) vwCl [(h0, .inr (4, [.null, .int 0, .int 0]))] s.heap := hP
  have hl := lv_entry ([.ref h0]) (n := 2) (Nat.le_of_ble_eq_true rfl)
  rw [lg_entry_eq]
  generalize (lg_sl ([.ref h0]) ++ List.replicate (2 - (lg_sl ([.ref h0])).length) Slot.unset).toArray = ls at hl ⊢
  have hl : lv_has ls 2 [(0, .ref h0)] := hl
  refine lv_aload_n hx hb dc_cX4_init_0 rfl (lv_at hl 0 rfl) ?_
  refine W.objInit hx hb hown (hts _ (fg_w_in (w := 229) (c := .methodLink RX4 3 objectInit) (by decide +kernel) (by decide +kernel))) (hts _ (fg_w_in (w := 93) (c := .instanceMethod objectInit) (by decide +kernel) (by decide +kernel))) (hts _ (fg_w_in (w := 94) (c := .code objectInit ⟨#[0xb1]⟩ 1 none) (by decide +kernel) (by decide +kernel))) rfl (by rw [hml]; exact hl.1) rfl dc_cX4_init_1 (Nat.le_of_ble_eq_true rfl) (Nat.le_of_ble_eq_true rfl) ?_
  refine W.eq (g2 := F0 m 4 ls []) rfl ?_
  refine lv_aload_n hx hb dc_cX4_init_4 rfl (lv_at hl 0 rfl) ?_
  refine lv_bipush (v := 16) hx hb dc_cX4_init_5 (by decide) ?_
  refine va_newq (C := "FlagSignals$Deck") (n := 16) (N' := 16) hx hb hown (hts _ (fg_w_in (w := 230) (c := .classLink RX4 9 "FlagSignals$Deck") (by decide +kernel) (by decide +kernel))) hE.2.2.1 hK hP hD hS hA (by decide) (by decide) (by decide) (Nat.le_of_ble_eq_true rfl) (Nat.le_of_ble_eq_true rfl) dc_cX4_init_7 (fun qa cA H hK1 hP hD hS => ?_)
  have e3 : cA = Λ.2.2.2.1 := Option.some.inj ((va_nmO (hK1.2 4 _ rfl).2 rfl).symm.trans (va_nmO (C := "FlagSignals$Deck") (hK.2 2 _ rfl).2 rfl))
  rw [e3] at hP hD
  refine va_putF (D := fg_D Λ) (ci := 4) (v := .ref qa) (ty := .array (.object "FlagSignals$Deck")) (C := RX4) (T := TX4) (N := 3) hx hb hts (fc_lay 4 rfl) tyX4 tyX4_ok nmX4 hown hK hP hD hS 0 rfl rfl 0 (by decide) (hts _ (fg_w_in (w := 233) (c := .fieldLink RX4 11 "FlagSignals$Past" "decks" "[LFlagSignals$Deck;") (by decide +kernel) (by decide +kernel))) (fun _ h9 => h9) rfl hin rfl (by decide +kernel) rfl rfl (Nat.le_of_ble_eq_true rfl) dc_cX4_init_10 (fun H locs hP hD hS => ?_)
  have hP : va_P (fg_D Λ) vwCl [(h0, .inr (4, [.ref qa, .int 0, .int 0])), (qa, .inl (Λ.2.2.2.1, 16, .inr (.inr (.inr (.inr (fun _ => none))))))] H := hP
  have hD : va_D A [(h0, .inr (4, [.ref qa, .int 0, .int 0])), (qa, .inl (Λ.2.2.2.1, 16, .inr (.inr (.inr (.inr (fun _ => none))))))] := hD
  refine lv_aload_n hx hb dc_cX4_init_13 rfl (lv_at hl 0 rfl) ?_
  refine lv_iconst (v := 0) hx hb dc_cX4_init_14 (by decide) ?_
  refine va_put (D := fg_D Λ) (ci := 4) (v := .int 0) (ty := .int) (C := RX4) (T := TX4) (N := 3) hx hb hts (fc_lay 4 rfl) tyX4 tyX4_ok nmX4 hown hK hP hD hS 0 rfl rfl 1 (by decide) (hts _ (fg_w_in (w := 234) (c := .fieldLink RX4 17 "FlagSignals$Past" "first" "I") (by decide +kernel) (by decide +kernel))) (fun _ h9 => h9) rfl (by decide +kernel) rfl rfl (Nat.le_of_ble_eq_true rfl) dc_cX4_init_15 (fun H locs hP hD hS => ?_)
  have hP : va_P (fg_D Λ) vwCl [(h0, .inr (4, [.ref qa, .int 0, .int 0])), (qa, .inl (Λ.2.2.2.1, 16, .inr (.inr (.inr (.inr (fun _ => none))))))] H := hP
  have hD : va_D A [(h0, .inr (4, [.ref qa, .int 0, .int 0])), (qa, .inl (Λ.2.2.2.1, 16, .inr (.inr (.inr (.inr (fun _ => none))))))] := hD
  refine lv_aload_n hx hb dc_cX4_init_18 rfl (lv_at hl 0 rfl) ?_
  refine lv_iconst (v := 0) hx hb dc_cX4_init_19 (by decide) ?_
  refine va_put (D := fg_D Λ) (ci := 4) (v := .int 0) (ty := .int) (C := RX4) (T := TX4) (N := 3) hx hb hts (fc_lay 4 rfl) tyX4 tyX4_ok nmX4 hown hK hP hD hS 0 rfl rfl 2 (by decide) (hts _ (fg_w_in (w := 235) (c := .fieldLink RX4 21 "FlagSignals$Past" "count" "I") (by decide +kernel) (by decide +kernel))) (fun _ h9 => h9) rfl (by decide +kernel) rfl rfl (Nat.le_of_ble_eq_true rfl) dc_cX4_init_20 (fun H locs hP hD hS => ?_)
  have hP : va_P (fg_D Λ) vwCl [(h0, .inr (4, [.ref qa, .int 0, .int 0])), (qa, .inl (Λ.2.2.2.1, 16, .inr (.inr (.inr (.inr (fun _ => none))))))] H := hP
  have hD : va_D A [(h0, .inr (4, [.ref qa, .int 0, .int 0])), (qa, .inl (Λ.2.2.2.1, 16, .inr (.inr (.inr (.inr (fun _ => none))))))] := hD
  refine lv_iconst (v := 0) hx hb dc_cX4_init_23 (by decide) ?_
  refine lv_istore_n hx hb dc_cX4_init_24 rfl hl (by decide) rfl (fun ls hl => ?_)
  refine fc_loop4 (h0 := h0) (qa := qa) hx hb hml hown hts hE hA (fun dl H locs ls hd hP hD hS => ?_) 16 0 [] H locs ls rfl rfl hl hP hD hS
  exact W.vret hx hb hr (fun t ht hW => ⟨⟨_, rfl, ⟨qa, dl, hd, rfl⟩, by rw [ht]; exact hP, hD⟩, hS.F ht⟩) hS.2.2 dc_cX4_init_53
