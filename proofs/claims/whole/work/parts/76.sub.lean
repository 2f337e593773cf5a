/-! A CELL MADE AND FILLED BY ITS CONSTRUCTOR: new, dup, invokespecial -/
theorem fc_P1 {D : va_G} {cl : List vw_C} {x : Nat × va_E} {ws : va_W} {H : Heap} (h : va_P D cl ([x] ++ ws) H) : va_P D cl [x] H := fun k q hk => by
  have hl : k < [x].length := (List.getElem?_eq_some_iff.mp hk).1
  exact h k q (by rw [List.getElem?_append_left hl]; exact hk)
theorem fc_D1 (x : Nat × va_E) : va_D (fun _ => True) [x] := by
  refine ⟨fun i j p q hi hj _ => ?_, fun _ _ _ => trivial⟩
  have h1 : i < [x].length := (List.getElem?_eq_some_iff.mp hi).1
  have h2 : j < [x].length := (List.getElem?_eq_some_iff.mp hj).1
  simp at h1 h2
  omega
theorem fc_blind {Λ : fg_La} {vs : List Value} {sz : Nat} {ws : va_W} : FrameBlind (va_Pc vs (fc_Pre Λ sz ws)) := fun a U g mk q => by
  obtain ⟨q1, q2, q3, q4, q5⟩ := q
  exact ⟨q1, q2, q3, q4, q5.calling g mk a⟩
section
variable {p : Program} {l : Launch} {e : Env} {R : Room} {s : State} {m : MethodId} {args : Array Value} {below : List Frame} {meth : Method} {c : Code} {H : Heap} {locs : List Loc} {cells slots : Nat} {Q : State → Prop}
variable {cc : ByteArray} {pc : Nat} {ls : Array Slot} {rest : List Value} {Λ : fg_La} {A : Nat → Prop} {ws : va_W} {H0 : Heap}
theorem fc_sub {own host C : String} {T : u_T} {N ci nL x y mc ms k maxL : Nat} {Y : MethodName} {bytes : ByteArray} {fs : List Value} {post : Nat → va_W → Prop} (S : CallFix p m c cc nL s args fg_T own) (hE : fc_E Λ s) (hP : va_P (fg_D Λ) vwCl ws H) (hD : va_D A ws) (hS : va_S A H0 H locs) (hA : ∀ q, H0.size ≤ q → A q)
    (hc : vwCl[ci]? = some (C, T, N)) (ty : Nat → FieldType) (hty : ∀ k, k < N → parseFieldDescriptor (T k).2.2.1 = some (ty k)) (hfs : ∀ j, j < N → defaultValue (ty j) = vp_V fs j) (hcl : (Cond.classLink own x C).before args s = true) (hinst : (Cond.instantiable C N).before args s = true) (hini : (Cond.initialized C).before args s = true)
    (hM : ∀ h0 sz, Met l Y (.code Y bytes maxL none :: fg_T) (fc_rm k mc ms) (va_Pc [.ref h0] (fc_Pre Λ sz [(h0, .inr (ci, fs))])) (va_Qv (fun w : va_W => post h0 w) (fc_B Λ (va_A [(h0, .inr (ci, fs))] sz)) (va_A [(h0, .inr (ci, fs))] sz)) mc ms (va_A [(h0, .inr (ci, fs))] sz))
    (hcw : (va_CN R s args own y Y host bytes maxL none (.code Y bytes maxL none :: fg_T) (fc_rm k mc ms) mc ms 0 ∨ CallB R s args own y Y bytes maxL none (.code Y bytes maxL none :: fg_T) (fc_rm k mc ms) mc ms 0) ∧ Y.name = "<init>" ∧ (Cond.instanceMethod Y).before args s = true)
    (hsize : ls.size = nL) (hW : (rest.map fun v => v.category).sum ≤ 7) (hcells : cells + 1 + mc ≤ R.cells) (hslots : slots + N + ms ≤ R.slots) (hd1 : decode cc pc = .ok (.new x, 3)) (hd2 : decode cc (pc + 3) = .ok (.dup, 1)) (hd3 : decode cc (pc + 4) = .ok (.invokespecial y, 3))
    (kk : ∀ (q : Nat) (w1 : va_W) (H1 : Heap) (locs1 : List Loc), post q w1 → va_P (fg_D Λ) vwCl (ws ++ w1) H1 → va_D A (ws ++ w1) → va_S A H0 H1 locs1 → W p l e R s m args below meth c H1 locs1 (cells + 1 + mc) (slots + N + ms) Q (F0 m (pc + 7) ls (.ref q :: rest))) : W p l e R s m args below meth c H locs cells slots Q (F0 m pc ls rest) := by
  obtain ⟨hx, hb, hml, hown, hts⟩ := id S
  refine va_new (C := C) (T := T) (N := N) hx hb hts (fc_lay ci hc) ty hty hown hcl hinst hini hE.1.1 hP hD hS hA hc (fs := fs) hfs (by omega) (by omega) hd1 (fun q H1 hP hD hS => ?_)
  refine lv_dup hx hb hd2 rfl ?_
  have hP' : va_P (fg_D Λ) vwCl ([(q, .inr (ci, fs))] ++ ws) H1 := va_P.swap (a := []) hP
  have hD' : va_D A ([(q, .inr (ci, fs))] ++ ws) := va_D.swap (a := []) hD
  have hF : ∀ z, va_A [(q, .inr (ci, fs))] H1.size z → A z := va_free hD' hS hA [0] rfl
  have hp : PreS s H1 (va_Pc [.ref q] (fc_Pre Λ H1.size [(q, .inr (ci, fs))])) [.ref q] := ⟨fc_blind, fun U hU hWm => ⟨rfl, by rw [hU], by rw [hU]; exact fc_P1 hP', fc_D1 _, hE.warm hWm⟩⟩
  have run : va_Run p l e R s m args below meth c H1 locs (cells + 1) (slots + N) mc ms (F0 m (pc + 4) ls (.ref q :: .ref q :: rest)) (.ref q :: rest) (va_Qv (fun w : va_W => post q w) (fc_B Λ (va_A [(q, .inr (ci, fs))] H1.size)) (va_A [(q, .inr (ci, fs))] H1.size) ([.ref q] : List Value).toArray) (va_A [(q, .inr (ci, fs))] H1.size) := by
    have hW8 : 2 * (F0 m (pc + 4) ls (.ref q :: .ref q :: rest)).monitorRoom + ((Value.ref q :: rest).map fun v => v.category).sum ≤ 8 := by
      show 2 * 0 + _ ≤ 8
      rw [List.map_cons, List.sum_cons]
      show 0 + (1 + _) ≤ 8
      omega
    rcases hcw.1 with h | h
    · exact va_runIN (b := q) (As := []) S (hM q H1.size) ⟨h, hcw.2⟩ hp rfl rfl hsize rfl hW8 hd3 ⟨hcells, hslots⟩
    · exact va_runI (b := q) (As := []) S (hM q H1.size) ⟨h, hcw.2⟩ hp rfl rfl hsize rfl hW8 hd3 ⟨hcells, hslots⟩
  refine va_callv run hS (fun z _ h => hF z h) hF (fun w1 t H2 locs1 et _ hq hB hz hk hS2 => ?_)
  obtain ⟨hP2, hD2⟩ := hB
  rw [et] at hP2
  obtain ⟨g1, g2⟩ := va_joinQ (X := [(q, .inr (ci, fs))]) (cx := [(q, .inr (ci, fs))]) (wr := []) hP' hD' [0] [] rfl rfl rfl (fun i hi => absurd hi (List.not_mem_nil)) hk hF hP2 hD2
  exact kk q w1 H2 locs1 hq (va_P.swap (a := []) g1) (va_D.swap (a := []) g2) hS2
theorem fc_good {w : Jvm.Cond} (h : w ∈ fg_T) : GoodIn fg_T (w :: fg_T) := fg_good (fun v hv => by
  rcases List.mem_cons.mp hv with rfl | hv
  · exact h
  · exact hv)
end
