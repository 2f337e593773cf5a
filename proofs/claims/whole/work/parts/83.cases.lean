/-! THE LAW'S 27 CASES (laid by wip/whole/gen82.py) -/
section
variable {p : Program} {l : Launch} {e : Env} {s : State} {m : MethodId} {below : List Frame} {meth : Method} {c : Code} {b L i : Nat} {xs : Nat → Int32} {Λ : fg_La} {σ : fg_St} {H : Heap} {locs : List Loc} {ls : Array Slot} {cells slots : Nat} {Q : State → Prop}
set_option maxRecDepth 100000 in
set_option maxHeartbeats 1000000 in
theorem lw_case_0 (C : lw_Cx p s m meth c b L xs Λ) (hi5 : i + 5 ≤ L) (hl : lv_has ls 4 [(0, .ref b), (1, .ref (Λ.1 0)), (2, .ref (Λ.1 187)), (3, .int (nI i))]) (hc : cells ≤ 600000) (hsl : slots ≤ 7302250) (hInv : lw_Inv σ) (hP : va_P (fg_D Λ) vwCl (fg_ws Λ σ) H) (hS : va_S (fun q : Nat => s.heap.size ≤ q) s.heap H locs) (kk : ∀ (u : fg_St) (H1 : Heap) (locs1 : List Loc), lw_Inv u → va_P (fg_D Λ) vwCl (fg_ws Λ u) H1 → va_S (fun q : Nat => s.heap.size ≤ q) s.heap H1 locs1 → W p l e room_1 s m #[Value.ref b] below meth c H1 locs1 cells slots Q (F0 m 909 ls [])) : W p l e room_1 s m #[Value.ref b] below meth c H locs cells slots Q (F0 m 156 ls []) := by
  have C' := C
  obtain ⟨⟨hx, hb, hr, hml, hown, hts0, hX, hbl, hlocks, hgv⟩, hE, hi, hA, hL⟩ := C'
  have hbA : ¬ (fun q : Nat => s.heap.size ≤ q) b := Nat.not_le.mpr hbl
  have v1 : vp_in (nI i + 1) L := lw_at 1 hL hi5 (by decide)
  have v2 : vp_in (nI i + 2) L := lw_at 2 hL hi5 (by decide)
  have v3 : vp_in (nI i + 3) L := lw_at 3 hL hi5 (by decide)
  have v4 : vp_in (nI i + 4) L := lw_at 4 hL hi5 (by decide)
  refine lv_aload_n hx hb dc_law_156 rfl (lv_at hl 1 rfl) ?_
  refine lv_aload_n hx hb dc_law_157 rfl (lv_at hl 0 rfl) ?_
  refine lv_iload_n hx hb dc_law_158 rfl (lv_at hl 3 rfl) ?_
  refine lv_iconst (v := 1) hx hb dc_law_159 (by decide) ?_
  refine lv_iadd hx hb dc_law_160 ?_
  refine va_sld hx hb hX hbl hbA hS v1 dc_law_161 ?_
  obtain ⟨Pm, r1, r2⟩ := lw_feed (a := (xs (nI i + 1).toNatClampNeg)) σ hInv
  refine lw_call (j := 60) (h := 0) (N := (yX9_feed, cX9_feed, 2, (some .int))) (q := (RX9, TX9, 13)) (As := [.int (xs (nI i + 1).toNatClampNeg)]) (rest := []) C hP hS hl.1 rfl rfl (fg_w_in (w := 400) (c := .methodLink R_law 13 yX9_feed) (by decide +kernel) (by decide +kernel)) rfl rfl rfl rfl (Nat.le_of_ble_eq_true rfl) (Nat.le_of_ble_eq_true rfl) r1 rfl rfl dc_law_162 hc hsl (fun y1 u1 H locs g1 hP hS => ?_)
  refine lv_aload_n hx hb dc_law_165 rfl (lv_at hl 2 rfl) ?_
  refine lv_aload_n hx hb dc_law_166 rfl (lv_at hl 0 rfl) ?_
  refine lv_iload_n hx hb dc_law_167 rfl (lv_at hl 3 rfl) ?_
  refine lv_iconst (v := 1) hx hb dc_law_168 (by decide) ?_
  refine lv_iadd hx hb dc_law_169 ?_
  refine va_sld hx hb hX hbl hbA hS v1 dc_law_170 ?_
  refine lw_call (j := 116) (h := 187) (N := (yX10_feed, cX10_feed, 2, (some .int))) (q := (RX10, TX10, 37)) (As := [.int (xs (nI i + 1).toNatClampNeg)]) (rest := [.int y1]) C hP hS hl.1 rfl rfl (fg_w_in (w := 991) (c := .methodLink R_law 17 yX10_feed) (by decide +kernel) (by decide +kernel)) rfl rfl rfl rfl (Nat.le_of_ble_eq_true rfl) (Nat.le_of_ble_eq_true rfl) (r2 y1 u1 g1) rfl rfl dc_law_171 hc hsl (fun y2 u2 H locs g2 hP hS => ?_)
  exact lv_icmp_eq (tgt := 909) hx hb dc_law_174 (by decide) (fun _ => kk u2 H locs g2.2 hP hS) (fun q => absurd g2.1.symm q)
set_option maxRecDepth 100000 in
set_option maxHeartbeats 1000000 in
theorem lw_case_1 (C : lw_Cx p s m meth c b L xs Λ) (hi5 : i + 5 ≤ L) (hl : lv_has ls 4 [(0, .ref b), (1, .ref (Λ.1 0)), (2, .ref (Λ.1 187)), (3, .int (nI i))]) (hc : cells ≤ 600000) (hsl : slots ≤ 7302250) (hInv : lw_Inv σ) (hP : va_P (fg_D Λ) vwCl (fg_ws Λ σ) H) (hS : va_S (fun q : Nat => s.heap.size ≤ q) s.heap H locs) (kk : ∀ (u : fg_St) (H1 : Heap) (locs1 : List Loc), lw_Inv u → va_P (fg_D Λ) vwCl (fg_ws Λ u) H1 → va_S (fun q : Nat => s.heap.size ≤ q) s.heap H1 locs1 → W p l e room_1 s m #[Value.ref b] below meth c H1 locs1 cells slots Q (F0 m 909 ls [])) : W p l e room_1 s m #[Value.ref b] below meth c H locs cells slots Q (F0 m 179 ls []) := by
  have C' := C
  obtain ⟨⟨hx, hb, hr, hml, hown, hts0, hX, hbl, hlocks, hgv⟩, hE, hi, hA, hL⟩ := C'
  have hbA : ¬ (fun q : Nat => s.heap.size ≤ q) b := Nat.not_le.mpr hbl
  have v1 : vp_in (nI i + 1) L := lw_at 1 hL hi5 (by decide)
  have v2 : vp_in (nI i + 2) L := lw_at 2 hL hi5 (by decide)
  have v3 : vp_in (nI i + 3) L := lw_at 3 hL hi5 (by decide)
  have v4 : vp_in (nI i + 4) L := lw_at 4 hL hi5 (by decide)
  refine lv_aload_n hx hb dc_law_179 rfl (lv_at hl 1 rfl) ?_
  obtain ⟨Pm, r1, r2⟩ := lw_ship  σ hInv
  refine lw_call (j := 61) (h := 0) (N := (yX9_ship, cX9_ship, 4, (some .int))) (q := (RX9, TX9, 13)) (As := []) (rest := []) C hP hS hl.1 rfl rfl (fg_w_in (w := 410) (c := .methodLink R_law 18 yX9_ship) (by decide +kernel) (by decide +kernel)) rfl rfl rfl rfl (Nat.le_of_ble_eq_true rfl) (Nat.le_of_ble_eq_true rfl) r1 rfl rfl dc_law_180 hc hsl (fun y1 u1 H locs g1 hP hS => ?_)
  refine lv_aload_n hx hb dc_law_183 rfl (lv_at hl 2 rfl) ?_
  refine lw_call (j := 126) (h := 187) (N := (yX10_ship, cX10_ship, 2, (some .int))) (q := (RX10, TX10, 37)) (As := []) (rest := [.int y1]) C hP hS hl.1 rfl rfl (fg_w_in (w := 1001) (c := .methodLink R_law 22 yX10_ship) (by decide +kernel) (by decide +kernel)) rfl rfl rfl rfl (Nat.le_of_ble_eq_true rfl) (Nat.le_of_ble_eq_true rfl) (r2 y1 u1 g1) rfl rfl dc_law_184 hc hsl (fun y2 u2 H locs g2 hP hS => ?_)
  exact lv_icmp_eq (tgt := 909) hx hb dc_law_187 (by decide) (fun _ => kk u2 H locs g2.2 hP hS) (fun q => absurd g2.1.symm q)
set_option maxRecDepth 100000 in
set_option maxHeartbeats 1000000 in
theorem lw_case_2 (C : lw_Cx p s m meth c b L xs Λ) (hi5 : i + 5 ≤ L) (hl : lv_has ls 4 [(0, .ref b), (1, .ref (Λ.1 0)), (2, .ref (Λ.1 187)), (3, .int (nI i))]) (hc : cells ≤ 600000) (hsl : slots ≤ 7302250) (hInv : lw_Inv σ) (hP : va_P (fg_D Λ) vwCl (fg_ws Λ σ) H) (hS : va_S (fun q : Nat => s.heap.size ≤ q) s.heap H locs) (kk : ∀ (u : fg_St) (H1 : Heap) (locs1 : List Loc), lw_Inv u → va_P (fg_D Λ) vwCl (fg_ws Λ u) H1 → va_S (fun q : Nat => s.heap.size ≤ q) s.heap H1 locs1 → W p l e room_1 s m #[Value.ref b] below meth c H1 locs1 cells slots Q (F0 m 909 ls [])) : W p l e room_1 s m #[Value.ref b] below meth c H locs cells slots Q (F0 m 192 ls []) := by
  have C' := C
  obtain ⟨⟨hx, hb, hr, hml, hown, hts0, hX, hbl, hlocks, hgv⟩, hE, hi, hA, hL⟩ := C'
  have hbA : ¬ (fun q : Nat => s.heap.size ≤ q) b := Nat.not_le.mpr hbl
  have v1 : vp_in (nI i + 1) L := lw_at 1 hL hi5 (by decide)
  have v2 : vp_in (nI i + 2) L := lw_at 2 hL hi5 (by decide)
  have v3 : vp_in (nI i + 3) L := lw_at 3 hL hi5 (by decide)
  have v4 : vp_in (nI i + 4) L := lw_at 4 hL hi5 (by decide)
  refine lv_aload_n hx hb dc_law_192 rfl (lv_at hl 1 rfl) ?_
  obtain ⟨Pm, r1, r2⟩ := lw_fault  σ hInv
  refine lw_call (j := 62) (h := 0) (N := (yX9_fault, cX9_fault, 1, (some .int))) (q := (RX9, TX9, 13)) (As := []) (rest := []) C hP hS hl.1 rfl rfl (fg_w_in (w := 478) (c := .methodLink R_law 23 yX9_fault) (by decide +kernel) (by decide +kernel)) rfl rfl rfl rfl (Nat.le_of_ble_eq_true rfl) (Nat.le_of_ble_eq_true rfl) r1 rfl rfl dc_law_193 hc hsl (fun y1 u1 H locs g1 hP hS => ?_)
  refine lv_aload_n hx hb dc_law_196 rfl (lv_at hl 2 rfl) ?_
  refine lw_call (j := 127) (h := 187) (N := (yX10_fault, cX10_fault, 1, (some .int))) (q := (RX10, TX10, 37)) (As := []) (rest := [.int y1]) C hP hS hl.1 rfl rfl (fg_w_in (w := 1045) (c := .methodLink R_law 26 yX10_fault) (by decide +kernel) (by decide +kernel)) rfl rfl rfl rfl (Nat.le_of_ble_eq_true rfl) (Nat.le_of_ble_eq_true rfl) (r2 y1 u1 g1) rfl rfl dc_law_197 hc hsl (fun y2 u2 H locs g2 hP hS => ?_)
  exact lv_icmp_eq (tgt := 909) hx hb dc_law_200 (by decide) (fun _ => kk u2 H locs g2.2 hP hS) (fun q => absurd g2.1.symm q)
set_option maxRecDepth 100000 in
set_option maxHeartbeats 1000000 in
theorem lw_case_3 (C : lw_Cx p s m meth c b L xs Λ) (hi5 : i + 5 ≤ L) (hl : lv_has ls 4 [(0, .ref b), (1, .ref (Λ.1 0)), (2, .ref (Λ.1 187)), (3, .int (nI i))]) (hc : cells ≤ 600000) (hsl : slots ≤ 7302250) (hInv : lw_Inv σ) (hP : va_P (fg_D Λ) vwCl (fg_ws Λ σ) H) (hS : va_S (fun q : Nat => s.heap.size ≤ q) s.heap H locs) (kk : ∀ (u : fg_St) (H1 : Heap) (locs1 : List Loc), lw_Inv u → va_P (fg_D Λ) vwCl (fg_ws Λ u) H1 → va_S (fun q : Nat => s.heap.size ≤ q) s.heap H1 locs1 → W p l e room_1 s m #[Value.ref b] below meth c H1 locs1 cells slots Q (F0 m 909 ls [])) : W p l e room_1 s m #[Value.ref b] below meth c H locs cells slots Q (F0 m 205 ls []) := by
  have C' := C
  obtain ⟨⟨hx, hb, hr, hml, hown, hts0, hX, hbl, hlocks, hgv⟩, hE, hi, hA, hL⟩ := C'
  have hbA : ¬ (fun q : Nat => s.heap.size ≤ q) b := Nat.not_le.mpr hbl
  have v1 : vp_in (nI i + 1) L := lw_at 1 hL hi5 (by decide)
  have v2 : vp_in (nI i + 2) L := lw_at 2 hL hi5 (by decide)
  have v3 : vp_in (nI i + 3) L := lw_at 3 hL hi5 (by decide)
  have v4 : vp_in (nI i + 4) L := lw_at 4 hL hi5 (by decide)
  refine lv_aload_n hx hb dc_law_205 rfl (lv_at hl 1 rfl) ?_
  refine lv_aload_n hx hb dc_law_206 rfl (lv_at hl 0 rfl) ?_
  refine lv_iload_n hx hb dc_law_207 rfl (lv_at hl 3 rfl) ?_
  refine lv_iconst (v := 1) hx hb dc_law_208 (by decide) ?_
  refine lv_iadd hx hb dc_law_209 ?_
  refine va_sld hx hb hX hbl hbA hS v1 dc_law_210 ?_
  obtain ⟨Pm, r1, r2⟩ := lw_told (a := (xs (nI i + 1).toNatClampNeg)) σ hInv
  refine lw_call (j := 63) (h := 0) (N := (yX9_told, cX9_told, 2, (some .int))) (q := (RX9, TX9, 13)) (As := [.int (xs (nI i + 1).toNatClampNeg)]) (rest := []) C hP hS hl.1 rfl rfl (fg_w_in (w := 482) (c := .methodLink R_law 27 yX9_told) (by decide +kernel) (by decide +kernel)) rfl rfl rfl rfl (Nat.le_of_ble_eq_true rfl) (Nat.le_of_ble_eq_true rfl) r1 rfl rfl dc_law_211 hc hsl (fun y1 u1 H locs g1 hP hS => ?_)
  refine lv_aload_n hx hb dc_law_214 rfl (lv_at hl 2 rfl) ?_
  refine lv_aload_n hx hb dc_law_215 rfl (lv_at hl 0 rfl) ?_
  refine lv_iload_n hx hb dc_law_216 rfl (lv_at hl 3 rfl) ?_
  refine lv_iconst (v := 1) hx hb dc_law_217 (by decide) ?_
  refine lv_iadd hx hb dc_law_218 ?_
  refine va_sld hx hb hX hbl hbA hS v1 dc_law_219 ?_
  refine lw_call (j := 159) (h := 187) (N := (yX10_told, cX10_told, 2, (some .int))) (q := (RX10, TX10, 37)) (As := [.int (xs (nI i + 1).toNatClampNeg)]) (rest := [.int y1]) C hP hS hl.1 rfl rfl (fg_w_in (w := 1105) (c := .methodLink R_law 30 yX10_told) (by decide +kernel) (by decide +kernel)) rfl rfl rfl rfl (Nat.le_of_ble_eq_true rfl) (Nat.le_of_ble_eq_true rfl) (r2 y1 u1 g1) rfl rfl dc_law_220 hc hsl (fun y2 u2 H locs g2 hP hS => ?_)
  exact lv_icmp_eq (tgt := 909) hx hb dc_law_223 (by decide) (fun _ => kk u2 H locs g2.2 hP hS) (fun q => absurd g2.1.symm q)
set_option maxRecDepth 100000 in
set_option maxHeartbeats 1000000 in
theorem lw_case_4 (C : lw_Cx p s m meth c b L xs Λ) (hi5 : i + 5 ≤ L) (hl : lv_has ls 4 [(0, .ref b), (1, .ref (Λ.1 0)), (2, .ref (Λ.1 187)), (3, .int (nI i))]) (hc : cells ≤ 600000) (hsl : slots ≤ 7302250) (hInv : lw_Inv σ) (hP : va_P (fg_D Λ) vwCl (fg_ws Λ σ) H) (hS : va_S (fun q : Nat => s.heap.size ≤ q) s.heap H locs) (kk : ∀ (u : fg_St) (H1 : Heap) (locs1 : List Loc), lw_Inv u → va_P (fg_D Λ) vwCl (fg_ws Λ u) H1 → va_S (fun q : Nat => s.heap.size ≤ q) s.heap H1 locs1 → W p l e room_1 s m #[Value.ref b] below meth c H1 locs1 cells slots Q (F0 m 909 ls [])) : W p l e room_1 s m #[Value.ref b] below meth c H locs cells slots Q (F0 m 228 ls []) := by
  have C' := C
  obtain ⟨⟨hx, hb, hr, hml, hown, hts0, hX, hbl, hlocks, hgv⟩, hE, hi, hA, hL⟩ := C'
  have hbA : ¬ (fun q : Nat => s.heap.size ≤ q) b := Nat.not_le.mpr hbl
  have v1 : vp_in (nI i + 1) L := lw_at 1 hL hi5 (by decide)
  have v2 : vp_in (nI i + 2) L := lw_at 2 hL hi5 (by decide)
  have v3 : vp_in (nI i + 3) L := lw_at 3 hL hi5 (by decide)
  have v4 : vp_in (nI i + 4) L := lw_at 4 hL hi5 (by decide)
  refine lv_aload_n hx hb dc_law_228 rfl (lv_at hl 1 rfl) ?_
  refine lv_aload_n hx hb dc_law_229 rfl (lv_at hl 0 rfl) ?_
  refine lv_iload_n hx hb dc_law_230 rfl (lv_at hl 3 rfl) ?_
  refine lv_iconst (v := 1) hx hb dc_law_231 (by decide) ?_
  refine lv_iadd hx hb dc_law_232 ?_
  refine va_sld hx hb hX hbl hbA hS v1 dc_law_233 ?_
  refine lv_aload_n hx hb dc_law_234 rfl (lv_at hl 0 rfl) ?_
  refine lv_iload_n hx hb dc_law_235 rfl (lv_at hl 3 rfl) ?_
  refine lv_iconst (v := 2) hx hb dc_law_236 (by decide) ?_
  refine lv_iadd hx hb dc_law_237 ?_
  refine va_sld hx hb hX hbl hbA hS v2 dc_law_238 ?_
  obtain ⟨Pm, r1, r2⟩ := lw_flag (a := (xs (nI i + 1).toNatClampNeg)) (b := (xs (nI i + 2).toNatClampNeg)) σ hInv
  refine lw_call (j := 64) (h := 0) (N := (yX9_flag, cX9_flag, 3, (some .int))) (q := (RX9, TX9, 13)) (As := [.int (xs (nI i + 1).toNatClampNeg), .int (xs (nI i + 2).toNatClampNeg)]) (rest := []) C hP hS hl.1 rfl rfl (fg_w_in (w := 664) (c := .methodLink R_law 31 yX9_flag) (by decide +kernel) (by decide +kernel)) rfl rfl rfl rfl (Nat.le_of_ble_eq_true rfl) (Nat.le_of_ble_eq_true rfl) r1 rfl rfl dc_law_239 hc hsl (fun y1 u1 H locs g1 hP hS => ?_)
  refine lv_aload_n hx hb dc_law_242 rfl (lv_at hl 2 rfl) ?_
  refine lv_aload_n hx hb dc_law_243 rfl (lv_at hl 0 rfl) ?_
  refine lv_iload_n hx hb dc_law_244 rfl (lv_at hl 3 rfl) ?_
  refine lv_iconst (v := 1) hx hb dc_law_245 (by decide) ?_
  refine lv_iadd hx hb dc_law_246 ?_
  refine va_sld hx hb hX hbl hbA hS v1 dc_law_247 ?_
  refine lv_aload_n hx hb dc_law_248 rfl (lv_at hl 0 rfl) ?_
  refine lv_iload_n hx hb dc_law_249 rfl (lv_at hl 3 rfl) ?_
  refine lv_iconst (v := 2) hx hb dc_law_250 (by decide) ?_
  refine lv_iadd hx hb dc_law_251 ?_
  refine va_sld hx hb hX hbl hbA hS v2 dc_law_252 ?_
  refine lw_call (j := 160) (h := 187) (N := (yX10_flag, cX10_flag, 3, (some .int))) (q := (RX10, TX10, 37)) (As := [.int (xs (nI i + 1).toNatClampNeg), .int (xs (nI i + 2).toNatClampNeg)]) (rest := [.int y1]) C hP hS hl.1 rfl rfl (fg_w_in (w := 1183) (c := .methodLink R_law 35 yX10_flag) (by decide +kernel) (by decide +kernel)) rfl rfl rfl rfl (Nat.le_of_ble_eq_true rfl) (Nat.le_of_ble_eq_true rfl) (r2 y1 u1 g1) rfl rfl dc_law_253 hc hsl (fun y2 u2 H locs g2 hP hS => ?_)
  exact lv_icmp_eq (tgt := 909) hx hb dc_law_256 (by decide) (fun _ => kk u2 H locs g2.2 hP hS) (fun q => absurd g2.1.symm q)
set_option maxRecDepth 100000 in
set_option maxHeartbeats 1000000 in
theorem lw_case_5 (C : lw_Cx p s m meth c b L xs Λ) (hi5 : i + 5 ≤ L) (hl : lv_has ls 4 [(0, .ref b), (1, .ref (Λ.1 0)), (2, .ref (Λ.1 187)), (3, .int (nI i))]) (hc : cells ≤ 600000) (hsl : slots ≤ 7302250) (hInv : lw_Inv σ) (hP : va_P (fg_D Λ) vwCl (fg_ws Λ σ) H) (hS : va_S (fun q : Nat => s.heap.size ≤ q) s.heap H locs) (kk : ∀ (u : fg_St) (H1 : Heap) (locs1 : List Loc), lw_Inv u → va_P (fg_D Λ) vwCl (fg_ws Λ u) H1 → va_S (fun q : Nat => s.heap.size ≤ q) s.heap H1 locs1 → W p l e room_1 s m #[Value.ref b] below meth c H1 locs1 cells slots Q (F0 m 909 ls [])) : W p l e room_1 s m #[Value.ref b] below meth c H locs cells slots Q (F0 m 261 ls []) := by
  have C' := C
  obtain ⟨⟨hx, hb, hr, hml, hown, hts0, hX, hbl, hlocks, hgv⟩, hE, hi, hA, hL⟩ := C'
  have hbA : ¬ (fun q : Nat => s.heap.size ≤ q) b := Nat.not_le.mpr hbl
  have v1 : vp_in (nI i + 1) L := lw_at 1 hL hi5 (by decide)
  have v2 : vp_in (nI i + 2) L := lw_at 2 hL hi5 (by decide)
  have v3 : vp_in (nI i + 3) L := lw_at 3 hL hi5 (by decide)
  have v4 : vp_in (nI i + 4) L := lw_at 4 hL hi5 (by decide)
  refine lv_aload_n hx hb dc_law_261 rfl (lv_at hl 1 rfl) ?_
  refine lv_aload_n hx hb dc_law_262 rfl (lv_at hl 0 rfl) ?_
  refine lv_iload_n hx hb dc_law_263 rfl (lv_at hl 3 rfl) ?_
  refine lv_iconst (v := 1) hx hb dc_law_264 (by decide) ?_
  refine lv_iadd hx hb dc_law_265 ?_
  refine va_sld hx hb hX hbl hbA hS v1 dc_law_266 ?_
  refine lv_aload_n hx hb dc_law_267 rfl (lv_at hl 0 rfl) ?_
  refine lv_iload_n hx hb dc_law_268 rfl (lv_at hl 3 rfl) ?_
  refine lv_iconst (v := 2) hx hb dc_law_269 (by decide) ?_
  refine lv_iadd hx hb dc_law_270 ?_
  refine va_sld hx hb hX hbl hbA hS v2 dc_law_271 ?_
  obtain ⟨Pm, r1, r2⟩ := lw_signal (a := (xs (nI i + 1).toNatClampNeg)) (b := (xs (nI i + 2).toNatClampNeg)) σ hInv
  refine lw_call (j := 65) (h := 0) (N := (yX9_signal, cX9_signal, 3, (some .int))) (q := (RX9, TX9, 13)) (As := [.int (xs (nI i + 1).toNatClampNeg), .int (xs (nI i + 2).toNatClampNeg)]) (rest := []) C hP hS hl.1 rfl rfl (fg_w_in (w := 674) (c := .methodLink R_law 36 yX9_signal) (by decide +kernel) (by decide +kernel)) rfl rfl rfl rfl (Nat.le_of_ble_eq_true rfl) (Nat.le_of_ble_eq_true rfl) r1 rfl rfl dc_law_272 hc hsl (fun y1 u1 H locs g1 hP hS => ?_)
  refine lv_aload_n hx hb dc_law_275 rfl (lv_at hl 2 rfl) ?_
  refine lv_aload_n hx hb dc_law_276 rfl (lv_at hl 0 rfl) ?_
  refine lv_iload_n hx hb dc_law_277 rfl (lv_at hl 3 rfl) ?_
  refine lv_iconst (v := 1) hx hb dc_law_278 (by decide) ?_
  refine lv_iadd hx hb dc_law_279 ?_
  refine va_sld hx hb hX hbl hbA hS v1 dc_law_280 ?_
  refine lv_aload_n hx hb dc_law_281 rfl (lv_at hl 0 rfl) ?_
  refine lv_iload_n hx hb dc_law_282 rfl (lv_at hl 3 rfl) ?_
  refine lv_iconst (v := 2) hx hb dc_law_283 (by decide) ?_
  refine lv_iadd hx hb dc_law_284 ?_
  refine va_sld hx hb hX hbl hbA hS v2 dc_law_285 ?_
  refine lw_call (j := 163) (h := 187) (N := (yX10_signal, cX10_signal, 3, (some .int))) (q := (RX10, TX10, 37)) (As := [.int (xs (nI i + 1).toNatClampNeg), .int (xs (nI i + 2).toNatClampNeg)]) (rest := [.int y1]) C hP hS hl.1 rfl rfl (fg_w_in (w := 1191) (c := .methodLink R_law 39 yX10_signal) (by decide +kernel) (by decide +kernel)) rfl rfl rfl rfl (Nat.le_of_ble_eq_true rfl) (Nat.le_of_ble_eq_true rfl) (r2 y1 u1 g1) rfl rfl dc_law_286 hc hsl (fun y2 u2 H locs g2 hP hS => ?_)
  exact lv_icmp_eq (tgt := 909) hx hb dc_law_289 (by decide) (fun _ => kk u2 H locs g2.2 hP hS) (fun q => absurd g2.1.symm q)
set_option maxRecDepth 100000 in
set_option maxHeartbeats 1000000 in
theorem lw_case_6 (C : lw_Cx p s m meth c b L xs Λ) (hi5 : i + 5 ≤ L) (hl : lv_has ls 4 [(0, .ref b), (1, .ref (Λ.1 0)), (2, .ref (Λ.1 187)), (3, .int (nI i))]) (hc : cells ≤ 600000) (hsl : slots ≤ 7302250) (hInv : lw_Inv σ) (hP : va_P (fg_D Λ) vwCl (fg_ws Λ σ) H) (hS : va_S (fun q : Nat => s.heap.size ≤ q) s.heap H locs) (kk : ∀ (u : fg_St) (H1 : Heap) (locs1 : List Loc), lw_Inv u → va_P (fg_D Λ) vwCl (fg_ws Λ u) H1 → va_S (fun q : Nat => s.heap.size ≤ q) s.heap H1 locs1 → W p l e room_1 s m #[Value.ref b] below meth c H1 locs1 cells slots Q (F0 m 909 ls [])) : W p l e room_1 s m #[Value.ref b] below meth c H locs cells slots Q (F0 m 294 ls []) := by
  have C' := C
  obtain ⟨⟨hx, hb, hr, hml, hown, hts0, hX, hbl, hlocks, hgv⟩, hE, hi, hA, hL⟩ := C'
  have hbA : ¬ (fun q : Nat => s.heap.size ≤ q) b := Nat.not_le.mpr hbl
  have v1 : vp_in (nI i + 1) L := lw_at 1 hL hi5 (by decide)
  have v2 : vp_in (nI i + 2) L := lw_at 2 hL hi5 (by decide)
  have v3 : vp_in (nI i + 3) L := lw_at 3 hL hi5 (by decide)
  have v4 : vp_in (nI i + 4) L := lw_at 4 hL hi5 (by decide)
  refine lv_aload_n hx hb dc_law_294 rfl (lv_at hl 1 rfl) ?_
  refine lv_aload_n hx hb dc_law_295 rfl (lv_at hl 0 rfl) ?_
  refine lv_iload_n hx hb dc_law_296 rfl (lv_at hl 3 rfl) ?_
  refine lv_iconst (v := 1) hx hb dc_law_297 (by decide) ?_
  refine lv_iadd hx hb dc_law_298 ?_
  refine va_sld hx hb hX hbl hbA hS v1 dc_law_299 ?_
  refine lv_aload_n hx hb dc_law_300 rfl (lv_at hl 0 rfl) ?_
  refine lv_iload_n hx hb dc_law_301 rfl (lv_at hl 3 rfl) ?_
  refine lv_iconst (v := 2) hx hb dc_law_302 (by decide) ?_
  refine lv_iadd hx hb dc_law_303 ?_
  refine va_sld hx hb hX hbl hbA hS v2 dc_law_304 ?_
  obtain ⟨Pm, r1, r2⟩ := lw_line (a := (xs (nI i + 1).toNatClampNeg)) (b := (xs (nI i + 2).toNatClampNeg)) σ hInv
  refine lw_call (j := 66) (h := 0) (N := (yX9_line, cX9_line, 3, (some .int))) (q := (RX9, TX9, 13)) (As := [.int (xs (nI i + 1).toNatClampNeg), .int (xs (nI i + 2).toNatClampNeg)]) (rest := []) C hP hS hl.1 rfl rfl (fg_w_in (w := 684) (c := .methodLink R_law 40 yX9_line) (by decide +kernel) (by decide +kernel)) rfl rfl rfl rfl (Nat.le_of_ble_eq_true rfl) (Nat.le_of_ble_eq_true rfl) r1 rfl rfl dc_law_305 hc hsl (fun y1 u1 H locs g1 hP hS => ?_)
  refine lv_aload_n hx hb dc_law_308 rfl (lv_at hl 2 rfl) ?_
  refine lv_aload_n hx hb dc_law_309 rfl (lv_at hl 0 rfl) ?_
  refine lv_iload_n hx hb dc_law_310 rfl (lv_at hl 3 rfl) ?_
  refine lv_iconst (v := 1) hx hb dc_law_311 (by decide) ?_
  refine lv_iadd hx hb dc_law_312 ?_
  refine va_sld hx hb hX hbl hbA hS v1 dc_law_313 ?_
  refine lv_aload_n hx hb dc_law_314 rfl (lv_at hl 0 rfl) ?_
  refine lv_iload_n hx hb dc_law_315 rfl (lv_at hl 3 rfl) ?_
  refine lv_iconst (v := 2) hx hb dc_law_316 (by decide) ?_
  refine lv_iadd hx hb dc_law_317 ?_
  refine va_sld hx hb hX hbl hbA hS v2 dc_law_318 ?_
  refine lw_call (j := 164) (h := 187) (N := (yX10_line, cX10_line, 3, (some .int))) (q := (RX10, TX10, 37)) (As := [.int (xs (nI i + 1).toNatClampNeg), .int (xs (nI i + 2).toNatClampNeg)]) (rest := [.int y1]) C hP hS hl.1 rfl rfl (fg_w_in (w := 1209) (c := .methodLink R_law 43 yX10_line) (by decide +kernel) (by decide +kernel)) rfl rfl rfl rfl (Nat.le_of_ble_eq_true rfl) (Nat.le_of_ble_eq_true rfl) (r2 y1 u1 g1) rfl rfl dc_law_319 hc hsl (fun y2 u2 H locs g2 hP hS => ?_)
  exact lv_icmp_eq (tgt := 909) hx hb dc_law_322 (by decide) (fun _ => kk u2 H locs g2.2 hP hS) (fun q => absurd g2.1.symm q)
set_option maxRecDepth 100000 in
set_option maxHeartbeats 1000000 in
theorem lw_case_7 (C : lw_Cx p s m meth c b L xs Λ) (hi5 : i + 5 ≤ L) (hl : lv_has ls 4 [(0, .ref b), (1, .ref (Λ.1 0)), (2, .ref (Λ.1 187)), (3, .int (nI i))]) (hc : cells ≤ 600000) (hsl : slots ≤ 7302250) (hInv : lw_Inv σ) (hP : va_P (fg_D Λ) vwCl (fg_ws Λ σ) H) (hS : va_S (fun q : Nat => s.heap.size ≤ q) s.heap H locs) (kk : ∀ (u : fg_St) (H1 : Heap) (locs1 : List Loc), lw_Inv u → va_P (fg_D Λ) vwCl (fg_ws Λ u) H1 → va_S (fun q : Nat => s.heap.size ≤ q) s.heap H1 locs1 → W p l e room_1 s m #[Value.ref b] below meth c H1 locs1 cells slots Q (F0 m 909 ls [])) : W p l e room_1 s m #[Value.ref b] below meth c H locs cells slots Q (F0 m 327 ls []) := by
  have C' := C
  obtain ⟨⟨hx, hb, hr, hml, hown, hts0, hX, hbl, hlocks, hgv⟩, hE, hi, hA, hL⟩ := C'
  have hbA : ¬ (fun q : Nat => s.heap.size ≤ q) b := Nat.not_le.mpr hbl
  have v1 : vp_in (nI i + 1) L := lw_at 1 hL hi5 (by decide)
  have v2 : vp_in (nI i + 2) L := lw_at 2 hL hi5 (by decide)
  have v3 : vp_in (nI i + 3) L := lw_at 3 hL hi5 (by decide)
  have v4 : vp_in (nI i + 4) L := lw_at 4 hL hi5 (by decide)
  refine lv_aload_n hx hb dc_law_327 rfl (lv_at hl 1 rfl) ?_
  refine lv_aload_n hx hb dc_law_328 rfl (lv_at hl 0 rfl) ?_
  refine lv_iload_n hx hb dc_law_329 rfl (lv_at hl 3 rfl) ?_
  refine lv_iconst (v := 1) hx hb dc_law_330 (by decide) ?_
  refine lv_iadd hx hb dc_law_331 ?_
  refine va_sld hx hb hX hbl hbA hS v1 dc_law_332 ?_
  refine lv_aload_n hx hb dc_law_333 rfl (lv_at hl 0 rfl) ?_
  refine lv_iload_n hx hb dc_law_334 rfl (lv_at hl 3 rfl) ?_
  refine lv_iconst (v := 2) hx hb dc_law_335 (by decide) ?_
  refine lv_iadd hx hb dc_law_336 ?_
  refine va_sld hx hb hX hbl hbA hS v2 dc_law_337 ?_
  obtain ⟨Pm, r1, r2⟩ := lw_needs (a := (xs (nI i + 1).toNatClampNeg)) (b := (xs (nI i + 2).toNatClampNeg)) σ hInv
  refine lw_call (j := 67) (h := 0) (N := (yX9_needs, cX9_needs, 3, (some .int))) (q := (RX9, TX9, 13)) (As := [.int (xs (nI i + 1).toNatClampNeg), .int (xs (nI i + 2).toNatClampNeg)]) (rest := []) C hP hS hl.1 rfl rfl (fg_w_in (w := 692) (c := .methodLink R_law 44 yX9_needs) (by decide +kernel) (by decide +kernel)) rfl rfl rfl rfl (Nat.le_of_ble_eq_true rfl) (Nat.le_of_ble_eq_true rfl) r1 rfl rfl dc_law_338 hc hsl (fun y1 u1 H locs g1 hP hS => ?_)
  refine lv_aload_n hx hb dc_law_341 rfl (lv_at hl 2 rfl) ?_
  refine lv_aload_n hx hb dc_law_342 rfl (lv_at hl 0 rfl) ?_
  refine lv_iload_n hx hb dc_law_343 rfl (lv_at hl 3 rfl) ?_
  refine lv_iconst (v := 1) hx hb dc_law_344 (by decide) ?_
  refine lv_iadd hx hb dc_law_345 ?_
  refine va_sld hx hb hX hbl hbA hS v1 dc_law_346 ?_
  refine lv_aload_n hx hb dc_law_347 rfl (lv_at hl 0 rfl) ?_
  refine lv_iload_n hx hb dc_law_348 rfl (lv_at hl 3 rfl) ?_
  refine lv_iconst (v := 2) hx hb dc_law_349 (by decide) ?_
  refine lv_iadd hx hb dc_law_350 ?_
  refine va_sld hx hb hX hbl hbA hS v2 dc_law_351 ?_
  refine lw_call (j := 165) (h := 187) (N := (yX10_needs, cX10_needs, 3, (some .int))) (q := (RX10, TX10, 37)) (As := [.int (xs (nI i + 1).toNatClampNeg), .int (xs (nI i + 2).toNatClampNeg)]) (rest := [.int y1]) C hP hS hl.1 rfl rfl (fg_w_in (w := 1217) (c := .methodLink R_law 47 yX10_needs) (by decide +kernel) (by decide +kernel)) rfl rfl rfl rfl (Nat.le_of_ble_eq_true rfl) (Nat.le_of_ble_eq_true rfl) (r2 y1 u1 g1) rfl rfl dc_law_352 hc hsl (fun y2 u2 H locs g2 hP hS => ?_)
  exact lv_icmp_eq (tgt := 909) hx hb dc_law_355 (by decide) (fun _ => kk u2 H locs g2.2 hP hS) (fun q => absurd g2.1.symm q)
set_option maxRecDepth 100000 in
set_option maxHeartbeats 1000000 in
theorem lw_case_8 (C : lw_Cx p s m meth c b L xs Λ) (hi5 : i + 5 ≤ L) (hl : lv_has ls 4 [(0, .ref b), (1, .ref (Λ.1 0)), (2, .ref (Λ.1 187)), (3, .int (nI i))]) (hc : cells ≤ 600000) (hsl : slots ≤ 7302250) (hInv : lw_Inv σ) (hP : va_P (fg_D Λ) vwCl (fg_ws Λ σ) H) (hS : va_S (fun q : Nat => s.heap.size ≤ q) s.heap H locs) (kk : ∀ (u : fg_St) (H1 : Heap) (locs1 : List Loc), lw_Inv u → va_P (fg_D Λ) vwCl (fg_ws Λ u) H1 → va_S (fun q : Nat => s.heap.size ≤ q) s.heap H1 locs1 → W p l e room_1 s m #[Value.ref b] below meth c H1 locs1 cells slots Q (F0 m 909 ls [])) : W p l e room_1 s m #[Value.ref b] below meth c H locs cells slots Q (F0 m 360 ls []) := by
  have C' := C
  obtain ⟨⟨hx, hb, hr, hml, hown, hts0, hX, hbl, hlocks, hgv⟩, hE, hi, hA, hL⟩ := C'
  have hbA : ¬ (fun q : Nat => s.heap.size ≤ q) b := Nat.not_le.mpr hbl
  have v1 : vp_in (nI i + 1) L := lw_at 1 hL hi5 (by decide)
  have v2 : vp_in (nI i + 2) L := lw_at 2 hL hi5 (by decide)
  have v3 : vp_in (nI i + 3) L := lw_at 3 hL hi5 (by decide)
  have v4 : vp_in (nI i + 4) L := lw_at 4 hL hi5 (by decide)
  refine lv_aload_n hx hb dc_law_360 rfl (lv_at hl 1 rfl) ?_
  refine lv_aload_n hx hb dc_law_361 rfl (lv_at hl 0 rfl) ?_
  refine lv_iload_n hx hb dc_law_362 rfl (lv_at hl 3 rfl) ?_
  refine lv_iconst (v := 1) hx hb dc_law_363 (by decide) ?_
  refine lv_iadd hx hb dc_law_364 ?_
  refine va_sld hx hb hX hbl hbA hS v1 dc_law_365 ?_
  refine lv_aload_n hx hb dc_law_366 rfl (lv_at hl 0 rfl) ?_
  refine lv_iload_n hx hb dc_law_367 rfl (lv_at hl 3 rfl) ?_
  refine lv_iconst (v := 2) hx hb dc_law_368 (by decide) ?_
  refine lv_iadd hx hb dc_law_369 ?_
  refine va_sld hx hb hX hbl hbA hS v2 dc_law_370 ?_
  obtain ⟨Pm, r1, r2⟩ := lw_hoist (a := (xs (nI i + 1).toNatClampNeg)) (b := (xs (nI i + 2).toNatClampNeg)) σ hInv
  refine lw_call (j := 68) (h := 0) (N := (yX9_hoist, cX9_hoist, 3, (some .int))) (q := (RX9, TX9, 13)) (As := [.int (xs (nI i + 1).toNatClampNeg), .int (xs (nI i + 2).toNatClampNeg)]) (rest := []) C hP hS hl.1 rfl rfl (fg_w_in (w := 696) (c := .methodLink R_law 48 yX9_hoist) (by decide +kernel) (by decide +kernel)) rfl rfl rfl rfl (Nat.le_of_ble_eq_true rfl) (Nat.le_of_ble_eq_true rfl) r1 rfl rfl dc_law_371 hc hsl (fun y1 u1 H locs g1 hP hS => ?_)
  refine lv_aload_n hx hb dc_law_374 rfl (lv_at hl 2 rfl) ?_
  refine lv_aload_n hx hb dc_law_375 rfl (lv_at hl 0 rfl) ?_
  refine lv_iload_n hx hb dc_law_376 rfl (lv_at hl 3 rfl) ?_
  refine lv_iconst (v := 1) hx hb dc_law_377 (by decide) ?_
  refine lv_iadd hx hb dc_law_378 ?_
  refine va_sld hx hb hX hbl hbA hS v1 dc_law_379 ?_
  refine lv_aload_n hx hb dc_law_380 rfl (lv_at hl 0 rfl) ?_
  refine lv_iload_n hx hb dc_law_381 rfl (lv_at hl 3 rfl) ?_
  refine lv_iconst (v := 2) hx hb dc_law_382 (by decide) ?_
  refine lv_iadd hx hb dc_law_383 ?_
  refine va_sld hx hb hX hbl hbA hS v2 dc_law_384 ?_
  refine lw_call (j := 169) (h := 187) (N := (yX10_hoist, cX10_hoist, 3, (some .int))) (q := (RX10, TX10, 37)) (As := [.int (xs (nI i + 1).toNatClampNeg), .int (xs (nI i + 2).toNatClampNeg)]) (rest := [.int y1]) C hP hS hl.1 rfl rfl (fg_w_in (w := 1221) (c := .methodLink R_law 51 yX10_hoist) (by decide +kernel) (by decide +kernel)) rfl rfl rfl rfl (Nat.le_of_ble_eq_true rfl) (Nat.le_of_ble_eq_true rfl) (r2 y1 u1 g1) rfl rfl dc_law_385 hc hsl (fun y2 u2 H locs g2 hP hS => ?_)
  exact lv_icmp_eq (tgt := 909) hx hb dc_law_388 (by decide) (fun _ => kk u2 H locs g2.2 hP hS) (fun q => absurd g2.1.symm q)
set_option maxRecDepth 100000 in
set_option maxHeartbeats 1000000 in
theorem lw_case_9 (C : lw_Cx p s m meth c b L xs Λ) (hi5 : i + 5 ≤ L) (hl : lv_has ls 4 [(0, .ref b), (1, .ref (Λ.1 0)), (2, .ref (Λ.1 187)), (3, .int (nI i))]) (hc : cells ≤ 600000) (hsl : slots ≤ 7302250) (hInv : lw_Inv σ) (hP : va_P (fg_D Λ) vwCl (fg_ws Λ σ) H) (hS : va_S (fun q : Nat => s.heap.size ≤ q) s.heap H locs) (kk : ∀ (u : fg_St) (H1 : Heap) (locs1 : List Loc), lw_Inv u → va_P (fg_D Λ) vwCl (fg_ws Λ u) H1 → va_S (fun q : Nat => s.heap.size ≤ q) s.heap H1 locs1 → W p l e room_1 s m #[Value.ref b] below meth c H1 locs1 cells slots Q (F0 m 909 ls [])) : W p l e room_1 s m #[Value.ref b] below meth c H locs cells slots Q (F0 m 393 ls []) := by
  have C' := C
  obtain ⟨⟨hx, hb, hr, hml, hown, hts0, hX, hbl, hlocks, hgv⟩, hE, hi, hA, hL⟩ := C'
  have hbA : ¬ (fun q : Nat => s.heap.size ≤ q) b := Nat.not_le.mpr hbl
  have v1 : vp_in (nI i + 1) L := lw_at 1 hL hi5 (by decide)
  have v2 : vp_in (nI i + 2) L := lw_at 2 hL hi5 (by decide)
  have v3 : vp_in (nI i + 3) L := lw_at 3 hL hi5 (by decide)
  have v4 : vp_in (nI i + 4) L := lw_at 4 hL hi5 (by decide)
  refine lv_aload_n hx hb dc_law_393 rfl (lv_at hl 1 rfl) ?_
  refine lv_aload_n hx hb dc_law_394 rfl (lv_at hl 0 rfl) ?_
  refine lv_iload_n hx hb dc_law_395 rfl (lv_at hl 3 rfl) ?_
  refine lv_iconst (v := 1) hx hb dc_law_396 (by decide) ?_
  refine lv_iadd hx hb dc_law_397 ?_
  refine va_sld hx hb hX hbl hbA hS v1 dc_law_398 ?_
  obtain ⟨Pm, r1, r2⟩ := lw_haul (a := (xs (nI i + 1).toNatClampNeg)) σ hInv
  refine lw_call (j := 69) (h := 0) (N := (yX9_haul, cX9_haul, 2, (some .int))) (q := (RX9, TX9, 13)) (As := [.int (xs (nI i + 1).toNatClampNeg)]) (rest := []) C hP hS hl.1 rfl rfl (fg_w_in (w := 720) (c := .methodLink R_law 52 yX9_haul) (by decide +kernel) (by decide +kernel)) rfl rfl rfl rfl (Nat.le_of_ble_eq_true rfl) (Nat.le_of_ble_eq_true rfl) r1 rfl rfl dc_law_399 hc hsl (fun y1 u1 H locs g1 hP hS => ?_)
  refine lv_aload_n hx hb dc_law_402 rfl (lv_at hl 2 rfl) ?_
  refine lv_aload_n hx hb dc_law_403 rfl (lv_at hl 0 rfl) ?_
  refine lv_iload_n hx hb dc_law_404 rfl (lv_at hl 3 rfl) ?_
  refine lv_iconst (v := 1) hx hb dc_law_405 (by decide) ?_
  refine lv_iadd hx hb dc_law_406 ?_
  refine va_sld hx hb hX hbl hbA hS v1 dc_law_407 ?_
  refine lw_call (j := 171) (h := 187) (N := (yX10_haul, cX10_haul, 2, (some .int))) (q := (RX10, TX10, 37)) (As := [.int (xs (nI i + 1).toNatClampNeg)]) (rest := [.int y1]) C hP hS hl.1 rfl rfl (fg_w_in (w := 1238) (c := .methodLink R_law 55 yX10_haul) (by decide +kernel) (by decide +kernel)) rfl rfl rfl rfl (Nat.le_of_ble_eq_true rfl) (Nat.le_of_ble_eq_true rfl) (r2 y1 u1 g1) rfl rfl dc_law_408 hc hsl (fun y2 u2 H locs g2 hP hS => ?_)
  exact lv_icmp_eq (tgt := 909) hx hb dc_law_411 (by decide) (fun _ => kk u2 H locs g2.2 hP hS) (fun q => absurd g2.1.symm q)
set_option maxRecDepth 100000 in
set_option maxHeartbeats 1000000 in
theorem lw_case_10 (C : lw_Cx p s m meth c b L xs Λ) (hi5 : i + 5 ≤ L) (hl : lv_has ls 4 [(0, .ref b), (1, .ref (Λ.1 0)), (2, .ref (Λ.1 187)), (3, .int (nI i))]) (hc : cells ≤ 600000) (hsl : slots ≤ 7302250) (hInv : lw_Inv σ) (hP : va_P (fg_D Λ) vwCl (fg_ws Λ σ) H) (hS : va_S (fun q : Nat => s.heap.size ≤ q) s.heap H locs) (kk : ∀ (u : fg_St) (H1 : Heap) (locs1 : List Loc), lw_Inv u → va_P (fg_D Λ) vwCl (fg_ws Λ u) H1 → va_S (fun q : Nat => s.heap.size ≤ q) s.heap H1 locs1 → W p l e room_1 s m #[Value.ref b] below meth c H1 locs1 cells slots Q (F0 m 909 ls [])) : W p l e room_1 s m #[Value.ref b] below meth c H locs cells slots Q (F0 m 416 ls []) := by
  have C' := C
  obtain ⟨⟨hx, hb, hr, hml, hown, hts0, hX, hbl, hlocks, hgv⟩, hE, hi, hA, hL⟩ := C'
  have hbA : ¬ (fun q : Nat => s.heap.size ≤ q) b := Nat.not_le.mpr hbl
  have v1 : vp_in (nI i + 1) L := lw_at 1 hL hi5 (by decide)
  have v2 : vp_in (nI i + 2) L := lw_at 2 hL hi5 (by decide)
  have v3 : vp_in (nI i + 3) L := lw_at 3 hL hi5 (by decide)
  have v4 : vp_in (nI i + 4) L := lw_at 4 hL hi5 (by decide)
  refine lv_aload_n hx hb dc_law_416 rfl (lv_at hl 1 rfl) ?_
  refine lv_aload_n hx hb dc_law_417 rfl (lv_at hl 0 rfl) ?_
  refine lv_iload_n hx hb dc_law_418 rfl (lv_at hl 3 rfl) ?_
  refine lv_iconst (v := 1) hx hb dc_law_419 (by decide) ?_
  refine lv_iadd hx hb dc_law_420 ?_
  refine va_sld hx hb hX hbl hbA hS v1 dc_law_421 ?_
  obtain ⟨Pm, r1, r2⟩ := lw_day (a := (xs (nI i + 1).toNatClampNeg)) σ hInv
  refine lw_call (j := 70) (h := 0) (N := (yX9_day, cX9_day, 4, (some .int))) (q := (RX9, TX9, 13)) (As := [.int (xs (nI i + 1).toNatClampNeg)]) (rest := []) C hP hS hl.1 rfl rfl (fg_w_in (w := 728) (c := .methodLink R_law 56 yX9_day) (by decide +kernel) (by decide +kernel)) rfl rfl rfl rfl (Nat.le_of_ble_eq_true rfl) (Nat.le_of_ble_eq_true rfl) r1 rfl rfl dc_law_422 hc hsl (fun y1 u1 H locs g1 hP hS => ?_)
  refine lv_aload_n hx hb dc_law_425 rfl (lv_at hl 2 rfl) ?_
  refine lv_aload_n hx hb dc_law_426 rfl (lv_at hl 0 rfl) ?_
  refine lv_iload_n hx hb dc_law_427 rfl (lv_at hl 3 rfl) ?_
  refine lv_iconst (v := 1) hx hb dc_law_428 (by decide) ?_
  refine lv_iadd hx hb dc_law_429 ?_
  refine va_sld hx hb hX hbl hbA hS v1 dc_law_430 ?_
  refine lw_call (j := 174) (h := 187) (N := (yX10_day, cX10_day, 4, (some .int))) (q := (RX10, TX10, 37)) (As := [.int (xs (nI i + 1).toNatClampNeg)]) (rest := [.int y1]) C hP hS hl.1 rfl rfl (fg_w_in (w := 1246) (c := .methodLink R_law 59 yX10_day) (by decide +kernel) (by decide +kernel)) rfl rfl rfl rfl (Nat.le_of_ble_eq_true rfl) (Nat.le_of_ble_eq_true rfl) (r2 y1 u1 g1) rfl rfl dc_law_431 hc hsl (fun y2 u2 H locs g2 hP hS => ?_)
  exact lv_icmp_eq (tgt := 909) hx hb dc_law_434 (by decide) (fun _ => kk u2 H locs g2.2 hP hS) (fun q => absurd g2.1.symm q)
set_option maxRecDepth 100000 in
set_option maxHeartbeats 1000000 in
theorem lw_case_11 (C : lw_Cx p s m meth c b L xs Λ) (hi5 : i + 5 ≤ L) (hl : lv_has ls 4 [(0, .ref b), (1, .ref (Λ.1 0)), (2, .ref (Λ.1 187)), (3, .int (nI i))]) (hc : cells ≤ 600000) (hsl : slots ≤ 7302250) (hInv : lw_Inv σ) (hP : va_P (fg_D Λ) vwCl (fg_ws Λ σ) H) (hS : va_S (fun q : Nat => s.heap.size ≤ q) s.heap H locs) (kk : ∀ (u : fg_St) (H1 : Heap) (locs1 : List Loc), lw_Inv u → va_P (fg_D Λ) vwCl (fg_ws Λ u) H1 → va_S (fun q : Nat => s.heap.size ≤ q) s.heap H1 locs1 → W p l e room_1 s m #[Value.ref b] below meth c H1 locs1 cells slots Q (F0 m 909 ls [])) : W p l e room_1 s m #[Value.ref b] below meth c H locs cells slots Q (F0 m 439 ls []) := by
  have C' := C
  obtain ⟨⟨hx, hb, hr, hml, hown, hts0, hX, hbl, hlocks, hgv⟩, hE, hi, hA, hL⟩ := C'
  have hbA : ¬ (fun q : Nat => s.heap.size ≤ q) b := Nat.not_le.mpr hbl
  have v1 : vp_in (nI i + 1) L := lw_at 1 hL hi5 (by decide)
  have v2 : vp_in (nI i + 2) L := lw_at 2 hL hi5 (by decide)
  have v3 : vp_in (nI i + 3) L := lw_at 3 hL hi5 (by decide)
  have v4 : vp_in (nI i + 4) L := lw_at 4 hL hi5 (by decide)
  refine lv_aload_n hx hb dc_law_439 rfl (lv_at hl 1 rfl) ?_
  refine lv_aload_n hx hb dc_law_440 rfl (lv_at hl 0 rfl) ?_
  refine lv_iload_n hx hb dc_law_441 rfl (lv_at hl 3 rfl) ?_
  refine lv_iconst (v := 1) hx hb dc_law_442 (by decide) ?_
  refine lv_iadd hx hb dc_law_443 ?_
  refine va_sld hx hb hX hbl hbA hS v1 dc_law_444 ?_
  obtain ⟨Pm, r1, r2⟩ := lw_sew (a := (xs (nI i + 1).toNatClampNeg)) σ hInv
  refine lw_call (j := 71) (h := 0) (N := (yX9_sew, cX9_sew, 3, (some .int))) (q := (RX9, TX9, 13)) (As := [.int (xs (nI i + 1).toNatClampNeg)]) (rest := []) C hP hS hl.1 rfl rfl (fg_w_in (w := 742) (c := .methodLink R_law 60 yX9_sew) (by decide +kernel) (by decide +kernel)) rfl rfl rfl rfl (Nat.le_of_ble_eq_true rfl) (Nat.le_of_ble_eq_true rfl) r1 rfl rfl dc_law_445 hc hsl (fun y1 u1 H locs g1 hP hS => ?_)
  refine lv_aload_n hx hb dc_law_448 rfl (lv_at hl 2 rfl) ?_
  refine lv_aload_n hx hb dc_law_449 rfl (lv_at hl 0 rfl) ?_
  refine lv_iload_n hx hb dc_law_450 rfl (lv_at hl 3 rfl) ?_
  refine lv_iconst (v := 1) hx hb dc_law_451 (by decide) ?_
  refine lv_iadd hx hb dc_law_452 ?_
  refine va_sld hx hb hX hbl hbA hS v1 dc_law_453 ?_
  refine lw_call (j := 177) (h := 187) (N := (yX10_sew, cX10_sew, 3, (some .int))) (q := (RX10, TX10, 37)) (As := [.int (xs (nI i + 1).toNatClampNeg)]) (rest := [.int y1]) C hP hS hl.1 rfl rfl (fg_w_in (w := 1259) (c := .methodLink R_law 63 yX10_sew) (by decide +kernel) (by decide +kernel)) rfl rfl rfl rfl (Nat.le_of_ble_eq_true rfl) (Nat.le_of_ble_eq_true rfl) (r2 y1 u1 g1) rfl rfl dc_law_454 hc hsl (fun y2 u2 H locs g2 hP hS => ?_)
  exact lv_icmp_eq (tgt := 909) hx hb dc_law_457 (by decide) (fun _ => kk u2 H locs g2.2 hP hS) (fun q => absurd g2.1.symm q)
set_option maxRecDepth 100000 in
set_option maxHeartbeats 1000000 in
theorem lw_case_12 (C : lw_Cx p s m meth c b L xs Λ) (hi5 : i + 5 ≤ L) (hl : lv_has ls 4 [(0, .ref b), (1, .ref (Λ.1 0)), (2, .ref (Λ.1 187)), (3, .int (nI i))]) (hc : cells ≤ 600000) (hsl : slots ≤ 7302250) (hInv : lw_Inv σ) (hP : va_P (fg_D Λ) vwCl (fg_ws Λ σ) H) (hS : va_S (fun q : Nat => s.heap.size ≤ q) s.heap H locs) (kk : ∀ (u : fg_St) (H1 : Heap) (locs1 : List Loc), lw_Inv u → va_P (fg_D Λ) vwCl (fg_ws Λ u) H1 → va_S (fun q : Nat => s.heap.size ≤ q) s.heap H1 locs1 → W p l e room_1 s m #[Value.ref b] below meth c H1 locs1 cells slots Q (F0 m 909 ls [])) : W p l e room_1 s m #[Value.ref b] below meth c H locs cells slots Q (F0 m 462 ls []) := by
  have C' := C
  obtain ⟨⟨hx, hb, hr, hml, hown, hts0, hX, hbl, hlocks, hgv⟩, hE, hi, hA, hL⟩ := C'
  have hbA : ¬ (fun q : Nat => s.heap.size ≤ q) b := Nat.not_le.mpr hbl
  have v1 : vp_in (nI i + 1) L := lw_at 1 hL hi5 (by decide)
  have v2 : vp_in (nI i + 2) L := lw_at 2 hL hi5 (by decide)
  have v3 : vp_in (nI i + 3) L := lw_at 3 hL hi5 (by decide)
  have v4 : vp_in (nI i + 4) L := lw_at 4 hL hi5 (by decide)
  refine lv_aload_n hx hb dc_law_462 rfl (lv_at hl 1 rfl) ?_
  refine lv_aload_n hx hb dc_law_463 rfl (lv_at hl 0 rfl) ?_
  refine lv_iload_n hx hb dc_law_464 rfl (lv_at hl 3 rfl) ?_
  refine lv_iconst (v := 1) hx hb dc_law_465 (by decide) ?_
  refine lv_iadd hx hb dc_law_466 ?_
  refine va_sld hx hb hX hbl hbA hS v1 dc_law_467 ?_
  refine lv_aload_n hx hb dc_law_468 rfl (lv_at hl 0 rfl) ?_
  refine lv_iload_n hx hb dc_law_469 rfl (lv_at hl 3 rfl) ?_
  refine lv_iconst (v := 2) hx hb dc_law_470 (by decide) ?_
  refine lv_iadd hx hb dc_law_471 ?_
  refine va_sld hx hb hX hbl hbA hS v2 dc_law_472 ?_
  refine lv_aload_n hx hb dc_law_473 rfl (lv_at hl 0 rfl) ?_
  refine lv_iload_n hx hb dc_law_474 rfl (lv_at hl 3 rfl) ?_
  refine lv_iconst (v := 3) hx hb dc_law_475 (by decide) ?_
  refine lv_iadd hx hb dc_law_476 ?_
  refine va_sld hx hb hX hbl hbA hS v3 dc_law_477 ?_
  refine lv_aload_n hx hb dc_law_478 rfl (lv_at hl 0 rfl) ?_
  refine lv_iload_n hx hb dc_law_479 rfl (lv_at hl 3 rfl) ?_
  refine lv_iconst (v := 4) hx hb dc_law_480 (by decide) ?_
  refine lv_iadd hx hb dc_law_481 ?_
  refine va_sld hx hb hX hbl hbA hS v4 dc_law_482 ?_
  obtain ⟨Pm, r1, r2⟩ := lw_anew (f := (xs (nI i + 1).toNatClampNeg)) (k := (xs (nI i + 2).toNatClampNeg)) (a := (xs (nI i + 3).toNatClampNeg)) (b := (xs (nI i + 4).toNatClampNeg)) σ hInv
  refine lw_call (j := 72) (h := 0) (N := (yX9_anew, cX9_anew, 5, (some .int))) (q := (RX9, TX9, 13)) (As := [.int (xs (nI i + 1).toNatClampNeg), .int (xs (nI i + 2).toNatClampNeg), .int (xs (nI i + 3).toNatClampNeg), .int (xs (nI i + 4).toNatClampNeg)]) (rest := []) C hP hS hl.1 rfl rfl (fg_w_in (w := 754) (c := .methodLink R_law 64 yX9_anew) (by decide +kernel) (by decide +kernel)) rfl rfl rfl rfl (Nat.le_of_ble_eq_true rfl) (Nat.le_of_ble_eq_true rfl) r1 rfl rfl dc_law_483 hc hsl (fun y1 u1 H locs g1 hP hS => ?_)
  refine lv_aload_n hx hb dc_law_486 rfl (lv_at hl 2 rfl) ?_
  refine lv_aload_n hx hb dc_law_487 rfl (lv_at hl 0 rfl) ?_
  refine lv_iload_n hx hb dc_law_488 rfl (lv_at hl 3 rfl) ?_
  refine lv_iconst (v := 1) hx hb dc_law_489 (by decide) ?_
  refine lv_iadd hx hb dc_law_490 ?_
  refine va_sld hx hb hX hbl hbA hS v1 dc_law_491 ?_
  refine lv_aload_n hx hb dc_law_492 rfl (lv_at hl 0 rfl) ?_
  refine lv_iload_n hx hb dc_law_493 rfl (lv_at hl 3 rfl) ?_
  refine lv_iconst (v := 2) hx hb dc_law_494 (by decide) ?_
  refine lv_iadd hx hb dc_law_495 ?_
  refine va_sld hx hb hX hbl hbA hS v2 dc_law_496 ?_
  refine lv_aload_n hx hb dc_law_497 rfl (lv_at hl 0 rfl) ?_
  refine lv_iload_n hx hb dc_law_498 rfl (lv_at hl 3 rfl) ?_
  refine lv_iconst (v := 3) hx hb dc_law_499 (by decide) ?_
  refine lv_iadd hx hb dc_law_500 ?_
  refine va_sld hx hb hX hbl hbA hS v3 dc_law_501 ?_
  refine lv_aload_n hx hb dc_law_502 rfl (lv_at hl 0 rfl) ?_
  refine lv_iload_n hx hb dc_law_503 rfl (lv_at hl 3 rfl) ?_
  refine lv_iconst (v := 4) hx hb dc_law_504 (by decide) ?_
  refine lv_iadd hx hb dc_law_505 ?_
  refine va_sld hx hb hX hbl hbA hS v4 dc_law_506 ?_
  refine lw_call (j := 178) (h := 187) (N := (yX10_anew, cX10_anew, 5, (some .int))) (q := (RX10, TX10, 37)) (As := [.int (xs (nI i + 1).toNatClampNeg), .int (xs (nI i + 2).toNatClampNeg), .int (xs (nI i + 3).toNatClampNeg), .int (xs (nI i + 4).toNatClampNeg)]) (rest := [.int y1]) C hP hS hl.1 rfl rfl (fg_w_in (w := 1271) (c := .methodLink R_law 68 yX10_anew) (by decide +kernel) (by decide +kernel)) rfl rfl rfl rfl (Nat.le_of_ble_eq_true rfl) (Nat.le_of_ble_eq_true rfl) (r2 y1 u1 g1) rfl rfl dc_law_507 hc hsl (fun y2 u2 H locs g2 hP hS => ?_)
  exact lv_icmp_eq (tgt := 909) hx hb dc_law_510 (by decide) (fun _ => kk u2 H locs g2.2 hP hS) (fun q => absurd g2.1.symm q)
set_option maxRecDepth 100000 in
set_option maxHeartbeats 1000000 in
theorem lw_case_13 (C : lw_Cx p s m meth c b L xs Λ) (hi5 : i + 5 ≤ L) (hl : lv_has ls 4 [(0, .ref b), (1, .ref (Λ.1 0)), (2, .ref (Λ.1 187)), (3, .int (nI i))]) (hc : cells ≤ 600000) (hsl : slots ≤ 7302250) (hInv : lw_Inv σ) (hP : va_P (fg_D Λ) vwCl (fg_ws Λ σ) H) (hS : va_S (fun q : Nat => s.heap.size ≤ q) s.heap H locs) (kk : ∀ (u : fg_St) (H1 : Heap) (locs1 : List Loc), lw_Inv u → va_P (fg_D Λ) vwCl (fg_ws Λ u) H1 → va_S (fun q : Nat => s.heap.size ≤ q) s.heap H1 locs1 → W p l e room_1 s m #[Value.ref b] below meth c H1 locs1 cells slots Q (F0 m 909 ls [])) : W p l e room_1 s m #[Value.ref b] below meth c H locs cells slots Q (F0 m 515 ls []) := by
  have C' := C
  obtain ⟨⟨hx, hb, hr, hml, hown, hts0, hX, hbl, hlocks, hgv⟩, hE, hi, hA, hL⟩ := C'
  have hbA : ¬ (fun q : Nat => s.heap.size ≤ q) b := Nat.not_le.mpr hbl
  have v1 : vp_in (nI i + 1) L := lw_at 1 hL hi5 (by decide)
  have v2 : vp_in (nI i + 2) L := lw_at 2 hL hi5 (by decide)
  have v3 : vp_in (nI i + 3) L := lw_at 3 hL hi5 (by decide)
  have v4 : vp_in (nI i + 4) L := lw_at 4 hL hi5 (by decide)
  refine lv_aload_n hx hb dc_law_515 rfl (lv_at hl 1 rfl) ?_
  refine lv_aload_n hx hb dc_law_516 rfl (lv_at hl 0 rfl) ?_
  refine lv_iload_n hx hb dc_law_517 rfl (lv_at hl 3 rfl) ?_
  refine lv_iconst (v := 1) hx hb dc_law_518 (by decide) ?_
  refine lv_iadd hx hb dc_law_519 ?_
  refine va_sld hx hb hX hbl hbA hS v1 dc_law_520 ?_
  refine lv_aload_n hx hb dc_law_521 rfl (lv_at hl 0 rfl) ?_
  refine lv_iload_n hx hb dc_law_522 rfl (lv_at hl 3 rfl) ?_
  refine lv_iconst (v := 2) hx hb dc_law_523 (by decide) ?_
  refine lv_iadd hx hb dc_law_524 ?_
  refine va_sld hx hb hX hbl hbA hS v2 dc_law_525 ?_
  refine lv_if_eq (tgt := 533) hx hb dc_law_526 (by decide) (fun z0 => ?_) (fun z0 => ?_)
  · skip
    refine lv_iconst (v := 0) hx hb dc_law_533 (by decide) ?_
    obtain ⟨Pm, r1, r2⟩ := lw_weather (a := (xs (nI i + 1).toNatClampNeg)) (b := 0) σ hInv
    refine lw_call (j := 73) (h := 0) (N := (yX9_weather, cX9_weather, 4, (some .int))) (q := (RX9, TX9, 13)) (As := [.int (xs (nI i + 1).toNatClampNeg), .int 0]) (rest := []) C hP hS hl.1 rfl rfl (fg_w_in (w := 758) (c := .methodLink R_law 69 yX9_weather) (by decide +kernel) (by decide +kernel)) rfl rfl rfl rfl (Nat.le_of_ble_eq_true rfl) (Nat.le_of_ble_eq_true rfl) r1 rfl rfl dc_law_534 hc hsl (fun y1 u1 H locs g1 hP hS => ?_)
    refine lv_aload_n hx hb dc_law_537 rfl (lv_at hl 2 rfl) ?_
    refine lv_aload_n hx hb dc_law_538 rfl (lv_at hl 0 rfl) ?_
    refine lv_iload_n hx hb dc_law_539 rfl (lv_at hl 3 rfl) ?_
    refine lv_iconst (v := 1) hx hb dc_law_540 (by decide) ?_
    refine lv_iadd hx hb dc_law_541 ?_
    refine va_sld hx hb hX hbl hbA hS v1 dc_law_542 ?_
    refine lv_aload_n hx hb dc_law_543 rfl (lv_at hl 0 rfl) ?_
    refine lv_iload_n hx hb dc_law_544 rfl (lv_at hl 3 rfl) ?_
    refine lv_iconst (v := 2) hx hb dc_law_545 (by decide) ?_
    refine lv_iadd hx hb dc_law_546 ?_
    refine va_sld hx hb hX hbl hbA hS v2 dc_law_547 ?_
    refine lv_if_eq (tgt := 555) hx hb dc_law_548 (by decide) (fun _ => ?_) (fun q => absurd z0 q)
    refine lv_iconst (v := 0) hx hb dc_law_555 (by decide) ?_
    refine lw_call (j := 179) (h := 187) (N := (yX10_weather, cX10_weather, 4, (some .int))) (q := (RX10, TX10, 37)) (As := [.int (xs (nI i + 1).toNatClampNeg), .int 0]) (rest := [.int y1]) C hP hS hl.1 rfl rfl (fg_w_in (w := 1276) (c := .methodLink R_law 73 yX10_weather) (by decide +kernel) (by decide +kernel)) rfl rfl rfl rfl (Nat.le_of_ble_eq_true rfl) (Nat.le_of_ble_eq_true rfl) (r2 y1 u1 g1) rfl rfl dc_law_556 hc hsl (fun y2 u2 H locs g2 hP hS => ?_)
    exact lv_icmp_eq (tgt := 909) hx hb dc_law_559 (by decide) (fun _ => kk u2 H locs g2.2 hP hS) (fun q => absurd g2.1.symm q)
  · skip
    refine lv_iconst (v := 1) hx hb dc_law_529 (by decide) ?_
    refine lv_goto (tgt := 534) hx hb dc_law_530 (by decide) ?_
    obtain ⟨Pm, r1, r2⟩ := lw_weather (a := (xs (nI i + 1).toNatClampNeg)) (b := 1) σ hInv
    refine lw_call (j := 73) (h := 0) (N := (yX9_weather, cX9_weather, 4, (some .int))) (q := (RX9, TX9, 13)) (As := [.int (xs (nI i + 1).toNatClampNeg), .int 1]) (rest := []) C hP hS hl.1 rfl rfl (fg_w_in (w := 758) (c := .methodLink R_law 69 yX9_weather) (by decide +kernel) (by decide +kernel)) rfl rfl rfl rfl (Nat.le_of_ble_eq_true rfl) (Nat.le_of_ble_eq_true rfl) r1 rfl rfl dc_law_534 hc hsl (fun y1 u1 H locs g1 hP hS => ?_)
    refine lv_aload_n hx hb dc_law_537 rfl (lv_at hl 2 rfl) ?_
    refine lv_aload_n hx hb dc_law_538 rfl (lv_at hl 0 rfl) ?_
    refine lv_iload_n hx hb dc_law_539 rfl (lv_at hl 3 rfl) ?_
    refine lv_iconst (v := 1) hx hb dc_law_540 (by decide) ?_
    refine lv_iadd hx hb dc_law_541 ?_
    refine va_sld hx hb hX hbl hbA hS v1 dc_law_542 ?_
    refine lv_aload_n hx hb dc_law_543 rfl (lv_at hl 0 rfl) ?_
    refine lv_iload_n hx hb dc_law_544 rfl (lv_at hl 3 rfl) ?_
    refine lv_iconst (v := 2) hx hb dc_law_545 (by decide) ?_
    refine lv_iadd hx hb dc_law_546 ?_
    refine va_sld hx hb hX hbl hbA hS v2 dc_law_547 ?_
    refine lv_if_eq (tgt := 555) hx hb dc_law_548 (by decide) (fun q => absurd q z0) (fun _ => ?_)
    refine lv_iconst (v := 1) hx hb dc_law_551 (by decide) ?_
    refine lv_goto (tgt := 556) hx hb dc_law_552 (by decide) ?_
    refine lw_call (j := 179) (h := 187) (N := (yX10_weather, cX10_weather, 4, (some .int))) (q := (RX10, TX10, 37)) (As := [.int (xs (nI i + 1).toNatClampNeg), .int 1]) (rest := [.int y1]) C hP hS hl.1 rfl rfl (fg_w_in (w := 1276) (c := .methodLink R_law 73 yX10_weather) (by decide +kernel) (by decide +kernel)) rfl rfl rfl rfl (Nat.le_of_ble_eq_true rfl) (Nat.le_of_ble_eq_true rfl) (r2 y1 u1 g1) rfl rfl dc_law_556 hc hsl (fun y2 u2 H locs g2 hP hS => ?_)
    exact lv_icmp_eq (tgt := 909) hx hb dc_law_559 (by decide) (fun _ => kk u2 H locs g2.2 hP hS) (fun q => absurd g2.1.symm q)
set_option maxRecDepth 100000 in
set_option maxHeartbeats 1000000 in
theorem lw_case_14 (C : lw_Cx p s m meth c b L xs Λ) (hi5 : i + 5 ≤ L) (hl : lv_has ls 4 [(0, .ref b), (1, .ref (Λ.1 0)), (2, .ref (Λ.1 187)), (3, .int (nI i))]) (hc : cells ≤ 600000) (hsl : slots ≤ 7302250) (hInv : lw_Inv σ) (hP : va_P (fg_D Λ) vwCl (fg_ws Λ σ) H) (hS : va_S (fun q : Nat => s.heap.size ≤ q) s.heap H locs) (kk : ∀ (u : fg_St) (H1 : Heap) (locs1 : List Loc), lw_Inv u → va_P (fg_D Λ) vwCl (fg_ws Λ u) H1 → va_S (fun q : Nat => s.heap.size ≤ q) s.heap H1 locs1 → W p l e room_1 s m #[Value.ref b] below meth c H1 locs1 cells slots Q (F0 m 909 ls [])) : W p l e room_1 s m #[Value.ref b] below meth c H locs cells slots Q (F0 m 564 ls []) := by
  have C' := C
  obtain ⟨⟨hx, hb, hr, hml, hown, hts0, hX, hbl, hlocks, hgv⟩, hE, hi, hA, hL⟩ := C'
  have hbA : ¬ (fun q : Nat => s.heap.size ≤ q) b := Nat.not_le.mpr hbl
  have v1 : vp_in (nI i + 1) L := lw_at 1 hL hi5 (by decide)
  have v2 : vp_in (nI i + 2) L := lw_at 2 hL hi5 (by decide)
  have v3 : vp_in (nI i + 3) L := lw_at 3 hL hi5 (by decide)
  have v4 : vp_in (nI i + 4) L := lw_at 4 hL hi5 (by decide)
  refine lv_aload_n hx hb dc_law_564 rfl (lv_at hl 1 rfl) ?_
  refine lv_aload_n hx hb dc_law_565 rfl (lv_at hl 0 rfl) ?_
  refine lv_iload_n hx hb dc_law_566 rfl (lv_at hl 3 rfl) ?_
  refine lv_iconst (v := 1) hx hb dc_law_567 (by decide) ?_
  refine lv_iadd hx hb dc_law_568 ?_
  refine va_sld hx hb hX hbl hbA hS v1 dc_law_569 ?_
  obtain ⟨Pm, r1, r2⟩ := lw_drift (a := (xs (nI i + 1).toNatClampNeg)) σ hInv
  refine lw_call (j := 74) (h := 0) (N := (yX9_drift, cX9_drift, 4, (some .int))) (q := (RX9, TX9, 13)) (As := [.int (xs (nI i + 1).toNatClampNeg)]) (rest := []) C hP hS hl.1 rfl rfl (fg_w_in (w := 762) (c := .methodLink R_law 74 yX9_drift) (by decide +kernel) (by decide +kernel)) rfl rfl rfl rfl (Nat.le_of_ble_eq_true rfl) (Nat.le_of_ble_eq_true rfl) r1 rfl rfl dc_law_570 hc hsl (fun y1 u1 H locs g1 hP hS => ?_)
  refine lv_aload_n hx hb dc_law_573 rfl (lv_at hl 2 rfl) ?_
  refine lv_aload_n hx hb dc_law_574 rfl (lv_at hl 0 rfl) ?_
  refine lv_iload_n hx hb dc_law_575 rfl (lv_at hl 3 rfl) ?_
  refine lv_iconst (v := 1) hx hb dc_law_576 (by decide) ?_
  refine lv_iadd hx hb dc_law_577 ?_
  refine va_sld hx hb hX hbl hbA hS v1 dc_law_578 ?_
  refine lw_call (j := 184) (h := 187) (N := (yX10_drift, cX10_drift, 4, (some .int))) (q := (RX10, TX10, 37)) (As := [.int (xs (nI i + 1).toNatClampNeg)]) (rest := [.int y1]) C hP hS hl.1 rfl rfl (fg_w_in (w := 1281) (c := .methodLink R_law 77 yX10_drift) (by decide +kernel) (by decide +kernel)) rfl rfl rfl rfl (Nat.le_of_ble_eq_true rfl) (Nat.le_of_ble_eq_true rfl) (r2 y1 u1 g1) rfl rfl dc_law_579 hc hsl (fun y2 u2 H locs g2 hP hS => ?_)
  exact lv_icmp_eq (tgt := 909) hx hb dc_law_582 (by decide) (fun _ => kk u2 H locs g2.2 hP hS) (fun q => absurd g2.1.symm q)
set_option maxRecDepth 100000 in
set_option maxHeartbeats 1000000 in
theorem lw_case_15 (C : lw_Cx p s m meth c b L xs Λ) (hi5 : i + 5 ≤ L) (hl : lv_has ls 4 [(0, .ref b), (1, .ref (Λ.1 0)), (2, .ref (Λ.1 187)), (3, .int (nI i))]) (hc : cells ≤ 600000) (hsl : slots ≤ 7302250) (hInv : lw_Inv σ) (hP : va_P (fg_D Λ) vwCl (fg_ws Λ σ) H) (hS : va_S (fun q : Nat => s.heap.size ≤ q) s.heap H locs) (kk : ∀ (u : fg_St) (H1 : Heap) (locs1 : List Loc), lw_Inv u → va_P (fg_D Λ) vwCl (fg_ws Λ u) H1 → va_S (fun q : Nat => s.heap.size ≤ q) s.heap H1 locs1 → W p l e room_1 s m #[Value.ref b] below meth c H1 locs1 cells slots Q (F0 m 909 ls [])) : W p l e room_1 s m #[Value.ref b] below meth c H locs cells slots Q (F0 m 587 ls []) := by
  have C' := C
  obtain ⟨⟨hx, hb, hr, hml, hown, hts0, hX, hbl, hlocks, hgv⟩, hE, hi, hA, hL⟩ := C'
  have hbA : ¬ (fun q : Nat => s.heap.size ≤ q) b := Nat.not_le.mpr hbl
  have v1 : vp_in (nI i + 1) L := lw_at 1 hL hi5 (by decide)
  have v2 : vp_in (nI i + 2) L := lw_at 2 hL hi5 (by decide)
  have v3 : vp_in (nI i + 3) L := lw_at 3 hL hi5 (by decide)
  have v4 : vp_in (nI i + 4) L := lw_at 4 hL hi5 (by decide)
  refine lv_aload_n hx hb dc_law_587 rfl (lv_at hl 1 rfl) ?_
  obtain ⟨Pm, r1, r2⟩ := lw_undo  σ hInv
  refine lw_call (j := 75) (h := 0) (N := (yX9_undo, cX9_undo, 1, (some .int))) (q := (RX9, TX9, 13)) (As := []) (rest := []) C hP hS hl.1 rfl rfl (fg_w_in (w := 786) (c := .methodLink R_law 78 yX9_undo) (by decide +kernel) (by decide +kernel)) rfl rfl rfl rfl (Nat.le_of_ble_eq_true rfl) (Nat.le_of_ble_eq_true rfl) r1 rfl rfl dc_law_588 hc hsl (fun y1 u1 H locs g1 hP hS => ?_)
  refine lv_aload_n hx hb dc_law_591 rfl (lv_at hl 2 rfl) ?_
  refine lw_call (j := 185) (h := 187) (N := (yX10_undo, cX10_undo, 2, (some .int))) (q := (RX10, TX10, 37)) (As := []) (rest := [.int y1]) C hP hS hl.1 rfl rfl (fg_w_in (w := 1305) (c := .methodLink R_law 81 yX10_undo) (by decide +kernel) (by decide +kernel)) rfl rfl rfl rfl (Nat.le_of_ble_eq_true rfl) (Nat.le_of_ble_eq_true rfl) (r2 y1 u1 g1) rfl rfl dc_law_592 hc hsl (fun y2 u2 H locs g2 hP hS => ?_)
  exact lv_icmp_eq (tgt := 909) hx hb dc_law_595 (by decide) (fun _ => kk u2 H locs g2.2 hP hS) (fun q => absurd g2.1.symm q)
set_option maxRecDepth 100000 in
set_option maxHeartbeats 1000000 in
theorem lw_case_16 (C : lw_Cx p s m meth c b L xs Λ) (hi5 : i + 5 ≤ L) (hl : lv_has ls 4 [(0, .ref b), (1, .ref (Λ.1 0)), (2, .ref (Λ.1 187)), (3, .int (nI i))]) (hc : cells ≤ 600000) (hsl : slots ≤ 7302250) (hInv : lw_Inv σ) (hP : va_P (fg_D Λ) vwCl (fg_ws Λ σ) H) (hS : va_S (fun q : Nat => s.heap.size ≤ q) s.heap H locs) (kk : ∀ (u : fg_St) (H1 : Heap) (locs1 : List Loc), lw_Inv u → va_P (fg_D Λ) vwCl (fg_ws Λ u) H1 → va_S (fun q : Nat => s.heap.size ≤ q) s.heap H1 locs1 → W p l e room_1 s m #[Value.ref b] below meth c H1 locs1 cells slots Q (F0 m 909 ls [])) : W p l e room_1 s m #[Value.ref b] below meth c H locs cells slots Q (F0 m 600 ls []) := by
  have C' := C
  obtain ⟨⟨hx, hb, hr, hml, hown, hts0, hX, hbl, hlocks, hgv⟩, hE, hi, hA, hL⟩ := C'
  have hbA : ¬ (fun q : Nat => s.heap.size ≤ q) b := Nat.not_le.mpr hbl
  have v1 : vp_in (nI i + 1) L := lw_at 1 hL hi5 (by decide)
  have v2 : vp_in (nI i + 2) L := lw_at 2 hL hi5 (by decide)
  have v3 : vp_in (nI i + 3) L := lw_at 3 hL hi5 (by decide)
  have v4 : vp_in (nI i + 4) L := lw_at 4 hL hi5 (by decide)
  refine lv_aload_n hx hb dc_law_600 rfl (lv_at hl 1 rfl) ?_
  refine lv_aload_n hx hb dc_law_601 rfl (lv_at hl 0 rfl) ?_
  refine lv_iload_n hx hb dc_law_602 rfl (lv_at hl 3 rfl) ?_
  refine lv_iconst (v := 1) hx hb dc_law_603 (by decide) ?_
  refine lv_iadd hx hb dc_law_604 ?_
  refine va_sld hx hb hX hbl hbA hS v1 dc_law_605 ?_
  refine lv_aload_n hx hb dc_law_606 rfl (lv_at hl 0 rfl) ?_
  refine lv_iload_n hx hb dc_law_607 rfl (lv_at hl 3 rfl) ?_
  refine lv_iconst (v := 2) hx hb dc_law_608 (by decide) ?_
  refine lv_iadd hx hb dc_law_609 ?_
  refine va_sld hx hb hX hbl hbA hS v2 dc_law_610 ?_
  refine lv_aload_n hx hb dc_law_611 rfl (lv_at hl 0 rfl) ?_
  refine lv_iload_n hx hb dc_law_612 rfl (lv_at hl 3 rfl) ?_
  refine lv_iconst (v := 3) hx hb dc_law_613 (by decide) ?_
  refine lv_iadd hx hb dc_law_614 ?_
  refine va_sld hx hb hX hbl hbA hS v3 dc_law_615 ?_
  refine lv_if_eq (tgt := 623) hx hb dc_law_616 (by decide) (fun z0 => ?_) (fun z0 => ?_)
  · skip
    refine lv_iconst (v := 0) hx hb dc_law_623 (by decide) ?_
    obtain ⟨Pm, r1, r2⟩ := lw_look (a := (xs (nI i + 1).toNatClampNeg)) (b := (xs (nI i + 2).toNatClampNeg)) (c := 0) σ hInv
    refine lw_call (j := 76) (h := 0) (N := (yX9_look, cX9_look, 4, (some .int))) (q := (RX9, TX9, 13)) (As := [.int (xs (nI i + 1).toNatClampNeg), .int (xs (nI i + 2).toNatClampNeg), .int 0]) (rest := []) C hP hS hl.1 rfl rfl (fg_w_in (w := 794) (c := .methodLink R_law 82 yX9_look) (by decide +kernel) (by decide +kernel)) rfl rfl rfl rfl (Nat.le_of_ble_eq_true rfl) (Nat.le_of_ble_eq_true rfl) r1 rfl rfl dc_law_624 hc hsl (fun y1 u1 H locs g1 hP hS => ?_)
    refine lv_aload_n hx hb dc_law_627 rfl (lv_at hl 2 rfl) ?_
    refine lv_aload_n hx hb dc_law_628 rfl (lv_at hl 0 rfl) ?_
    refine lv_iload_n hx hb dc_law_629 rfl (lv_at hl 3 rfl) ?_
    refine lv_iconst (v := 1) hx hb dc_law_630 (by decide) ?_
    refine lv_iadd hx hb dc_law_631 ?_
    refine va_sld hx hb hX hbl hbA hS v1 dc_law_632 ?_
    refine lv_aload_n hx hb dc_law_633 rfl (lv_at hl 0 rfl) ?_
    refine lv_iload_n hx hb dc_law_634 rfl (lv_at hl 3 rfl) ?_
    refine lv_iconst (v := 2) hx hb dc_law_635 (by decide) ?_
    refine lv_iadd hx hb dc_law_636 ?_
    refine va_sld hx hb hX hbl hbA hS v2 dc_law_637 ?_
    refine lv_aload_n hx hb dc_law_638 rfl (lv_at hl 0 rfl) ?_
    refine lv_iload_n hx hb dc_law_639 rfl (lv_at hl 3 rfl) ?_
    refine lv_iconst (v := 3) hx hb dc_law_640 (by decide) ?_
    refine lv_iadd hx hb dc_law_641 ?_
    refine va_sld hx hb hX hbl hbA hS v3 dc_law_642 ?_
    refine lv_if_eq (tgt := 650) hx hb dc_law_643 (by decide) (fun _ => ?_) (fun q => absurd z0 q)
    refine lv_iconst (v := 0) hx hb dc_law_650 (by decide) ?_
    refine lw_call (j := 186) (h := 187) (N := (yX10_look, cX10_look, 4, (some .int))) (q := (RX10, TX10, 37)) (As := [.int (xs (nI i + 1).toNatClampNeg), .int (xs (nI i + 2).toNatClampNeg), .int 0]) (rest := [.int y1]) C hP hS hl.1 rfl rfl (fg_w_in (w := 1309) (c := .methodLink R_law 86 yX10_look) (by decide +kernel) (by decide +kernel)) rfl rfl rfl rfl (Nat.le_of_ble_eq_true rfl) (Nat.le_of_ble_eq_true rfl) (r2 y1 u1 g1) rfl rfl dc_law_651 hc hsl (fun y2 u2 H locs g2 hP hS => ?_)
    exact lv_icmp_eq (tgt := 909) hx hb dc_law_654 (by decide) (fun _ => kk u2 H locs g2.2 hP hS) (fun q => absurd g2.1.symm q)
  · skip
    refine lv_iconst (v := 1) hx hb dc_law_619 (by decide) ?_
    refine lv_goto (tgt := 624) hx hb dc_law_620 (by decide) ?_
    obtain ⟨Pm, r1, r2⟩ := lw_look (a := (xs (nI i + 1).toNatClampNeg)) (b := (xs (nI i + 2).toNatClampNeg)) (c := 1) σ hInv
    refine lw_call (j := 76) (h := 0) (N := (yX9_look, cX9_look, 4, (some .int))) (q := (RX9, TX9, 13)) (As := [.int (xs (nI i + 1).toNatClampNeg), .int (xs (nI i + 2).toNatClampNeg), .int 1]) (rest := []) C hP hS hl.1 rfl rfl (fg_w_in (w := 794) (c := .methodLink R_law 82 yX9_look) (by decide +kernel) (by decide +kernel)) rfl rfl rfl rfl (Nat.le_of_ble_eq_true rfl) (Nat.le_of_ble_eq_true rfl) r1 rfl rfl dc_law_624 hc hsl (fun y1 u1 H locs g1 hP hS => ?_)
    refine lv_aload_n hx hb dc_law_627 rfl (lv_at hl 2 rfl) ?_
    refine lv_aload_n hx hb dc_law_628 rfl (lv_at hl 0 rfl) ?_
    refine lv_iload_n hx hb dc_law_629 rfl (lv_at hl 3 rfl) ?_
    refine lv_iconst (v := 1) hx hb dc_law_630 (by decide) ?_
    refine lv_iadd hx hb dc_law_631 ?_
    refine va_sld hx hb hX hbl hbA hS v1 dc_law_632 ?_
    refine lv_aload_n hx hb dc_law_633 rfl (lv_at hl 0 rfl) ?_
    refine lv_iload_n hx hb dc_law_634 rfl (lv_at hl 3 rfl) ?_
    refine lv_iconst (v := 2) hx hb dc_law_635 (by decide) ?_
    refine lv_iadd hx hb dc_law_636 ?_
    refine va_sld hx hb hX hbl hbA hS v2 dc_law_637 ?_
    refine lv_aload_n hx hb dc_law_638 rfl (lv_at hl 0 rfl) ?_
    refine lv_iload_n hx hb dc_law_639 rfl (lv_at hl 3 rfl) ?_
    refine lv_iconst (v := 3) hx hb dc_law_640 (by decide) ?_
    refine lv_iadd hx hb dc_law_641 ?_
    refine va_sld hx hb hX hbl hbA hS v3 dc_law_642 ?_
    refine lv_if_eq (tgt := 650) hx hb dc_law_643 (by decide) (fun q => absurd q z0) (fun _ => ?_)
    refine lv_iconst (v := 1) hx hb dc_law_646 (by decide) ?_
    refine lv_goto (tgt := 651) hx hb dc_law_647 (by decide) ?_
    refine lw_call (j := 186) (h := 187) (N := (yX10_look, cX10_look, 4, (some .int))) (q := (RX10, TX10, 37)) (As := [.int (xs (nI i + 1).toNatClampNeg), .int (xs (nI i + 2).toNatClampNeg), .int 1]) (rest := [.int y1]) C hP hS hl.1 rfl rfl (fg_w_in (w := 1309) (c := .methodLink R_law 86 yX10_look) (by decide +kernel) (by decide +kernel)) rfl rfl rfl rfl (Nat.le_of_ble_eq_true rfl) (Nat.le_of_ble_eq_true rfl) (r2 y1 u1 g1) rfl rfl dc_law_651 hc hsl (fun y2 u2 H locs g2 hP hS => ?_)
    exact lv_icmp_eq (tgt := 909) hx hb dc_law_654 (by decide) (fun _ => kk u2 H locs g2.2 hP hS) (fun q => absurd g2.1.symm q)
set_option maxRecDepth 100000 in
set_option maxHeartbeats 1000000 in
theorem lw_case_17 (C : lw_Cx p s m meth c b L xs Λ) (hi5 : i + 5 ≤ L) (hl : lv_has ls 4 [(0, .ref b), (1, .ref (Λ.1 0)), (2, .ref (Λ.1 187)), (3, .int (nI i))]) (hc : cells ≤ 600000) (hsl : slots ≤ 7302250) (hInv : lw_Inv σ) (hP : va_P (fg_D Λ) vwCl (fg_ws Λ σ) H) (hS : va_S (fun q : Nat => s.heap.size ≤ q) s.heap H locs) (kk : ∀ (u : fg_St) (H1 : Heap) (locs1 : List Loc), lw_Inv u → va_P (fg_D Λ) vwCl (fg_ws Λ u) H1 → va_S (fun q : Nat => s.heap.size ≤ q) s.heap H1 locs1 → W p l e room_1 s m #[Value.ref b] below meth c H1 locs1 cells slots Q (F0 m 909 ls [])) : W p l e room_1 s m #[Value.ref b] below meth c H locs cells slots Q (F0 m 659 ls []) := by
  have C' := C
  obtain ⟨⟨hx, hb, hr, hml, hown, hts0, hX, hbl, hlocks, hgv⟩, hE, hi, hA, hL⟩ := C'
  have hbA : ¬ (fun q : Nat => s.heap.size ≤ q) b := Nat.not_le.mpr hbl
  have v1 : vp_in (nI i + 1) L := lw_at 1 hL hi5 (by decide)
  have v2 : vp_in (nI i + 2) L := lw_at 2 hL hi5 (by decide)
  have v3 : vp_in (nI i + 3) L := lw_at 3 hL hi5 (by decide)
  have v4 : vp_in (nI i + 4) L := lw_at 4 hL hi5 (by decide)
  refine lv_aload_n hx hb dc_law_659 rfl (lv_at hl 1 rfl) ?_
  refine lv_aload_n hx hb dc_law_660 rfl (lv_at hl 0 rfl) ?_
  refine lv_iload_n hx hb dc_law_661 rfl (lv_at hl 3 rfl) ?_
  refine lv_iconst (v := 1) hx hb dc_law_662 (by decide) ?_
  refine lv_iadd hx hb dc_law_663 ?_
  refine va_sld hx hb hX hbl hbA hS v1 dc_law_664 ?_
  obtain ⟨Pm, r1, r2⟩ := lw_together (a := (xs (nI i + 1).toNatClampNeg)) σ hInv
  refine lw_call (j := 77) (h := 0) (N := (yX9_together, cX9_together, 2, (some .int))) (q := (RX9, TX9, 13)) (As := [.int (xs (nI i + 1).toNatClampNeg)]) (rest := []) C hP hS hl.1 rfl rfl (fg_w_in (w := 798) (c := .methodLink R_law 87 yX9_together) (by decide +kernel) (by decide +kernel)) rfl rfl rfl rfl (Nat.le_of_ble_eq_true rfl) (Nat.le_of_ble_eq_true rfl) r1 rfl rfl dc_law_665 hc hsl (fun y1 u1 H locs g1 hP hS => ?_)
  refine lv_aload_n hx hb dc_law_668 rfl (lv_at hl 2 rfl) ?_
  refine lv_aload_n hx hb dc_law_669 rfl (lv_at hl 0 rfl) ?_
  refine lv_iload_n hx hb dc_law_670 rfl (lv_at hl 3 rfl) ?_
  refine lv_iconst (v := 1) hx hb dc_law_671 (by decide) ?_
  refine lv_iadd hx hb dc_law_672 ?_
  refine va_sld hx hb hX hbl hbA hS v1 dc_law_673 ?_
  refine lw_call (j := 152) (h := 187) (N := (yX10_together, cX10_together, 2, (some .int))) (q := (RX10, TX10, 37)) (As := [.int (xs (nI i + 1).toNatClampNeg)]) (rest := [.int y1]) C hP hS hl.1 rfl rfl (fg_w_in (w := 1049) (c := .methodLink R_law 90 yX10_together) (by decide +kernel) (by decide +kernel)) rfl rfl rfl rfl (Nat.le_of_ble_eq_true rfl) (Nat.le_of_ble_eq_true rfl) (r2 y1 u1 g1) rfl rfl dc_law_674 hc hsl (fun y2 u2 H locs g2 hP hS => ?_)
  exact lv_icmp_eq (tgt := 909) hx hb dc_law_677 (by decide) (fun _ => kk u2 H locs g2.2 hP hS) (fun q => absurd g2.1.symm q)
set_option maxRecDepth 100000 in
set_option maxHeartbeats 1000000 in
theorem lw_case_18 (C : lw_Cx p s m meth c b L xs Λ) (hi5 : i + 5 ≤ L) (hl : lv_has ls 4 [(0, .ref b), (1, .ref (Λ.1 0)), (2, .ref (Λ.1 187)), (3, .int (nI i))]) (hc : cells ≤ 600000) (hsl : slots ≤ 7302250) (hInv : lw_Inv σ) (hP : va_P (fg_D Λ) vwCl (fg_ws Λ σ) H) (hS : va_S (fun q : Nat => s.heap.size ≤ q) s.heap H locs) (kk : ∀ (u : fg_St) (H1 : Heap) (locs1 : List Loc), lw_Inv u → va_P (fg_D Λ) vwCl (fg_ws Λ u) H1 → va_S (fun q : Nat => s.heap.size ≤ q) s.heap H1 locs1 → W p l e room_1 s m #[Value.ref b] below meth c H1 locs1 cells slots Q (F0 m 909 ls [])) : W p l e room_1 s m #[Value.ref b] below meth c H locs cells slots Q (F0 m 682 ls []) := by
  have C' := C
  obtain ⟨⟨hx, hb, hr, hml, hown, hts0, hX, hbl, hlocks, hgv⟩, hE, hi, hA, hL⟩ := C'
  have hbA : ¬ (fun q : Nat => s.heap.size ≤ q) b := Nat.not_le.mpr hbl
  have v1 : vp_in (nI i + 1) L := lw_at 1 hL hi5 (by decide)
  have v2 : vp_in (nI i + 2) L := lw_at 2 hL hi5 (by decide)
  have v3 : vp_in (nI i + 3) L := lw_at 3 hL hi5 (by decide)
  have v4 : vp_in (nI i + 4) L := lw_at 4 hL hi5 (by decide)
  refine lv_aload_n hx hb dc_law_682 rfl (lv_at hl 1 rfl) ?_
  refine lv_aload_n hx hb dc_law_683 rfl (lv_at hl 0 rfl) ?_
  refine lv_iload_n hx hb dc_law_684 rfl (lv_at hl 3 rfl) ?_
  refine lv_iconst (v := 1) hx hb dc_law_685 (by decide) ?_
  refine lv_iadd hx hb dc_law_686 ?_
  refine va_sld hx hb hX hbl hbA hS v1 dc_law_687 ?_
  refine lv_aload_n hx hb dc_law_688 rfl (lv_at hl 0 rfl) ?_
  refine lv_iload_n hx hb dc_law_689 rfl (lv_at hl 3 rfl) ?_
  refine lv_iconst (v := 2) hx hb dc_law_690 (by decide) ?_
  refine lv_iadd hx hb dc_law_691 ?_
  refine va_sld hx hb hX hbl hbA hS v2 dc_law_692 ?_
  obtain ⟨Pm, r1, r2⟩ := lw_turns (a := (xs (nI i + 1).toNatClampNeg)) (b := (xs (nI i + 2).toNatClampNeg)) σ hInv
  refine lw_call (j := 78) (h := 0) (N := (yX9_turns, cX9_turns, 3, (some .int))) (q := (RX9, TX9, 13)) (As := [.int (xs (nI i + 1).toNatClampNeg), .int (xs (nI i + 2).toNatClampNeg)]) (rest := []) C hP hS hl.1 rfl rfl (fg_w_in (w := 807) (c := .methodLink R_law 91 yX9_turns) (by decide +kernel) (by decide +kernel)) rfl rfl rfl rfl (Nat.le_of_ble_eq_true rfl) (Nat.le_of_ble_eq_true rfl) r1 rfl rfl dc_law_693 hc hsl (fun y1 u1 H locs g1 hP hS => ?_)
  refine lv_aload_n hx hb dc_law_696 rfl (lv_at hl 2 rfl) ?_
  refine lv_aload_n hx hb dc_law_697 rfl (lv_at hl 0 rfl) ?_
  refine lv_iload_n hx hb dc_law_698 rfl (lv_at hl 3 rfl) ?_
  refine lv_iconst (v := 1) hx hb dc_law_699 (by decide) ?_
  refine lv_iadd hx hb dc_law_700 ?_
  refine va_sld hx hb hX hbl hbA hS v1 dc_law_701 ?_
  refine lv_aload_n hx hb dc_law_702 rfl (lv_at hl 0 rfl) ?_
  refine lv_iload_n hx hb dc_law_703 rfl (lv_at hl 3 rfl) ?_
  refine lv_iconst (v := 2) hx hb dc_law_704 (by decide) ?_
  refine lv_iadd hx hb dc_law_705 ?_
  refine va_sld hx hb hX hbl hbA hS v2 dc_law_706 ?_
  refine lw_call (j := 154) (h := 187) (N := (yX10_turns, cX10_turns, 5, (some .int))) (q := (RX10, TX10, 37)) (As := [.int (xs (nI i + 1).toNatClampNeg), .int (xs (nI i + 2).toNatClampNeg)]) (rest := [.int y1]) C hP hS hl.1 rfl rfl (fg_w_in (w := 1096) (c := .methodLink R_law 94 yX10_turns) (by decide +kernel) (by decide +kernel)) rfl rfl rfl rfl (Nat.le_of_ble_eq_true rfl) (Nat.le_of_ble_eq_true rfl) (r2 y1 u1 g1) rfl rfl dc_law_707 hc hsl (fun y2 u2 H locs g2 hP hS => ?_)
  exact lv_icmp_eq (tgt := 909) hx hb dc_law_710 (by decide) (fun _ => kk u2 H locs g2.2 hP hS) (fun q => absurd g2.1.symm q)
set_option maxRecDepth 100000 in
set_option maxHeartbeats 1000000 in
theorem lw_case_19 (C : lw_Cx p s m meth c b L xs Λ) (hi5 : i + 5 ≤ L) (hl : lv_has ls 4 [(0, .ref b), (1, .ref (Λ.1 0)), (2, .ref (Λ.1 187)), (3, .int (nI i))]) (hc : cells ≤ 600000) (hsl : slots ≤ 7302250) (hInv : lw_Inv σ) (hP : va_P (fg_D Λ) vwCl (fg_ws Λ σ) H) (hS : va_S (fun q : Nat => s.heap.size ≤ q) s.heap H locs) (kk : ∀ (u : fg_St) (H1 : Heap) (locs1 : List Loc), lw_Inv u → va_P (fg_D Λ) vwCl (fg_ws Λ u) H1 → va_S (fun q : Nat => s.heap.size ≤ q) s.heap H1 locs1 → W p l e room_1 s m #[Value.ref b] below meth c H1 locs1 cells slots Q (F0 m 909 ls [])) : W p l e room_1 s m #[Value.ref b] below meth c H locs cells slots Q (F0 m 715 ls []) := by
  have C' := C
  obtain ⟨⟨hx, hb, hr, hml, hown, hts0, hX, hbl, hlocks, hgv⟩, hE, hi, hA, hL⟩ := C'
  have hbA : ¬ (fun q : Nat => s.heap.size ≤ q) b := Nat.not_le.mpr hbl
  have v1 : vp_in (nI i + 1) L := lw_at 1 hL hi5 (by decide)
  have v2 : vp_in (nI i + 2) L := lw_at 2 hL hi5 (by decide)
  have v3 : vp_in (nI i + 3) L := lw_at 3 hL hi5 (by decide)
  have v4 : vp_in (nI i + 4) L := lw_at 4 hL hi5 (by decide)
  refine lv_aload_n hx hb dc_law_715 rfl (lv_at hl 1 rfl) ?_
  refine lv_aload_n hx hb dc_law_716 rfl (lv_at hl 0 rfl) ?_
  refine lv_iload_n hx hb dc_law_717 rfl (lv_at hl 3 rfl) ?_
  refine lv_iconst (v := 1) hx hb dc_law_718 (by decide) ?_
  refine lv_iadd hx hb dc_law_719 ?_
  refine va_sld hx hb hX hbl hbA hS v1 dc_law_720 ?_
  refine lv_aload_n hx hb dc_law_721 rfl (lv_at hl 0 rfl) ?_
  refine lv_iload_n hx hb dc_law_722 rfl (lv_at hl 3 rfl) ?_
  refine lv_iconst (v := 2) hx hb dc_law_723 (by decide) ?_
  refine lv_iadd hx hb dc_law_724 ?_
  refine va_sld hx hb hX hbl hbA hS v2 dc_law_725 ?_
  obtain ⟨Pm, r1, r2⟩ := lw_clear (a := (xs (nI i + 1).toNatClampNeg)) (b := (xs (nI i + 2).toNatClampNeg)) σ hInv
  refine lw_call (j := 79) (h := 0) (N := (yX9_clear, cX9_clear, 6, (some .int))) (q := (RX9, TX9, 13)) (As := [.int (xs (nI i + 1).toNatClampNeg), .int (xs (nI i + 2).toNatClampNeg)]) (rest := []) C hP hS hl.1 rfl rfl (fg_w_in (w := 826) (c := .methodLink R_law 95 yX9_clear) (by decide +kernel) (by decide +kernel)) rfl rfl rfl rfl (Nat.le_of_ble_eq_true rfl) (Nat.le_of_ble_eq_true rfl) r1 rfl rfl dc_law_726 hc hsl (fun y1 u1 H locs g1 hP hS => ?_)
  refine lv_aload_n hx hb dc_law_729 rfl (lv_at hl 2 rfl) ?_
  refine lv_aload_n hx hb dc_law_730 rfl (lv_at hl 0 rfl) ?_
  refine lv_iload_n hx hb dc_law_731 rfl (lv_at hl 3 rfl) ?_
  refine lv_iconst (v := 1) hx hb dc_law_732 (by decide) ?_
  refine lv_iadd hx hb dc_law_733 ?_
  refine va_sld hx hb hX hbl hbA hS v1 dc_law_734 ?_
  refine lv_aload_n hx hb dc_law_735 rfl (lv_at hl 0 rfl) ?_
  refine lv_iload_n hx hb dc_law_736 rfl (lv_at hl 3 rfl) ?_
  refine lv_iconst (v := 2) hx hb dc_law_737 (by decide) ?_
  refine lv_iadd hx hb dc_law_738 ?_
  refine va_sld hx hb hX hbl hbA hS v2 dc_law_739 ?_
  refine lw_call (j := 187) (h := 187) (N := (yX10_clear, cX10_clear, 6, (some .int))) (q := (RX10, TX10, 37)) (As := [.int (xs (nI i + 1).toNatClampNeg), .int (xs (nI i + 2).toNatClampNeg)]) (rest := [.int y1]) C hP hS hl.1 rfl rfl (fg_w_in (w := 1313) (c := .methodLink R_law 98 yX10_clear) (by decide +kernel) (by decide +kernel)) rfl rfl rfl rfl (Nat.le_of_ble_eq_true rfl) (Nat.le_of_ble_eq_true rfl) (r2 y1 u1 g1) rfl rfl dc_law_740 hc hsl (fun y2 u2 H locs g2 hP hS => ?_)
  exact lv_icmp_eq (tgt := 909) hx hb dc_law_743 (by decide) (fun _ => kk u2 H locs g2.2 hP hS) (fun q => absurd g2.1.symm q)
set_option maxRecDepth 100000 in
set_option maxHeartbeats 1000000 in
theorem lw_case_20 (C : lw_Cx p s m meth c b L xs Λ) (hi5 : i + 5 ≤ L) (hl : lv_has ls 4 [(0, .ref b), (1, .ref (Λ.1 0)), (2, .ref (Λ.1 187)), (3, .int (nI i))]) (hc : cells ≤ 600000) (hsl : slots ≤ 7302250) (hInv : lw_Inv σ) (hP : va_P (fg_D Λ) vwCl (fg_ws Λ σ) H) (hS : va_S (fun q : Nat => s.heap.size ≤ q) s.heap H locs) (kk : ∀ (u : fg_St) (H1 : Heap) (locs1 : List Loc), lw_Inv u → va_P (fg_D Λ) vwCl (fg_ws Λ u) H1 → va_S (fun q : Nat => s.heap.size ≤ q) s.heap H1 locs1 → W p l e room_1 s m #[Value.ref b] below meth c H1 locs1 cells slots Q (F0 m 909 ls [])) : W p l e room_1 s m #[Value.ref b] below meth c H locs cells slots Q (F0 m 748 ls []) := by
  have C' := C
  obtain ⟨⟨hx, hb, hr, hml, hown, hts0, hX, hbl, hlocks, hgv⟩, hE, hi, hA, hL⟩ := C'
  have hbA : ¬ (fun q : Nat => s.heap.size ≤ q) b := Nat.not_le.mpr hbl
  have v1 : vp_in (nI i + 1) L := lw_at 1 hL hi5 (by decide)
  have v2 : vp_in (nI i + 2) L := lw_at 2 hL hi5 (by decide)
  have v3 : vp_in (nI i + 3) L := lw_at 3 hL hi5 (by decide)
  have v4 : vp_in (nI i + 4) L := lw_at 4 hL hi5 (by decide)
  refine lv_aload_n hx hb dc_law_748 rfl (lv_at hl 1 rfl) ?_
  refine lv_aload_n hx hb dc_law_749 rfl (lv_at hl 0 rfl) ?_
  refine lv_iload_n hx hb dc_law_750 rfl (lv_at hl 3 rfl) ?_
  refine lv_iconst (v := 1) hx hb dc_law_751 (by decide) ?_
  refine lv_iadd hx hb dc_law_752 ?_
  refine va_sld hx hb hX hbl hbA hS v1 dc_law_753 ?_
  refine lv_aload_n hx hb dc_law_754 rfl (lv_at hl 0 rfl) ?_
  refine lv_iload_n hx hb dc_law_755 rfl (lv_at hl 3 rfl) ?_
  refine lv_iconst (v := 2) hx hb dc_law_756 (by decide) ?_
  refine lv_iadd hx hb dc_law_757 ?_
  refine va_sld hx hb hX hbl hbA hS v2 dc_law_758 ?_
  obtain ⟨Pm, r1, r2⟩ := lw_read (a := (xs (nI i + 1).toNatClampNeg)) (b := (xs (nI i + 2).toNatClampNeg)) σ hInv
  refine lw_call (j := 80) (h := 0) (N := (yX9_read, cX9_read, 3, (some .int))) (q := (RX9, TX9, 13)) (As := [.int (xs (nI i + 1).toNatClampNeg), .int (xs (nI i + 2).toNatClampNeg)]) (rest := []) C hP hS hl.1 rfl rfl (fg_w_in (w := 832) (c := .methodLink R_law 99 yX9_read) (by decide +kernel) (by decide +kernel)) rfl rfl rfl rfl (Nat.le_of_ble_eq_true rfl) (Nat.le_of_ble_eq_true rfl) r1 rfl rfl dc_law_759 hc hsl (fun y1 u1 H locs g1 hP hS => ?_)
  refine lv_aload_n hx hb dc_law_762 rfl (lv_at hl 2 rfl) ?_
  refine lv_aload_n hx hb dc_law_763 rfl (lv_at hl 0 rfl) ?_
  refine lv_iload_n hx hb dc_law_764 rfl (lv_at hl 3 rfl) ?_
  refine lv_iconst (v := 1) hx hb dc_law_765 (by decide) ?_
  refine lv_iadd hx hb dc_law_766 ?_
  refine va_sld hx hb hX hbl hbA hS v1 dc_law_767 ?_
  refine lv_aload_n hx hb dc_law_768 rfl (lv_at hl 0 rfl) ?_
  refine lv_iload_n hx hb dc_law_769 rfl (lv_at hl 3 rfl) ?_
  refine lv_iconst (v := 2) hx hb dc_law_770 (by decide) ?_
  refine lv_iadd hx hb dc_law_771 ?_
  refine va_sld hx hb hX hbl hbA hS v2 dc_law_772 ?_
  refine lw_call (j := 188) (h := 187) (N := (yX10_read, cX10_read, 3, (some .int))) (q := (RX10, TX10, 37)) (As := [.int (xs (nI i + 1).toNatClampNeg), .int (xs (nI i + 2).toNatClampNeg)]) (rest := [.int y1]) C hP hS hl.1 rfl rfl (fg_w_in (w := 1319) (c := .methodLink R_law 102 yX10_read) (by decide +kernel) (by decide +kernel)) rfl rfl rfl rfl (Nat.le_of_ble_eq_true rfl) (Nat.le_of_ble_eq_true rfl) (r2 y1 u1 g1) rfl rfl dc_law_773 hc hsl (fun y2 u2 H locs g2 hP hS => ?_)
  exact lv_icmp_eq (tgt := 909) hx hb dc_law_776 (by decide) (fun _ => kk u2 H locs g2.2 hP hS) (fun q => absurd g2.1.symm q)
set_option maxRecDepth 100000 in
set_option maxHeartbeats 1000000 in
theorem lw_case_21 (C : lw_Cx p s m meth c b L xs Λ) (hi5 : i + 5 ≤ L) (hl : lv_has ls 4 [(0, .ref b), (1, .ref (Λ.1 0)), (2, .ref (Λ.1 187)), (3, .int (nI i))]) (hc : cells ≤ 600000) (hsl : slots ≤ 7302250) (hInv : lw_Inv σ) (hP : va_P (fg_D Λ) vwCl (fg_ws Λ σ) H) (hS : va_S (fun q : Nat => s.heap.size ≤ q) s.heap H locs) (kk : ∀ (u : fg_St) (H1 : Heap) (locs1 : List Loc), lw_Inv u → va_P (fg_D Λ) vwCl (fg_ws Λ u) H1 → va_S (fun q : Nat => s.heap.size ≤ q) s.heap H1 locs1 → W p l e room_1 s m #[Value.ref b] below meth c H1 locs1 cells slots Q (F0 m 909 ls [])) : W p l e room_1 s m #[Value.ref b] below meth c H locs cells slots Q (F0 m 781 ls []) := by
  have C' := C
  obtain ⟨⟨hx, hb, hr, hml, hown, hts0, hX, hbl, hlocks, hgv⟩, hE, hi, hA, hL⟩ := C'
  have hbA : ¬ (fun q : Nat => s.heap.size ≤ q) b := Nat.not_le.mpr hbl
  have v1 : vp_in (nI i + 1) L := lw_at 1 hL hi5 (by decide)
  have v2 : vp_in (nI i + 2) L := lw_at 2 hL hi5 (by decide)
  have v3 : vp_in (nI i + 3) L := lw_at 3 hL hi5 (by decide)
  have v4 : vp_in (nI i + 4) L := lw_at 4 hL hi5 (by decide)
  refine lv_aload_n hx hb dc_law_781 rfl (lv_at hl 1 rfl) ?_
  refine lv_aload_n hx hb dc_law_782 rfl (lv_at hl 0 rfl) ?_
  refine lv_iload_n hx hb dc_law_783 rfl (lv_at hl 3 rfl) ?_
  refine lv_iconst (v := 1) hx hb dc_law_784 (by decide) ?_
  refine lv_iadd hx hb dc_law_785 ?_
  refine va_sld hx hb hX hbl hbA hS v1 dc_law_786 ?_
  refine lv_aload_n hx hb dc_law_787 rfl (lv_at hl 0 rfl) ?_
  refine lv_iload_n hx hb dc_law_788 rfl (lv_at hl 3 rfl) ?_
  refine lv_iconst (v := 2) hx hb dc_law_789 (by decide) ?_
  refine lv_iadd hx hb dc_law_790 ?_
  refine va_sld hx hb hX hbl hbA hS v2 dc_law_791 ?_
  obtain ⟨Pm, r1, r2⟩ := lw_write (a := (xs (nI i + 1).toNatClampNeg)) (b := (xs (nI i + 2).toNatClampNeg)) σ hInv
  refine lw_call (j := 81) (h := 0) (N := (yX9_write, cX9_write, 3, (some .int))) (q := (RX9, TX9, 13)) (As := [.int (xs (nI i + 1).toNatClampNeg), .int (xs (nI i + 2).toNatClampNeg)]) (rest := []) C hP hS hl.1 rfl rfl (fg_w_in (w := 840) (c := .methodLink R_law 103 yX9_write) (by decide +kernel) (by decide +kernel)) rfl rfl rfl rfl (Nat.le_of_ble_eq_true rfl) (Nat.le_of_ble_eq_true rfl) r1 rfl rfl dc_law_792 hc hsl (fun y1 u1 H locs g1 hP hS => ?_)
  refine lv_aload_n hx hb dc_law_795 rfl (lv_at hl 2 rfl) ?_
  refine lv_aload_n hx hb dc_law_796 rfl (lv_at hl 0 rfl) ?_
  refine lv_iload_n hx hb dc_law_797 rfl (lv_at hl 3 rfl) ?_
  refine lv_iconst (v := 1) hx hb dc_law_798 (by decide) ?_
  refine lv_iadd hx hb dc_law_799 ?_
  refine va_sld hx hb hX hbl hbA hS v1 dc_law_800 ?_
  refine lv_aload_n hx hb dc_law_801 rfl (lv_at hl 0 rfl) ?_
  refine lv_iload_n hx hb dc_law_802 rfl (lv_at hl 3 rfl) ?_
  refine lv_iconst (v := 2) hx hb dc_law_803 (by decide) ?_
  refine lv_iadd hx hb dc_law_804 ?_
  refine va_sld hx hb hX hbl hbA hS v2 dc_law_805 ?_
  refine lw_call (j := 189) (h := 187) (N := (yX10_write, cX10_write, 3, (some .int))) (q := (RX10, TX10, 37)) (As := [.int (xs (nI i + 1).toNatClampNeg), .int (xs (nI i + 2).toNatClampNeg)]) (rest := [.int y1]) C hP hS hl.1 rfl rfl (fg_w_in (w := 1323) (c := .methodLink R_law 106 yX10_write) (by decide +kernel) (by decide +kernel)) rfl rfl rfl rfl (Nat.le_of_ble_eq_true rfl) (Nat.le_of_ble_eq_true rfl) (r2 y1 u1 g1) rfl rfl dc_law_806 hc hsl (fun y2 u2 H locs g2 hP hS => ?_)
  exact lv_icmp_eq (tgt := 909) hx hb dc_law_809 (by decide) (fun _ => kk u2 H locs g2.2 hP hS) (fun q => absurd g2.1.symm q)
set_option maxRecDepth 100000 in
set_option maxHeartbeats 1000000 in
theorem lw_case_22 (C : lw_Cx p s m meth c b L xs Λ) (hi5 : i + 5 ≤ L) (hl : lv_has ls 4 [(0, .ref b), (1, .ref (Λ.1 0)), (2, .ref (Λ.1 187)), (3, .int (nI i))]) (hc : cells ≤ 600000) (hsl : slots ≤ 7302250) (hInv : lw_Inv σ) (hP : va_P (fg_D Λ) vwCl (fg_ws Λ σ) H) (hS : va_S (fun q : Nat => s.heap.size ≤ q) s.heap H locs) (kk : ∀ (u : fg_St) (H1 : Heap) (locs1 : List Loc), lw_Inv u → va_P (fg_D Λ) vwCl (fg_ws Λ u) H1 → va_S (fun q : Nat => s.heap.size ≤ q) s.heap H1 locs1 → W p l e room_1 s m #[Value.ref b] below meth c H1 locs1 cells slots Q (F0 m 909 ls [])) : W p l e room_1 s m #[Value.ref b] below meth c H locs cells slots Q (F0 m 814 ls []) := by
  have C' := C
  obtain ⟨⟨hx, hb, hr, hml, hown, hts0, hX, hbl, hlocks, hgv⟩, hE, hi, hA, hL⟩ := C'
  have hbA : ¬ (fun q : Nat => s.heap.size ≤ q) b := Nat.not_le.mpr hbl
  have v1 : vp_in (nI i + 1) L := lw_at 1 hL hi5 (by decide)
  have v2 : vp_in (nI i + 2) L := lw_at 2 hL hi5 (by decide)
  have v3 : vp_in (nI i + 3) L := lw_at 3 hL hi5 (by decide)
  have v4 : vp_in (nI i + 4) L := lw_at 4 hL hi5 (by decide)
  refine lv_aload_n hx hb dc_law_814 rfl (lv_at hl 1 rfl) ?_
  obtain ⟨Pm, r1, r2⟩ := lw_tear  σ hInv
  refine lw_call (j := 82) (h := 0) (N := (yX9_tear, cX9_tear, 2, (some .int))) (q := (RX9, TX9, 13)) (As := []) (rest := []) C hP hS hl.1 rfl rfl (fg_w_in (w := 848) (c := .methodLink R_law 107 yX9_tear) (by decide +kernel) (by decide +kernel)) rfl rfl rfl rfl (Nat.le_of_ble_eq_true rfl) (Nat.le_of_ble_eq_true rfl) r1 rfl rfl dc_law_815 hc hsl (fun y1 u1 H locs g1 hP hS => ?_)
  refine lv_aload_n hx hb dc_law_818 rfl (lv_at hl 2 rfl) ?_
  refine lw_call (j := 190) (h := 187) (N := (yX10_tear, cX10_tear, 2, (some .int))) (q := (RX10, TX10, 37)) (As := []) (rest := [.int y1]) C hP hS hl.1 rfl rfl (fg_w_in (w := 1327) (c := .methodLink R_law 110 yX10_tear) (by decide +kernel) (by decide +kernel)) rfl rfl rfl rfl (Nat.le_of_ble_eq_true rfl) (Nat.le_of_ble_eq_true rfl) (r2 y1 u1 g1) rfl rfl dc_law_819 hc hsl (fun y2 u2 H locs g2 hP hS => ?_)
  exact lv_icmp_eq (tgt := 909) hx hb dc_law_822 (by decide) (fun _ => kk u2 H locs g2.2 hP hS) (fun q => absurd g2.1.symm q)
set_option maxRecDepth 100000 in
set_option maxHeartbeats 1000000 in
theorem lw_case_23 (C : lw_Cx p s m meth c b L xs Λ) (hi5 : i + 5 ≤ L) (hl : lv_has ls 4 [(0, .ref b), (1, .ref (Λ.1 0)), (2, .ref (Λ.1 187)), (3, .int (nI i))]) (hc : cells ≤ 600000) (hsl : slots ≤ 7302250) (hInv : lw_Inv σ) (hP : va_P (fg_D Λ) vwCl (fg_ws Λ σ) H) (hS : va_S (fun q : Nat => s.heap.size ≤ q) s.heap H locs) (kk : ∀ (u : fg_St) (H1 : Heap) (locs1 : List Loc), lw_Inv u → va_P (fg_D Λ) vwCl (fg_ws Λ u) H1 → va_S (fun q : Nat => s.heap.size ≤ q) s.heap H1 locs1 → W p l e room_1 s m #[Value.ref b] below meth c H1 locs1 cells slots Q (F0 m 909 ls [])) : W p l e room_1 s m #[Value.ref b] below meth c H locs cells slots Q (F0 m 827 ls []) := by
  have C' := C
  obtain ⟨⟨hx, hb, hr, hml, hown, hts0, hX, hbl, hlocks, hgv⟩, hE, hi, hA, hL⟩ := C'
  have hbA : ¬ (fun q : Nat => s.heap.size ≤ q) b := Nat.not_le.mpr hbl
  have v1 : vp_in (nI i + 1) L := lw_at 1 hL hi5 (by decide)
  have v2 : vp_in (nI i + 2) L := lw_at 2 hL hi5 (by decide)
  have v3 : vp_in (nI i + 3) L := lw_at 3 hL hi5 (by decide)
  have v4 : vp_in (nI i + 4) L := lw_at 4 hL hi5 (by decide)
  refine lv_aload_n hx hb dc_law_827 rfl (lv_at hl 1 rfl) ?_
  obtain ⟨Pm, r1, r2⟩ := lw_judge  σ hInv
  refine lw_call (j := 83) (h := 0) (N := (yX9_judge, cX9_judge, 1, (some .int))) (q := (RX9, TX9, 13)) (As := []) (rest := []) C hP hS hl.1 rfl rfl (fg_w_in (w := 852) (c := .methodLink R_law 111 yX9_judge) (by decide +kernel) (by decide +kernel)) rfl rfl rfl rfl (Nat.le_of_ble_eq_true rfl) (Nat.le_of_ble_eq_true rfl) r1 rfl rfl dc_law_828 hc hsl (fun y1 u1 H locs g1 hP hS => ?_)
  refine lv_aload_n hx hb dc_law_831 rfl (lv_at hl 2 rfl) ?_
  refine lw_call (j := 191) (h := 187) (N := (yX10_judge, cX10_judge, 2, (some .int))) (q := (RX10, TX10, 37)) (As := []) (rest := [.int y1]) C hP hS hl.1 rfl rfl (fg_w_in (w := 1331) (c := .methodLink R_law 114 yX10_judge) (by decide +kernel) (by decide +kernel)) rfl rfl rfl rfl (Nat.le_of_ble_eq_true rfl) (Nat.le_of_ble_eq_true rfl) (r2 y1 u1 g1) rfl rfl dc_law_832 hc hsl (fun y2 u2 H locs g2 hP hS => ?_)
  exact lv_icmp_eq (tgt := 909) hx hb dc_law_835 (by decide) (fun _ => kk u2 H locs g2.2 hP hS) (fun q => absurd g2.1.symm q)
set_option maxRecDepth 100000 in
set_option maxHeartbeats 1000000 in
theorem lw_case_24 (C : lw_Cx p s m meth c b L xs Λ) (hi5 : i + 5 ≤ L) (hl : lv_has ls 4 [(0, .ref b), (1, .ref (Λ.1 0)), (2, .ref (Λ.1 187)), (3, .int (nI i))]) (hc : cells ≤ 600000) (hsl : slots ≤ 7302250) (hInv : lw_Inv σ) (hP : va_P (fg_D Λ) vwCl (fg_ws Λ σ) H) (hS : va_S (fun q : Nat => s.heap.size ≤ q) s.heap H locs) (kk : ∀ (u : fg_St) (H1 : Heap) (locs1 : List Loc), lw_Inv u → va_P (fg_D Λ) vwCl (fg_ws Λ u) H1 → va_S (fun q : Nat => s.heap.size ≤ q) s.heap H1 locs1 → W p l e room_1 s m #[Value.ref b] below meth c H1 locs1 cells slots Q (F0 m 909 ls [])) : W p l e room_1 s m #[Value.ref b] below meth c H locs cells slots Q (F0 m 840 ls []) := by
  have C' := C
  obtain ⟨⟨hx, hb, hr, hml, hown, hts0, hX, hbl, hlocks, hgv⟩, hE, hi, hA, hL⟩ := C'
  have hbA : ¬ (fun q : Nat => s.heap.size ≤ q) b := Nat.not_le.mpr hbl
  have v1 : vp_in (nI i + 1) L := lw_at 1 hL hi5 (by decide)
  have v2 : vp_in (nI i + 2) L := lw_at 2 hL hi5 (by decide)
  have v3 : vp_in (nI i + 3) L := lw_at 3 hL hi5 (by decide)
  have v4 : vp_in (nI i + 4) L := lw_at 4 hL hi5 (by decide)
  refine lv_aload_n hx hb dc_law_840 rfl (lv_at hl 1 rfl) ?_
  refine lv_aload_n hx hb dc_law_841 rfl (lv_at hl 0 rfl) ?_
  refine lv_iload_n hx hb dc_law_842 rfl (lv_at hl 3 rfl) ?_
  refine lv_iconst (v := 1) hx hb dc_law_843 (by decide) ?_
  refine lv_iadd hx hb dc_law_844 ?_
  refine va_sld hx hb hX hbl hbA hS v1 dc_law_845 ?_
  obtain ⟨Pm, r1, r2⟩ := lw_seed (a := (xs (nI i + 1).toNatClampNeg)) σ hInv
  refine lw_call (j := 84) (h := 0) (N := (yX9_seed, cX9_seed, 3, (some .int))) (q := (RX9, TX9, 13)) (As := [.int (xs (nI i + 1).toNatClampNeg)]) (rest := []) C hP hS hl.1 rfl rfl (fg_w_in (w := 860) (c := .methodLink R_law 115 yX9_seed) (by decide +kernel) (by decide +kernel)) rfl rfl rfl rfl (Nat.le_of_ble_eq_true rfl) (Nat.le_of_ble_eq_true rfl) r1 rfl rfl dc_law_846 hc hsl (fun y1 u1 H locs g1 hP hS => ?_)
  refine lv_aload_n hx hb dc_law_849 rfl (lv_at hl 2 rfl) ?_
  refine lv_aload_n hx hb dc_law_850 rfl (lv_at hl 0 rfl) ?_
  refine lv_iload_n hx hb dc_law_851 rfl (lv_at hl 3 rfl) ?_
  refine lv_iconst (v := 1) hx hb dc_law_852 (by decide) ?_
  refine lv_iadd hx hb dc_law_853 ?_
  refine va_sld hx hb hX hbl hbA hS v1 dc_law_854 ?_
  refine lw_call (j := 192) (h := 187) (N := (yX10_seed, cX10_seed, 3, (some .int))) (q := (RX10, TX10, 37)) (As := [.int (xs (nI i + 1).toNatClampNeg)]) (rest := [.int y1]) C hP hS hl.1 rfl rfl (fg_w_in (w := 1335) (c := .methodLink R_law 118 yX10_seed) (by decide +kernel) (by decide +kernel)) rfl rfl rfl rfl (Nat.le_of_ble_eq_true rfl) (Nat.le_of_ble_eq_true rfl) (r2 y1 u1 g1) rfl rfl dc_law_855 hc hsl (fun y2 u2 H locs g2 hP hS => ?_)
  exact lv_icmp_eq (tgt := 909) hx hb dc_law_858 (by decide) (fun _ => kk u2 H locs g2.2 hP hS) (fun q => absurd g2.1.symm q)
set_option maxRecDepth 100000 in
set_option maxHeartbeats 1000000 in
theorem lw_case_25 (C : lw_Cx p s m meth c b L xs Λ) (hi5 : i + 5 ≤ L) (hl : lv_has ls 4 [(0, .ref b), (1, .ref (Λ.1 0)), (2, .ref (Λ.1 187)), (3, .int (nI i))]) (hc : cells ≤ 600000) (hsl : slots ≤ 7302250) (hInv : lw_Inv σ) (hP : va_P (fg_D Λ) vwCl (fg_ws Λ σ) H) (hS : va_S (fun q : Nat => s.heap.size ≤ q) s.heap H locs) (kk : ∀ (u : fg_St) (H1 : Heap) (locs1 : List Loc), lw_Inv u → va_P (fg_D Λ) vwCl (fg_ws Λ u) H1 → va_S (fun q : Nat => s.heap.size ≤ q) s.heap H1 locs1 → W p l e room_1 s m #[Value.ref b] below meth c H1 locs1 cells slots Q (F0 m 909 ls [])) : W p l e room_1 s m #[Value.ref b] below meth c H locs cells slots Q (F0 m 863 ls []) := by
  have C' := C
  obtain ⟨⟨hx, hb, hr, hml, hown, hts0, hX, hbl, hlocks, hgv⟩, hE, hi, hA, hL⟩ := C'
  have hbA : ¬ (fun q : Nat => s.heap.size ≤ q) b := Nat.not_le.mpr hbl
  have v1 : vp_in (nI i + 1) L := lw_at 1 hL hi5 (by decide)
  have v2 : vp_in (nI i + 2) L := lw_at 2 hL hi5 (by decide)
  have v3 : vp_in (nI i + 3) L := lw_at 3 hL hi5 (by decide)
  have v4 : vp_in (nI i + 4) L := lw_at 4 hL hi5 (by decide)
  refine lv_aload_n hx hb dc_law_863 rfl (lv_at hl 1 rfl) ?_
  refine lv_aload_n hx hb dc_law_864 rfl (lv_at hl 0 rfl) ?_
  refine lv_iload_n hx hb dc_law_865 rfl (lv_at hl 3 rfl) ?_
  refine lv_iconst (v := 1) hx hb dc_law_866 (by decide) ?_
  refine lv_iadd hx hb dc_law_867 ?_
  refine va_sld hx hb hX hbl hbA hS v1 dc_law_868 ?_
  obtain ⟨Pm, r1, r2⟩ := lw_keep (a := (xs (nI i + 1).toNatClampNeg)) σ hInv
  refine lw_call (j := 85) (h := 0) (N := (yX9_keep, cX9_keep, 2, (some .int))) (q := (RX9, TX9, 13)) (As := [.int (xs (nI i + 1).toNatClampNeg)]) (rest := []) C hP hS hl.1 rfl rfl (fg_w_in (w := 864) (c := .methodLink R_law 119 yX9_keep) (by decide +kernel) (by decide +kernel)) rfl rfl rfl rfl (Nat.le_of_ble_eq_true rfl) (Nat.le_of_ble_eq_true rfl) r1 rfl rfl dc_law_869 hc hsl (fun y1 u1 H locs g1 hP hS => ?_)
  refine lv_aload_n hx hb dc_law_872 rfl (lv_at hl 2 rfl) ?_
  refine lv_aload_n hx hb dc_law_873 rfl (lv_at hl 0 rfl) ?_
  refine lv_iload_n hx hb dc_law_874 rfl (lv_at hl 3 rfl) ?_
  refine lv_iconst (v := 1) hx hb dc_law_875 (by decide) ?_
  refine lv_iadd hx hb dc_law_876 ?_
  refine va_sld hx hb hX hbl hbA hS v1 dc_law_877 ?_
  refine lw_call (j := 193) (h := 187) (N := (yX10_keep, cX10_keep, 3, (some .int))) (q := (RX10, TX10, 37)) (As := [.int (xs (nI i + 1).toNatClampNeg)]) (rest := [.int y1]) C hP hS hl.1 rfl rfl (fg_w_in (w := 1339) (c := .methodLink R_law 122 yX10_keep) (by decide +kernel) (by decide +kernel)) rfl rfl rfl rfl (Nat.le_of_ble_eq_true rfl) (Nat.le_of_ble_eq_true rfl) (r2 y1 u1 g1) rfl rfl dc_law_878 hc hsl (fun y2 u2 H locs g2 hP hS => ?_)
  exact lv_icmp_eq (tgt := 909) hx hb dc_law_881 (by decide) (fun _ => kk u2 H locs g2.2 hP hS) (fun q => absurd g2.1.symm q)
set_option maxRecDepth 100000 in
set_option maxHeartbeats 1000000 in
theorem lw_case_26 (C : lw_Cx p s m meth c b L xs Λ) (hi5 : i + 5 ≤ L) (hl : lv_has ls 4 [(0, .ref b), (1, .ref (Λ.1 0)), (2, .ref (Λ.1 187)), (3, .int (nI i))]) (hc : cells ≤ 600000) (hsl : slots ≤ 7302250) (hInv : lw_Inv σ) (hP : va_P (fg_D Λ) vwCl (fg_ws Λ σ) H) (hS : va_S (fun q : Nat => s.heap.size ≤ q) s.heap H locs) (kk : ∀ (u : fg_St) (H1 : Heap) (locs1 : List Loc), lw_Inv u → va_P (fg_D Λ) vwCl (fg_ws Λ u) H1 → va_S (fun q : Nat => s.heap.size ≤ q) s.heap H1 locs1 → W p l e room_1 s m #[Value.ref b] below meth c H1 locs1 cells slots Q (F0 m 909 ls [])) : W p l e room_1 s m #[Value.ref b] below meth c H locs cells slots Q (F0 m 886 ls []) := by
  have C' := C
  obtain ⟨⟨hx, hb, hr, hml, hown, hts0, hX, hbl, hlocks, hgv⟩, hE, hi, hA, hL⟩ := C'
  have hbA : ¬ (fun q : Nat => s.heap.size ≤ q) b := Nat.not_le.mpr hbl
  have v1 : vp_in (nI i + 1) L := lw_at 1 hL hi5 (by decide)
  have v2 : vp_in (nI i + 2) L := lw_at 2 hL hi5 (by decide)
  have v3 : vp_in (nI i + 3) L := lw_at 3 hL hi5 (by decide)
  have v4 : vp_in (nI i + 4) L := lw_at 4 hL hi5 (by decide)
  refine lv_aload_n hx hb dc_law_886 rfl (lv_at hl 1 rfl) ?_
  refine lv_aload_n hx hb dc_law_887 rfl (lv_at hl 0 rfl) ?_
  refine lv_iload_n hx hb dc_law_888 rfl (lv_at hl 3 rfl) ?_
  refine lv_iconst (v := 1) hx hb dc_law_889 (by decide) ?_
  refine lv_iadd hx hb dc_law_890 ?_
  refine va_sld hx hb hX hbl hbA hS v1 dc_law_891 ?_
  obtain ⟨Pm, r1, r2⟩ := lw_goBack (a := (xs (nI i + 1).toNatClampNeg)) σ hInv
  refine lw_call (j := 86) (h := 0) (N := (yX9_goBack, cX9_goBack, 2, (some .int))) (q := (RX9, TX9, 13)) (As := [.int (xs (nI i + 1).toNatClampNeg)]) (rest := []) C hP hS hl.1 rfl rfl (fg_w_in (w := 869) (c := .methodLink R_law 123 yX9_goBack) (by decide +kernel) (by decide +kernel)) rfl rfl rfl rfl (Nat.le_of_ble_eq_true rfl) (Nat.le_of_ble_eq_true rfl) r1 rfl rfl dc_law_892 hc hsl (fun y1 u1 H locs g1 hP hS => ?_)
  refine lv_aload_n hx hb dc_law_895 rfl (lv_at hl 2 rfl) ?_
  refine lv_aload_n hx hb dc_law_896 rfl (lv_at hl 0 rfl) ?_
  refine lv_iload_n hx hb dc_law_897 rfl (lv_at hl 3 rfl) ?_
  refine lv_iconst (v := 1) hx hb dc_law_898 (by decide) ?_
  refine lv_iadd hx hb dc_law_899 ?_
  refine va_sld hx hb hX hbl hbA hS v1 dc_law_900 ?_
  refine lw_call (j := 194) (h := 187) (N := (yX10_goBack, cX10_goBack, 3, (some .int))) (q := (RX10, TX10, 37)) (As := [.int (xs (nI i + 1).toNatClampNeg)]) (rest := [.int y1]) C hP hS hl.1 rfl rfl (fg_w_in (w := 1343) (c := .methodLink R_law 126 yX10_goBack) (by decide +kernel) (by decide +kernel)) rfl rfl rfl rfl (Nat.le_of_ble_eq_true rfl) (Nat.le_of_ble_eq_true rfl) (r2 y1 u1 g1) rfl rfl dc_law_901 hc hsl (fun y2 u2 H locs g2 hP hS => ?_)
  exact lv_icmp_eq (tgt := 909) hx hb dc_law_904 (by decide) (fun _ => kk u2 H locs g2.2 hP hS) (fun q => absurd g2.1.symm q)
end
