/-! BEFORE THE FIRST SHIP, OR AFTER: each method of the reference -/
section
variable {d : Nat} {σ u : fg_St} {Q : Int32 → fg_St → Prop} {z : fg_Z} {w : Nat → Int32} {P : fg_GP} {I : fg_GI} {T : fg_GT} {v : Int32} {s : Nat} {R : fg_GR} {B : fg_GB} {hz wd : Nat} {p f r : Nat → Bool}
theorem d_MO_feed {a : Int32} (h : fg_J σ z w P I T v s R B) (H : ∀ u, fg_sm fg_pN σ u → fg_J u z w P I (fg_fdT T a) v s R B → Q (fg_fdA T a) u) : fg_Run (d + 1) 116 0 [some (.ref 187), some (.int a)] [] σ Q := by
  rcases h with h | h
  · exact c_MO_feed h (fun u m k => H u m (Or.inl k))
  · have h5 := h.2.2.2.2.1
    have hb := h5.1
    refine b_MO_feed_0 (fg_use (r_MO_inr (lo := 0) (hi := 255) rfl rfl (fg_bt (fun e => ?_) (fun e => ?_))))
    · obtain ⟨c, _, hc, rfl⟩ := fg_isr_t e (by decide)
      rw [fg_fdA, fg_fdT, if_pos e, if_pos e] at H
      rw [h5.2.1, nI_clamp (by omega), nI_1]
      have e4 : nI T.1 = 240 ↔ T.1 = 240 := nI_eq (b := 240) (by omega) (by decide)
      rw [e4]
      refine ⟨fun q3 => ⟨vp_in_nI (by omega) (by decide), ?_⟩, fun q3 => ?_⟩
      · rw [if_pos (by omega), if_pos (by omega)] at H
        have n : fg_sn (fun k => k == 10) (fun g => g == 192) σ (fg_sF (fg_sR σ 192 T.1 (nI c)) 187 10 (nI (T.1 + 1))) := (fg_sn_R (by decide)).tr (fg_sn_F (by decide))
        obtain ⟨a1, a2, a3, a4, a5, a6, a7, a8, a9⟩ := h
        refine H _ ((fg_sm_R (by decide)).tr (fg_sm_F (by decide))) (Or.inr ⟨a1, ⟨a2.1, a2.2.sn n rfl rfl rfl rfl rfl rfl rfl⟩, a3, a4.sn n rfl rfl, ⟨?_, rfl, fun i hi => ?_⟩, a6, a7, a8, a9⟩)
        · show T.1 + 1 ≤ 240
          omega
        · show fg_R (fg_sR σ 192 T.1 (nI c)) 192 i = nI (if i = T.1 then (nI c).toNatClampNeg else T.2 i) ∧ (if i = T.1 then (nI c).toNatClampNeg else T.2 i) ≤ 255
          have hi : i < T.1 + 1 := hi
          rw [fg_R_sR, nI_clamp (by omega)]
          by_cases e1 : i = T.1
          · rw [if_pos ⟨rfl, e1⟩, if_pos e1]
            exact ⟨rfl, hc⟩
          · rw [if_neg (fun q => e1 q.2), if_neg e1]
            exact h5.2.2 i (by omega)
      · rw [if_neg (by omega), if_neg (by omega)] at H
        exact H σ fg_sm.rfl' (Or.inr h)
    · rw [fg_fdA, fg_fdT, if_neg (by rw [e]; decide), if_neg (by rw [e]; decide)] at H
      exact H σ fg_sm.rfl' (Or.inr h)
theorem d_MO_ship (h : fg_J σ z w P I T v s R B) (H : ∀ u, fg_sm fg_pN σ u → fg_J u (fg_shZ T z) (fg_shW T w) (fg_shP T P) (fg_shI T I) (0, T.2) (fg_shV T) s (fg_shR T R) (fg_shB T B) → Q (fg_shA T) u) : fg_Run (d + 4) 126 0 [some (.ref 187), none] [] σ Q := by
  rcases h with h | h
  · exact c_MO_ship h (fun u m k => H u m (Or.inl k))
  · obtain ⟨⟨rfl, rfl⟩, a2, a3, a4, a5, a6, a7, a8, a9⟩ := h
    refine g_MO_ship (P := P) (I := I) (R := R) (B := B) a5 a2.1 a7 (fun e u hP m n t f => ?_) (fun S u hP m h => ?_)
    · rw [fg_shZ, fg_shW, fg_shP, fg_shI, fg_shV, fg_shR, fg_shB, fg_shA, hP] at H
      exact H u m (Or.inr ⟨⟨rfl, rfl⟩, ⟨(funext (n.2 191 rfl)).trans a2.1, a2.2.sn n rfl rfl rfl rfl rfl rfl rfl⟩, ⟨a3.1, (n.1 30 rfl).trans a3.2⟩, a4.sn n rfl rfl, t, f, ⟨a7.1, (n.1 8 rfl).trans a7.2⟩, ⟨a8.1, (n.1 26 rfl).trans a8.2⟩, ⟨a9.1, (n.1 32 rfl).trans a9.2⟩⟩)
    · rw [fg_shZ, fg_shW, fg_shP, fg_shI, fg_shV, fg_shR, fg_shB, fg_shA, hP] at H
      have H := H u m
      simp only [fg_w61_z] at H
      exact H (Or.inl h)
theorem d_MO_fault (h : fg_J σ z w P I T v s R B) (H : ∀ u, fg_sm fg_pN σ u → fg_J u z w P I T v s R B → Q v u) : fg_Run d 127 0 [some (.ref 187)] [] σ Q := by
  rcases h with h | h
  · exact c_MO_fault h (fun u m k => H u m (Or.inl k))
  · refine b_MO_fault_0 ?_
    rw [h.2.2.2.2.2.1]
    exact H σ fg_sm.rfl' (Or.inr h)
theorem d_MO_seed {a : Int32} (h : fg_J σ z w P I T v s R B) (H : ∀ u, fg_sm fg_pN σ u → fg_J u z w P I T v (fg_seS s a) R B → Q (fg_seA s a) u) : fg_Run d 192 0 [some (.ref 187), some (.int a), none] [] σ Q := by
  rcases h with h | h
  · exact c_MO_seed h (fun u m k => H u m (Or.inl k))
  · refine b_MO_seed_0 ⟨fun q => ?_, fun q => ?_⟩
    · rw [fg_seS, fg_seA, if_pos q, if_pos q] at H
      rw [h.2.2.2.2.2.2.1.2]
      obtain ⟨j, hj, rfl⟩ := fg_nn q
      have n : fg_sn (fun k => k == 8) fg_no σ (fg_sF σ 187 8 (nI j)) := fg_sn_F (by decide)
      obtain ⟨a1, a2, a3, a4, a5, a6, a7, a8, a9⟩ := h
      refine H _ (fg_sm_F (by decide)) (Or.inr ⟨a1, ⟨a2.1, a2.2.sn n rfl rfl rfl rfl rfl rfl rfl⟩, a3, a4.sn n rfl rfl, a5.sn n rfl rfl, a6, ⟨?_, ?_⟩, a8, a9⟩)
      · rw [nI_clamp hj]
        exact hj
      · rw [nI_clamp hj]
        rfl
    · rw [fg_seS, fg_seA, if_neg q, if_neg q] at H
      exact H σ fg_sm.rfl' (Or.inr h)
theorem d_MO_tear (h : fg_J σ z w P I T v s R B) (H : ∀ u, fg_sm fg_pN σ u → fg_J u z w P I T v s (0, R.2) (0, B.2) → Q (nI (R.1 + B.1)) u) : fg_Run d 190 0 [some (.ref 187), none] [] σ Q := by
  rcases h with h | h
  · exact c_MO_tear h (fun u m k => H u m (Or.inl k))
  · refine b_MO_tear_0 ?_
    obtain ⟨a1, a2, a3, a4, a5, a6, a7, a8, a9⟩ := h
    rw [a8.1, a9.1] at H
    rw [a8.2, a9.2]
    have n : fg_sn (fun k => k == 26 || k == 32) fg_no σ (fg_sF (fg_sF σ 187 26 0) 187 32 0) := (fg_sn_F (by decide)).tr (fg_sn_F (by decide))
    exact H _ ((fg_sm_F (by decide)).tr (fg_sm_F (by decide))) (Or.inr ⟨a1, ⟨a2.1, a2.2.sn n rfl rfl rfl rfl rfl rfl rfl⟩, a3, a4.sn n rfl rfl, a5.sn n rfl rfl, a6, a7, ⟨rfl, rfl⟩, ⟨rfl, rfl⟩⟩)
theorem d_MO_read {a b : Int32} (h : fg_J σ z w P I T v s R B) (H : ∀ u, fg_sm fg_pN σ u → fg_J u z w P I T v s (fg_rdR z R a b) B → Q (fg_rdA z R a b) u) : fg_Run (d + 2) 188 0 [some (.ref 187), some (.int a), some (.int b)] [] σ Q := by
  rcases h with h | h
  · exact c_MO_read h (fun u m k => H u m (Or.inl k))
  · have n0 : fg_isn a (fg_zs fg_z0) = false := fg_isn0
    have M := h.2.1.2
    obtain ⟨rfl, rfl⟩ := h.1
    refine b_MO_read_0 (fg_use (r_MO_isSig M.1 M.2.1 (fg_bt' (fun e => fg_n0x e) (fun _ => ?_))))
    rw [fg_rdA, fg_rdR, fg_rdO, n0] at H
    exact H σ fg_sm.rfl' (Or.inr h)
theorem d_MO_write {a b : Int32} (h : fg_J σ z w P I T v s R B) (H : ∀ u, fg_sm fg_pN σ u → fg_J u z w P I T v s R (fg_wrB z B a b) → Q (fg_wrA z B a b) u) : fg_Run (d + 2) 189 0 [some (.ref 187), some (.int a), some (.int b)] [] σ Q := by
  rcases h with h | h
  · exact c_MO_write h (fun u m k => H u m (Or.inl k))
  · have n0 : fg_isn a (fg_zH fg_z0) = false := fg_isn0
    have M := h.2.1.2
    obtain ⟨rfl, rfl⟩ := h.1
    refine b_MO_write_0 (fg_use (r_MO_isLine M.1 M.2.1 (fg_bt' (fun e => fg_n0x e) (fun _ => ?_))))
    rw [fg_wrA, fg_wrB, fg_wrO, n0] at H
    exact H σ fg_sm.rfl' (Or.inr h)
theorem d_MO_judge (h : fg_J σ z w P I T v s R B) (H : ∀ u, fg_sm fg_pN σ u → fg_J u z w P I T v s R B → Q (fg_jg w B B.1 0) u) : fg_Run d 191 0 [some (.ref 187), none] [] σ Q := by
  rcases h with h | h
  · exact c_MO_judge h (fun u m k => H u m (Or.inl k))
  · refine b_MO_judge_0 (b_MO_judge_2 ⟨fun _ => ?_, fun q => absurd ?_ q⟩)
    · rw [h.2.2.2.2.2.2.2.2.1] at H
      exact H σ fg_sm.rfl' (Or.inr h)
    · rw [h.2.2.2.2.2.2.2.2.2]
      decide
theorem d_MO_clear {a b : Int32} (h : fg_J σ z w P I T v s R B) (H : ∀ u, fg_sm fg_pN σ u → fg_J u z w P I T v s R B → Q (fg_odA a b) u) : fg_Run (d + 1) 187 0 [some (.ref 187), some (.int a), some (.int b), none, none, none] [] σ Q := by
  rcases h with h | h
  · exact c_MO_clear h (fun u m k => H u m (Or.inl k))
  · have H := H σ fg_sm.rfl' (Or.inr h)
    have o1 : fg_isr a 0 60 = false → Q (-1000000002) σ := fun e => by rw [fg_odA, e] at H; simpa using H
    have o2 : fg_isr b 0 100 = false → Q (-1000000002) σ := fun e => by rw [fg_odA, e] at H; simpa using H
    refine b_MO_clear_0 (fg_use (r_MO_inr (lo := 0) (hi := 60) rfl rfl (fg_bt' (fun e1 => fg_use (r_MO_inr (lo := 0) (hi := 100) rfl rfl (fg_bt (fun e2 => ?_) o2))) o1)))
    obtain ⟨n, _, hn, rfl⟩ := fg_isr_t e1 (by decide)
    rw [fg_odA, if_pos ⟨e1, e2⟩, nI_clamp (by omega)] at H
    exact l_MO_clear (by omega) n 0 _ (by omega) H
theorem fg_wz_t : fg_tn fg_z0 fg_wz = fg_tn fg_z0 fg_zO := rfl
theorem fg_tlz {a : Int32} (hR : R.1 = 0) : fg_tlA fg_z0 fg_wz 0 0 P T R B a = fg_tlA fg_z0 fg_zO 0 0 P T R B a := by
  have t1 : fg_wz 60 = fg_zO 60 := rfl
  have t2 : fg_wz 58 = fg_zO 58 := rfl
  have t3 : fg_wz 59 = fg_zO 59 := rfl
  have t4 : fg_set (fg_fre fg_wz) (fg_zf fg_z0) = fg_set (fg_fre fg_zO) (fg_zf fg_z0) := rfl
  have t5 : fg_set (fg_upb fg_z0 (fg_sf fg_z0 fg_wz)) (fg_zs fg_z0) = fg_set (fg_upb fg_z0 (fg_sf fg_z0 fg_zO)) (fg_zs fg_z0) := rfl
  have t6 : fg_set (fg_clr fg_z0 (fg_s0 fg_z0 (fg_tn fg_z0 fg_zO)) (fg_lw fg_wz 0 0)) (fg_zs fg_z0) = fg_set (fg_clr fg_z0 (fg_s0 fg_z0 (fg_tn fg_z0 fg_zO)) (fg_lw fg_zO 0 0)) (fg_zs fg_z0) := rfl
  have t7 : fg_cc fg_z0 fg_wz = fg_cc fg_z0 fg_zO := funext fun _ => rfl
  have t8 : (fg_bo fg_z0 fg_wz 0 0 (fg_zf fg_z0)).1 = (fg_bo fg_z0 fg_zO 0 0 (fg_zf fg_z0)).1 := rfl
  have t9 : fg_pw fg_z0 fg_wz R.2.1 R.2.2 0 = fg_pw fg_z0 fg_zO R.2.1 R.2.2 0 := funext fun _ => rfl
  have t10 : ∀ (x : Int32 × Int32) c, (fg_lsf x c (fg_zs fg_z0)) = x := fun _ _ => rfl
  unfold fg_tlA
  rw [hR, t1, t2, t3, t4, t5, fg_wz_t, t6, t7, t8, t9, t10, t10]
theorem d_MO_told {a : Int32} (hh : hz ≤ 2) (hw : wd ≤ 1) (e1 : w 58 = nI hz) (e2 : w 59 = nI wd) (h : fg_J σ z w P I T v s R B) (H : ∀ u, fg_sm fg_pN σ u → fg_J u z w P I T v s R B → Q (fg_tlA z w hz wd P T R B a) u) : fg_Run (d + 7) 159 0 [some (.ref 187), some (.int a)] [] σ Q := by
  rcases h with h | h
  · exact c_MO_told hh hw e1 e2 h (fun u m k => H u m (Or.inl k))
  · have hx : ∀ u, fg_sm fg_pM σ u → Q (fg_tlA z w hz wd P T R B a) u := fun u m => H u (m.wk fg_pMN) (Or.inr (h.m m))
    obtain ⟨⟨rfl, rfl⟩, a2, a3, a4, a5, a6, a7, a8, a9⟩ := h
    have hz0 : 0 = hz := (nI_eq (a := 0) (by decide) (by omega)).mp e1
    have wd0 : 0 = wd := (nI_eq (a := 0) (by decide) (by omega)).mp e2
    subst hz0
    subst wd0
    rw [fg_tlz a8.1, ← a2.1] at hx
    exact g_MO_told hh hw (by rw [a2.1]; rfl) (by rw [a2.1]; rfl) a2.2 a5.2.1 ⟨⟨by rw [a8.1]; exact a8.2, by omega⟩, fun i hi => absurd hi (by omega)⟩ (by rw [a9.1]; exact a9.2) (by rw [a3.1]; exact a3.2) hx
theorem d_MO_flag {a b : Int32} (hh : hz ≤ 2) (hw : wd ≤ 1) (e1 : w 58 = nI hz) (e2 : w 59 = nI wd) (h : fg_J σ z w P I T v s R B) (H : ∀ u, fg_sm fg_pN σ u → fg_J u z w P I T v s R B → Q (fg_flA z w hz wd a b) u) : fg_Run (d + 2) 160 0 [some (.ref 187), some (.int a), some (.int b)] [] σ Q := by
  rcases h with h | h
  · exact c_MO_flag hh hw e1 e2 h (fun u m k => H u m (Or.inl k))
  · have H := H σ fg_sm.rfl' (Or.inr h)
    obtain ⟨⟨rfl, rfl⟩, ⟨h1, M⟩, -⟩ := h
    refine b_MO_flag_0 (fg_use (r_MO_isFlag M.1 M.2.1 (fg_bt (fun e => fg_n0x e) (fun _ => ?_))))
    have n0 : fg_isn a (fg_zf fg_z0) = false := fg_isn0
    rw [fg_flA, n0] at H
    exact H
theorem d_MO_line {a b : Int32} (h : fg_J σ z w P I T v s R B) (H : ∀ u, fg_sm fg_pN σ u → fg_J u z w P I T v s R B → Q (fg_liA z w a b) u) : fg_Run (d + 2) 164 0 [some (.ref 187), some (.int a), some (.int b)] [] σ Q := by
  rcases h with h | h
  · exact c_MO_line h (fun u m k => H u m (Or.inl k))
  · have H := H σ fg_sm.rfl' (Or.inr h)
    obtain ⟨⟨rfl, rfl⟩, ⟨h1, M⟩, -⟩ := h
    refine b_MO_line_0 (fg_use (r_MO_isLine M.1 M.2.1 (fg_bt (fun e => fg_n0x e) (fun _ => ?_))))
    have n0 : fg_isn a (fg_zH fg_z0) = false := fg_isn0
    rw [fg_liA, n0] at H
    exact H
theorem d_MO_needs {a b : Int32} (h : fg_J σ z w P I T v s R B) (H : ∀ u, fg_sm fg_pN σ u → fg_J u z w P I T v s R B → Q (fg_nsA z w a b) u) : fg_Run (d + 3) 165 0 [some (.ref 187), some (.int a), some (.int b)] [] σ Q := by
  rcases h with h | h
  · exact c_MO_needs h (fun u m k => H u m (Or.inl k))
  · have H := H σ fg_sm.rfl' (Or.inr h)
    obtain ⟨⟨rfl, rfl⟩, ⟨h1, M⟩, -⟩ := h
    refine b_MO_needs_0 (fg_use (r_MO_isSig M.1 M.2.1 (fg_bt (fun e => fg_n0x e) (fun _ => ?_))))
    have n0 : fg_isn a (fg_zs fg_z0) = false := fg_isn0
    rw [fg_nsA, n0] at H
    exact H
theorem d_MO_look {a b c : Int32} (h : fg_J σ z w P I T v s R B) (H : ∀ u, fg_sm fg_pN σ u → fg_J u z w P I T v s R B → Q (fg_lkA z w a b c) u) : fg_Run (d + 2) 186 0 [some (.ref 187), some (.int a), some (.int b), some (.int c)] [] σ Q := by
  rcases h with h | h
  · exact c_MO_look h (fun u m k => H u m (Or.inl k))
  · have H := H σ fg_sm.rfl' (Or.inr h)
    obtain ⟨⟨rfl, rfl⟩, ⟨h1, M⟩, -⟩ := h
    refine b_MO_look_0 (fg_use (r_MO_isFlag M.1 M.2.1 (fg_bt (fun e => fg_n0x e) (fun _ => ?_))))
    have n0 : fg_isn a (fg_zf fg_z0) = false := fg_isn0
    rw [fg_lkA, n0] at H
    exact H
theorem d_MO_signal {a b : Int32} (hh : hz ≤ 2) (hw : wd ≤ 1) (e1 : w 58 = nI hz) (e2 : w 59 = nI wd) (h : fg_J σ z w P I T v s R B) (H : ∀ u, fg_sm fg_pN σ u → fg_J u z w P I T v s R B → Q (fg_siA z w hz wd a b) u) : fg_Run (d + 5) 163 0 [some (.ref 187), some (.int a), some (.int b)] [] σ Q := by
  rcases h with h | h
  · exact c_MO_signal hh hw e1 e2 h (fun u m k => H u m (Or.inl k))
  · have H := H σ fg_sm.rfl' (Or.inr h)
    obtain ⟨⟨rfl, rfl⟩, ⟨h1, M⟩, -⟩ := h
    refine b_MO_signal_0 (fg_use (r_MO_isSig M.1 M.2.1 (fg_bt (fun e => fg_n0x e) (fun _ => ?_))))
    have n0 : fg_isn a (fg_zs fg_z0) = false := fg_isn0
    rw [fg_siA, n0] at H
    exact H
theorem d_MO_together {a : Int32} (h : fg_J σ z w P I T v s R B) (H : ∀ u, fg_sm fg_pN σ u → fg_J u z w P I T v s R B → Q (fg_toA z w a) u) : fg_Run (d + 4) 152 0 [some (.ref 187), some (.int a)] [] σ Q := by
  rcases h with h | h
  · exact c_MO_together h (fun u m k => H u m (Or.inl k))
  · have hx : ∀ u, fg_sm fg_pM σ u → Q (fg_toA z w a) u := fun u m => H u (m.wk fg_pMN) (Or.inr (h.m m))
    obtain ⟨⟨rfl, rfl⟩, a2, -⟩ := h
    rw [fg_toA, fg_wz_t, ← fg_toA] at hx
    exact g_MO_together a2.1 a2.2 hx
theorem d_MO_turns {a b : Int32} (h : fg_J σ z w P I T v s R B) (H : ∀ u, fg_sm fg_pN σ u → fg_J u z w P I T v s R B → Q (fg_trA z w a b) u) : fg_Run (d + 5) 154 0 [some (.ref 187), some (.int a), some (.int b), none, none] [] σ Q := by
  rcases h with h | h
  · exact c_MO_turns h (fun u m k => H u m (Or.inl k))
  · have hx : ∀ u, fg_sm fg_pM σ u → Q (fg_trA z w a b) u := fun u m => H u (m.wk fg_pMN) (Or.inr (h.m m))
    obtain ⟨⟨rfl, rfl⟩, a2, -⟩ := h
    rw [fg_trA, fg_wz_t, ← fg_trA] at hx
    exact g_MO_turns a2.1 a2.2 hx
theorem d_MO_hoist {a b : Int32} (h : fg_J σ z w P I T v s R B) (H : ∀ u, fg_sm fg_pN σ u → fg_J u z (fg_hoW z w a b) (fg_hoP z w P a b) I T v s R B → Q (fg_hoA z w a b) u) : fg_Run (d + 4) 169 0 [some (.ref 187), some (.int a), some (.int b)] [] σ Q := by
  rcases h with h | h
  · exact c_MO_hoist h (fun u m k => H u m (Or.inl k))
  · have n0 : fg_isn a (fg_zH fg_z0) = false := fg_isn0
    have M := h.2.1.2
    obtain ⟨rfl, rfl⟩ := h.1
    refine b_MO_hoist_0 (fg_use (r_MO_isLine M.1 M.2.1 (fg_bt' (fun e => fg_n0x e) (fun _ => ?_))))
    rw [fg_hoW, fg_hoP, fg_hoA, fg_hoO, n0] at H
    exact H σ fg_sm.rfl' (Or.inr h)
theorem d_MO_haul {a : Int32} (h : fg_J σ z w P I T v s R B) (H : ∀ u, fg_sm fg_pN σ u → fg_J u z (fg_haW z w a) (fg_haP z w P a) I T v s R B → Q (fg_haA z w a) u) : fg_Run (d + 2) 171 0 [some (.ref 187), some (.int a)] [] σ Q := by
  rcases h with h | h
  · exact c_MO_haul h (fun u m k => H u m (Or.inl k))
  · have n0 : fg_isn a (fg_zH fg_z0) = false := fg_isn0
    have M := h.2.1.2
    obtain ⟨rfl, rfl⟩ := h.1
    refine b_MO_haul_0 (fg_use (r_MO_isLine M.1 M.2.1 (fg_bt (fun e => fg_n0x e) (fun _ => ?_))))
    rw [fg_haW, fg_haP, fg_haA, fg_haO, n0] at H
    exact H σ fg_sm.rfl' (Or.inr h)
theorem d_MO_sew {a : Int32} (h : fg_J σ z w P I T v s R B) (H : ∀ u, fg_sm fg_pN σ u → fg_J u z (fg_swW z w a) (fg_swP z w P a) I T v s R B → Q (fg_swA z w a) u) : fg_Run (d + 2) 177 0 [some (.ref 187), some (.int a), none] [] σ Q := by
  rcases h with h | h
  · exact c_MO_sew h (fun u m k => H u m (Or.inl k))
  · have n0 : fg_isn a (fg_zf fg_z0) = false := fg_isn0
    have M := h.2.1.2
    obtain ⟨rfl, rfl⟩ := h.1
    refine b_MO_sew_0 (fg_use (r_MO_isFlag M.1 M.2.1 (fg_bt (fun e => fg_n0x e) (fun _ => ?_))))
    rw [fg_swW, fg_swP, fg_swA, fg_swO, n0] at H
    exact H σ fg_sm.rfl' (Or.inr h)
theorem d_MO_anew {f k a b : Int32} (h : fg_J σ z w P I T v s R B) (H : ∀ u, fg_sm fg_pN σ u → fg_J u z (fg_anW z w f k a b) (fg_anP z w P f k a b) I T v s R B → Q (fg_anA z w f k a b) u) : fg_Run (d + 6) 178 0 [some (.ref 187), some (.int f), some (.int k), some (.int a), some (.int b)] [] σ Q := by
  rcases h with h | h
  · exact c_MO_anew h (fun u m k => H u m (Or.inl k))
  · have n0 : fg_isn f (fg_zf fg_z0) = false := fg_isn0
    have M := h.2.1.2
    obtain ⟨rfl, rfl⟩ := h.1
    refine b_MO_anew_0 (fg_use (r_MO_isFlag M.1 M.2.1 (fg_bt (fun e => fg_n0x e) (fun _ => ?_))))
    rw [fg_anW, fg_anP, fg_anA, fg_anO, n0] at H
    exact H σ fg_sm.rfl' (Or.inr h)
theorem fg_rfz {a : Int32} : ¬ fg_rfd fg_z0 w a = 0 := by
  unfold fg_rfd
  rw [if_pos (show fg_zH fg_z0 = 0 from rfl)]
  split <;> decide
theorem fg_rfw {a : Int32} : fg_rfd fg_z0 fg_zO a = fg_rfd fg_z0 fg_wz a := rfl
theorem d_MO_day {a : Int32} (h : fg_J σ z w P I T v s R B) (H : ∀ u, fg_sm fg_pN σ u → fg_J u z (fg_daW z w a) (fg_daP z w P a) I T v s R B → Q (fg_daA z w a) u) : fg_Run (d + 2) 174 0 [some (.ref 187), some (.int a), none, none] [] σ Q := by
  rcases h with h | h
  · exact c_MO_day h (fun u m k => H u m (Or.inl k))
  · have M := h.2.1.2
    have h1 := h.2.1.1
    obtain ⟨rfl, rfl⟩ := h.1
    refine b_MO_day_0 (fg_use (r_MO_daysRefused M h1 ⟨fun q => absurd q fg_rfz, fun q => ?_⟩))
    rw [fg_daW, fg_daP, fg_daA, if_neg fg_rfz, if_neg fg_rfz, if_neg fg_rfz] at H
    exact H σ fg_sm.rfl' (Or.inr h)
theorem d_MO_drift {a : Int32} (h : fg_J σ z w P I T v s R B) (H : ∀ u, fg_sm fg_pN σ u → fg_J u z (fg_dfW z w s a) (fg_daP z w P a) I T v (fg_dfS z w s a) R B → Q (fg_dfA z w s a) u) : fg_Run (d + 6) 184 0 [some (.ref 187), some (.int a), none, none] [] σ Q := by
  rcases h with h | h
  · exact c_MO_drift h (fun u m k => H u m (Or.inl k))
  · have M := h.2.1.2
    have h1 := h.2.1.1
    obtain ⟨rfl, rfl⟩ := h.1
    refine b_MO_drift_0 (fg_use (r_MO_daysRefused M h1 ⟨fun q => absurd q fg_rfz, fun q => ?_⟩))
    rw [fg_dfW, fg_daP, fg_dfS, fg_dfA, if_neg fg_rfz, if_neg fg_rfz, if_neg fg_rfz, if_neg fg_rfz] at H
    exact H σ fg_sm.rfl' (Or.inr h)
theorem d_MO_weather {a b : Int32} (h : fg_J σ z w P I T v s R B) (H : ∀ u, fg_sm fg_pN σ u → fg_J u z (fg_weW z w a b) (fg_weP z w P a b) I T v s R B → Q (fg_weA z w a b) u) : fg_Run (d + 6) 179 0 [some (.ref 187), some (.int a), some (.int b), none] [] σ Q := by
  rcases h with h | h
  · exact c_MO_weather h (fun u m k => H u m (Or.inl k))
  · have M := h.2.1.2
    obtain ⟨rfl, rfl⟩ := h.1
    have nay : fg_isr a 0 2 = true → Q (-1000000003) σ := fun o1 => by
      have o : fg_weO fg_z0 fg_wz a b = false := by simp [fg_weO]; exact fun _ x => absurd rfl x
      rw [fg_weW, fg_weP, fg_weA, o, o1] at H
      exact H σ fg_sm.rfl' (Or.inr h)
    refine b_MO_weather_0 (fg_use (r_MO_inr (lo := 0) (hi := 2) rfl rfl (fg_bt (fun o1 => ?_) (fun o1 => ?_))))
    · rw [M.2.1.1.1]
      exact ⟨fun b0 => ⟨fun e => nay o1, fun e => absurd rfl e⟩, fun b0 => ⟨fun e => nay o1, fun e => absurd rfl e⟩⟩
    · have o : fg_weO fg_z0 fg_wz a b = false := by simp [fg_weO]; exact fun _ x => absurd rfl x
      rw [fg_weW, fg_weP, fg_weA, o, o1] at H
      exact H σ fg_sm.rfl' (Or.inr h)
theorem d_MO_undo (h : fg_J σ z w P I T v s R B) (H : ∀ u, fg_sm fg_pN σ u → fg_J u z (fg_unW P w) (fg_unP P) I T v s R B → Q (fg_unA P) u) : fg_Run d 185 0 [some (.ref 187), none] [] σ Q := by
  rcases h with h | h
  · exact c_MO_undo h (fun u m k => H u m (Or.inl k))
  · have a3 := h.2.2.1
    refine b_MO_undo_0 ?_
    rw [a3.2]
    refine ⟨fun q => absurd rfl q, fun _ => ?_⟩
    rw [fg_unA, fg_unP, fg_unW, if_pos a3.1, if_pos a3.1, if_pos a3.1] at H
    exact H σ fg_sm.rfl' (Or.inr h)
theorem d_MO_keep {a : Int32} (h : fg_J σ z w P I T v s R B) (H : ∀ u, fg_sm fg_pN σ u → fg_J u z w (fg_kpP P a) (fg_kpI I w s a) T v s R B → Q (fg_kpA a) u) : fg_Run (d + 1) 193 0 [some (.ref 187), some (.int a), none] [] σ Q := by
  rcases h with h | h
  · exact c_MO_keep h (fun u m k => H u m (Or.inl k))
  · have h1 := h.2.1.1
    have hs := h.2.2.2.2.2.2.1
    refine b_MO_keep_0 (fg_use (r_MO_inr (lo := 0) (hi := 1) rfl rfl (fg_bt (fun o => ?_) (fun o => ?_))))
    · rw [fg_kpP, fg_kpI, fg_kpA, if_pos o, if_pos o, if_pos o] at H
      obtain ⟨i, _, hi, rfl⟩ := fg_isr_t o (by decide)
      rw [nI_clamp (by omega)] at H
      refine l_MO_keep (c := i) (by omega) (fun u m n hr => ?_) 61 0 σ rfl fg_sm.rfl' fg_sn.rf (fun k => by rw [if_neg (by omega)])
      have e8 : fg_F u 187 8 = nI s := (n.1 8 rfl).trans hs.2
      rw [e8]
      have n2 : fg_sn (fun k => k == 30) (fun g => g == 207 || g == 208) σ (fg_sF (fg_sR (fg_sR u 207 (62 * i + 61) (nI s)) 208 i 1) 187 30 0) := (n.wk (fun _ _ => rfl) (fun g q => by simp at q ⊢; exact q.1)).tr (((fg_sn_R (by decide)).tr (fg_sn_R (by decide))).tr (fg_sn_F (by decide)))
      have V8 : ∀ k, fg_R (fg_sF (fg_sR (fg_sR u 207 (62 * i + 61) (nI s)) 208 i 1) 187 30 0) 208 k = if k = i then 1 else fg_R σ 208 k := fun k => by
        show fg_R (fg_sR (fg_sR u 207 (62 * i + 61) (nI s)) 208 i 1) 208 k = _
        rw [fg_R_sR]
        by_cases e : k = i
        · rw [if_pos ⟨rfl, e⟩, if_pos e]
        · rw [if_neg (fun q => e q.2), if_neg e, fg_R_sR, if_neg (fun q => absurd q.1 (by decide))]
          exact n.2 208 rfl k
      have V7 : ∀ k, fg_R (fg_sF (fg_sR (fg_sR u 207 (62 * i + 61) (nI s)) 208 i 1) 187 30 0) 207 k = if k = 62 * i + 61 then nI s else fg_R u 207 k := fun k => by
        show fg_R (fg_sR (fg_sR u 207 (62 * i + 61) (nI s)) 208 i 1) 207 k = _
        rw [fg_R_sR, if_neg (fun q => absurd q.1 (by decide)), fg_R_sR]
        by_cases e : k = 62 * i + 61
        · rw [if_pos ⟨rfl, e⟩, if_pos e]
        · rw [if_neg (fun q => e q.2), if_neg e]
      have F30 : fg_F (fg_sF (fg_sR (fg_sR u 207 (62 * i + 61) (nI s)) 208 i 1) 187 30 0) 187 30 = 0 := rfl
      have H := H (fg_sF (fg_sR (fg_sR u 207 (62 * i + 61) (nI s)) 208 i 1) 187 30 0) (m.tr (((fg_sm_R (by decide)).tr (fg_sm_R (by decide))).tr (fg_sm_F (by decide))))
      generalize fg_sF (fg_sR (fg_sR u 207 (62 * i + 61) (nI s)) 208 i 1) 187 30 0 = X at n2 V8 V7 F30 H ⊢
      obtain ⟨⟨rfl, rfl⟩, a2, a3, a4, a5, a6, a7, a8, a9⟩ := h
      refine H (Or.inr ⟨⟨rfl, rfl⟩, ⟨(funext (n2.2 191 rfl)).trans a2.1, a2.2.sn n2 rfl rfl rfl rfl rfl rfl rfl⟩, ⟨rfl, F30⟩, fun j hj => ?_, a5.sn n2 rfl rfl, (n2.1 11 rfl).trans a6, ⟨a7.1, (n2.1 8 rfl).trans a7.2⟩, ⟨a8.1, (n2.1 26 rfl).trans a8.2⟩, ⟨a9.1, (n2.1 32 rfl).trans a9.2⟩⟩)
      show fg_R X 208 j = fg_b (if j = i then true else I.1 j) ∧ ((if j = i then true else I.1 j) = true → (∀ k, k < 61 → fg_R X 207 (62 * j + k) = 0) ∧ fg_R X 207 (62 * j + 61) = nI (if j = i then s else I.2.2 j) ∧ (if j = i then s else I.2.2 j) < 2 ^ 31 ∧ (if j = i then fg_wz else I.2.1 j) = fg_wz)
      by_cases ej : j = i
      · rw [if_pos ej, if_pos ej, if_pos ej, V8, if_pos ej]
        refine ⟨rfl, fun _ => ⟨fun k hk => ?_, ?_, a7.1, rfl⟩⟩
        · rw [V7, if_neg (by omega), hr, if_pos (by omega), h1]
          rfl
        · rw [V7, if_pos (by omega)]
      · rw [if_neg ej, if_neg ej, if_neg ej, V8, if_neg ej]
        obtain ⟨g1, g2⟩ := a4 j hj
        refine ⟨g1, fun q => ?_⟩
        obtain ⟨k1, k2, k3⟩ := g2 q
        refine ⟨fun k hk => ?_, ?_, k3⟩
        · rw [V7, if_neg (by omega), hr, if_neg (by omega)]
          exact k1 k hk
        · rw [V7, if_neg (by omega), hr, if_neg (by omega)]
          exact k2
    · rw [fg_kpP, fg_kpI, fg_kpA, o] at H
      exact H σ fg_sm.rfl' (Or.inr h)
theorem d_MO_goBack {a : Int32} (h : fg_J σ z w P I T v s R B) (H : ∀ u, fg_sm fg_pN σ u → fg_J u z (fg_gbW I w a) (fg_gbP I P a) I T v (fg_gbS I s a) R B → Q (fg_gbA I a) u) : fg_Run (d + 1) 194 0 [some (.ref 187), some (.int a), none] [] σ Q := by
  rcases h with h | h
  · exact c_MO_goBack h (fun u m k => H u m (Or.inl k))
  · have h1 := h.2.1.1
    refine b_MO_goBack_0 (fg_use (r_MO_inr (lo := 0) (hi := 1) rfl rfl (fg_bt (fun o => ?_) (fun o => ?_))))
    · rw [fg_gbA, if_pos o] at H
      obtain ⟨i, _, hi, rfl⟩ := fg_isr_t o (by decide)
      have eO : fg_gbO I (nI i) = I.1 i := by rw [fg_gbO, o, nI_clamp (by omega)]; rfl
      rw [fg_gbW, fg_gbP, fg_gbS, eO, nI_clamp (by omega)] at H
      obtain ⟨i1, i2⟩ := h.2.2.2.1 i (by omega)
      rw [nI_clamp (by omega), i1]
      refine ⟨vp_in_nI (by omega) (by decide), fg_bt (fun ek => ?_) (fun ek => ?_)⟩
      · obtain ⟨j1, j2, j3, j4⟩ := i2 ek
        rw [ek, if_pos rfl, if_pos rfl, if_pos rfl, if_pos rfl] at H
        refine l_MO_goBack (c := i) (by omega) (fun u m n hr => ?_) 61 0 σ rfl fg_sm.rfl' fg_sn.rf (fun k => by rw [if_neg (by omega)])
        have e7 : fg_R u 207 (62 * i + 61) = nI (I.2.2 i) := (n.2 207 rfl _).trans j2
        rw [e7]
        have n2 : fg_sn (fun k => k == 8 || k == 30) (fun g => g == 191) σ (fg_sF (fg_sF u 187 8 (nI (I.2.2 i))) 187 30 0) := (n.wk (fun _ _ => rfl) (fun _ q => q)).tr ((fg_sn_F (by decide)).tr (fg_sn_F (by decide)))
        have e : fg_R (fg_sF (fg_sF u 187 8 (nI (I.2.2 i))) 187 30 0) 191 = fg_zO := by
          show fg_R u 191 = _
          funext k
          rw [hr]
          by_cases hk : k < 61
          · rw [if_pos hk]
            exact j1 k hk
          · rw [if_neg hk, h1]
        obtain ⟨⟨rfl, rfl⟩, a2, a3, a4, a5, a6, a7, a8, a9⟩ := h
        have H := H (fg_sF (fg_sF u 187 8 (nI (I.2.2 i))) 187 30 0) (m.tr ((fg_sm_F (by decide)).tr (fg_sm_F (by decide))))
        rw [j4, fg_w61_s] at H
        refine H (Or.inr ⟨⟨rfl, rfl⟩, ⟨e, a2.2.1, a2.2.2.1.sn n2 rfl rfl rfl rfl rfl rfl, fun g hg => absurd hg (Nat.not_lt_zero _), fun g hg => absurd hg (Nat.not_lt_zero _)⟩, ⟨rfl, rfl⟩, a4.sn n2 rfl rfl, a5.sn n2 rfl rfl, (n2.1 11 rfl).trans a6, ⟨j3, rfl⟩, ⟨a8.1, (n2.1 26 rfl).trans a8.2⟩, ⟨a9.1, (n2.1 32 rfl).trans a9.2⟩⟩)
      · rw [ek, if_neg (by decide), if_neg (by decide), if_neg (by decide), if_neg (by decide)] at H
        exact H σ fg_sm.rfl' (Or.inr h)
    · have e2 : fg_gbO I a = false := by simp [fg_gbO, o]
      rw [fg_gbW, fg_gbP, fg_gbS, fg_gbA, o, e2] at H
      exact H σ fg_sm.rfl' (Or.inr h)
end
