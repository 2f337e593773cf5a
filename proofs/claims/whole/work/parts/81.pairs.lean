/-! THE CLASS AND THE REFERENCE, ONE CALL OF EACH (laid by wip/whole/gen81.py) -/
def lw_Inv (σ : fg_St) : Prop := ∃ (z : fg_Z) (w : Nat → Int32) (P : fg_GP) (I : fg_GI) (T : fg_GT) (v : Int32) (s : Nat) (R : fg_GR) (B : fg_GB), fg_CI σ z w P I T v s R B ∧ fg_J σ z w P I T v s R B
def lw_ok (jF jM : Nat) (LF LM : List (Option Value)) : Prop := ∀ σ, lw_Inv σ → ∃ Pm : Int32 → fg_St → Prop, fg_Run 8 jF 0 LF [] σ Pm ∧ ∀ y u, Pm y u → fg_Run 8 jM 0 LM [] u (fun y2 t => y2 = y ∧ lw_Inv t)
theorem lw_feed {a : Int32} : lw_ok 60 116 [some (.ref 0), some (.int a)] [some (.ref 187), some (.int a)] := by
  intro σ h
  obtain ⟨z, w, P, I, T, v, s, R, B, hC, hJ⟩ := h
  refine ⟨fun y u => y = (fg_fdA T a) ∧ fg_CI u z w P I (fg_fdT T a) v s R B ∧ fg_J u z w P I T v s R B, c_FS_feed hC (fun u m k => ⟨rfl, k, hJ.c m⟩), ?_⟩
  intro y u hq
  obtain ⟨rfl, kC, kJ⟩ := hq
  exact d_MO_feed kJ (fun t m k => ⟨rfl, _, _, _, _, _, _, _, _, _, kC.n m, k⟩)
theorem lw_ship : lw_ok 61 126 [some (.ref 0), none, none, none] [some (.ref 187), none] := by
  intro σ h
  obtain ⟨z, w, P, I, T, v, s, R, B, hC, hJ⟩ := h
  refine ⟨fun y u => y = (fg_shA T) ∧ fg_CI u (fg_shZ T z) (fg_shW T w) (fg_shP T P) (fg_shI T I) (0, T.2) (fg_shV T) s (fg_shR T R) (fg_shB T B) ∧ fg_J u z w P I T v s R B, c_FS_ship hC (fun u m k => ⟨rfl, k, hJ.sc m⟩), ?_⟩
  intro y u hq
  obtain ⟨rfl, kC, kJ⟩ := hq
  exact d_MO_ship kJ (fun t m k => ⟨rfl, _, _, _, _, _, _, _, _, _, kC.n m, k⟩)
theorem lw_fault : lw_ok 62 127 [some (.ref 0)] [some (.ref 187)] := by
  intro σ h
  obtain ⟨z, w, P, I, T, v, s, R, B, hC, hJ⟩ := h
  refine ⟨fun y u => y = v ∧ fg_CI u z w P I T v s R B ∧ fg_J u z w P I T v s R B, c_FS_fault hC (fun u m k => ⟨rfl, k, hJ.c m⟩), ?_⟩
  intro y u hq
  obtain ⟨rfl, kC, kJ⟩ := hq
  exact d_MO_fault kJ (fun t m k => ⟨rfl, _, _, _, _, _, _, _, _, _, kC.n m, k⟩)
theorem lw_told {a : Int32} : lw_ok 63 159 [some (.ref 0), some (.int a)] [some (.ref 187), some (.int a)] := by
  intro σ h
  obtain ⟨z, w, P, I, T, v, s, R, B, hC, hJ⟩ := h
  obtain ⟨-, ⟨hz, hh, e1⟩, ⟨wd, hw, e2⟩⟩ := hC.2.1.2.2.2.2.B
  refine ⟨fun y u => y = (fg_tlA z w hz wd P T R B a) ∧ fg_CI u z w P I T v s R B ∧ fg_J u z w P I T v s R B, c_FS_told hh hw e1 e2 hC (fun u m k => ⟨rfl, k, hJ.c m⟩), ?_⟩
  intro y u hq
  obtain ⟨rfl, kC, kJ⟩ := hq
  exact d_MO_told hh hw e1 e2 kJ (fun t m k => ⟨rfl, _, _, _, _, _, _, _, _, _, kC.n m, k⟩)
theorem lw_flag {a b : Int32} : lw_ok 64 160 [some (.ref 0), some (.int a), some (.int b)] [some (.ref 187), some (.int a), some (.int b)] := by
  intro σ h
  obtain ⟨z, w, P, I, T, v, s, R, B, hC, hJ⟩ := h
  obtain ⟨-, ⟨hz, hh, e1⟩, ⟨wd, hw, e2⟩⟩ := hC.2.1.2.2.2.2.B
  refine ⟨fun y u => y = (fg_flA z w hz wd a b) ∧ fg_CI u z w P I T v s R B ∧ fg_J u z w P I T v s R B, c_FS_flag hh hw e1 e2 hC (fun u m k => ⟨rfl, k, hJ.c m⟩), ?_⟩
  intro y u hq
  obtain ⟨rfl, kC, kJ⟩ := hq
  exact d_MO_flag hh hw e1 e2 kJ (fun t m k => ⟨rfl, _, _, _, _, _, _, _, _, _, kC.n m, k⟩)
theorem lw_signal {a b : Int32} : lw_ok 65 163 [some (.ref 0), some (.int a), some (.int b)] [some (.ref 187), some (.int a), some (.int b)] := by
  intro σ h
  obtain ⟨z, w, P, I, T, v, s, R, B, hC, hJ⟩ := h
  obtain ⟨-, ⟨hz, hh, e1⟩, ⟨wd, hw, e2⟩⟩ := hC.2.1.2.2.2.2.B
  refine ⟨fun y u => y = (fg_siA z w hz wd a b) ∧ fg_CI u z w P I T v s R B ∧ fg_J u z w P I T v s R B, c_FS_signal hh hw e1 e2 hC (fun u m k => ⟨rfl, k, hJ.c m⟩), ?_⟩
  intro y u hq
  obtain ⟨rfl, kC, kJ⟩ := hq
  exact d_MO_signal hh hw e1 e2 kJ (fun t m k => ⟨rfl, _, _, _, _, _, _, _, _, _, kC.n m, k⟩)
theorem lw_line {a b : Int32} : lw_ok 66 164 [some (.ref 0), some (.int a), some (.int b)] [some (.ref 187), some (.int a), some (.int b)] := by
  intro σ h
  obtain ⟨z, w, P, I, T, v, s, R, B, hC, hJ⟩ := h
  refine ⟨fun y u => y = (fg_liA z w a b) ∧ fg_CI u z w P I T v s R B ∧ fg_J u z w P I T v s R B, c_FS_line hC (fun u m k => ⟨rfl, k, hJ.c m⟩), ?_⟩
  intro y u hq
  obtain ⟨rfl, kC, kJ⟩ := hq
  exact d_MO_line kJ (fun t m k => ⟨rfl, _, _, _, _, _, _, _, _, _, kC.n m, k⟩)
theorem lw_needs {a b : Int32} : lw_ok 67 165 [some (.ref 0), some (.int a), some (.int b)] [some (.ref 187), some (.int a), some (.int b)] := by
  intro σ h
  obtain ⟨z, w, P, I, T, v, s, R, B, hC, hJ⟩ := h
  refine ⟨fun y u => y = (fg_nsA z w a b) ∧ fg_CI u z w P I T v s R B ∧ fg_J u z w P I T v s R B, c_FS_needs hC (fun u m k => ⟨rfl, k, hJ.c m⟩), ?_⟩
  intro y u hq
  obtain ⟨rfl, kC, kJ⟩ := hq
  exact d_MO_needs kJ (fun t m k => ⟨rfl, _, _, _, _, _, _, _, _, _, kC.n m, k⟩)
theorem lw_hoist {a b : Int32} : lw_ok 68 169 [some (.ref 0), some (.int a), some (.int b)] [some (.ref 187), some (.int a), some (.int b)] := by
  intro σ h
  obtain ⟨z, w, P, I, T, v, s, R, B, hC, hJ⟩ := h
  refine ⟨fun y u => y = (fg_hoA z w a b) ∧ fg_CI u z (fg_hoW z w a b) (fg_hoP z w P a b) I T v s R B ∧ fg_J u z w P I T v s R B, c_FS_hoist hC (fun u m k => ⟨rfl, k, hJ.c m⟩), ?_⟩
  intro y u hq
  obtain ⟨rfl, kC, kJ⟩ := hq
  exact d_MO_hoist kJ (fun t m k => ⟨rfl, _, _, _, _, _, _, _, _, _, kC.n m, k⟩)
theorem lw_haul {a : Int32} : lw_ok 69 171 [some (.ref 0), some (.int a)] [some (.ref 187), some (.int a)] := by
  intro σ h
  obtain ⟨z, w, P, I, T, v, s, R, B, hC, hJ⟩ := h
  refine ⟨fun y u => y = (fg_haA z w a) ∧ fg_CI u z (fg_haW z w a) (fg_haP z w P a) I T v s R B ∧ fg_J u z w P I T v s R B, c_FS_haul hC (fun u m k => ⟨rfl, k, hJ.c m⟩), ?_⟩
  intro y u hq
  obtain ⟨rfl, kC, kJ⟩ := hq
  exact d_MO_haul kJ (fun t m k => ⟨rfl, _, _, _, _, _, _, _, _, _, kC.n m, k⟩)
theorem lw_day {a : Int32} : lw_ok 70 174 [some (.ref 0), some (.int a), none, none] [some (.ref 187), some (.int a), none, none] := by
  intro σ h
  obtain ⟨z, w, P, I, T, v, s, R, B, hC, hJ⟩ := h
  refine ⟨fun y u => y = (fg_daA z w a) ∧ fg_CI u z (fg_daW z w a) (fg_daP z w P a) I T v s R B ∧ fg_J u z w P I T v s R B, c_FS_day hC (fun u m k => ⟨rfl, k, hJ.c m⟩), ?_⟩
  intro y u hq
  obtain ⟨rfl, kC, kJ⟩ := hq
  exact d_MO_day kJ (fun t m k => ⟨rfl, _, _, _, _, _, _, _, _, _, kC.n m, k⟩)
theorem lw_sew {a : Int32} : lw_ok 71 177 [some (.ref 0), some (.int a), none] [some (.ref 187), some (.int a), none] := by
  intro σ h
  obtain ⟨z, w, P, I, T, v, s, R, B, hC, hJ⟩ := h
  refine ⟨fun y u => y = (fg_swA z w a) ∧ fg_CI u z (fg_swW z w a) (fg_swP z w P a) I T v s R B ∧ fg_J u z w P I T v s R B, c_FS_sew hC (fun u m k => ⟨rfl, k, hJ.c m⟩), ?_⟩
  intro y u hq
  obtain ⟨rfl, kC, kJ⟩ := hq
  exact d_MO_sew kJ (fun t m k => ⟨rfl, _, _, _, _, _, _, _, _, _, kC.n m, k⟩)
theorem lw_anew {f k a b : Int32} : lw_ok 72 178 [some (.ref 0), some (.int f), some (.int k), some (.int a), some (.int b)] [some (.ref 187), some (.int f), some (.int k), some (.int a), some (.int b)] := by
  intro σ h
  obtain ⟨z, w, P, I, T, v, s, R, B, hC, hJ⟩ := h
  refine ⟨fun y u => y = (fg_anA z w f k a b) ∧ fg_CI u z (fg_anW z w f k a b) (fg_anP z w P f k a b) I T v s R B ∧ fg_J u z w P I T v s R B, c_FS_anew hC (fun u m k => ⟨rfl, k, hJ.c m⟩), ?_⟩
  intro y u hq
  obtain ⟨rfl, kC, kJ⟩ := hq
  exact d_MO_anew kJ (fun t m k => ⟨rfl, _, _, _, _, _, _, _, _, _, kC.n m, k⟩)
theorem lw_weather {a b : Int32} : lw_ok 73 179 [some (.ref 0), some (.int a), some (.int b), none] [some (.ref 187), some (.int a), some (.int b), none] := by
  intro σ h
  obtain ⟨z, w, P, I, T, v, s, R, B, hC, hJ⟩ := h
  refine ⟨fun y u => y = (fg_weA z w a b) ∧ fg_CI u z (fg_weW z w a b) (fg_weP z w P a b) I T v s R B ∧ fg_J u z w P I T v s R B, c_FS_weather hC (fun u m k => ⟨rfl, k, hJ.c m⟩), ?_⟩
  intro y u hq
  obtain ⟨rfl, kC, kJ⟩ := hq
  exact d_MO_weather kJ (fun t m k => ⟨rfl, _, _, _, _, _, _, _, _, _, kC.n m, k⟩)
theorem lw_drift {a : Int32} : lw_ok 74 184 [some (.ref 0), some (.int a), none, none] [some (.ref 187), some (.int a), none, none] := by
  intro σ h
  obtain ⟨z, w, P, I, T, v, s, R, B, hC, hJ⟩ := h
  refine ⟨fun y u => y = (fg_dfA z w s a) ∧ fg_CI u z (fg_dfW z w s a) (fg_daP z w P a) I T v (fg_dfS z w s a) R B ∧ fg_J u z w P I T v s R B, c_FS_drift hC (fun u m k => ⟨rfl, k, hJ.c m⟩), ?_⟩
  intro y u hq
  obtain ⟨rfl, kC, kJ⟩ := hq
  exact d_MO_drift kJ (fun t m k => ⟨rfl, _, _, _, _, _, _, _, _, _, kC.n m, k⟩)
theorem lw_undo : lw_ok 75 185 [some (.ref 0)] [some (.ref 187), none] := by
  intro σ h
  obtain ⟨z, w, P, I, T, v, s, R, B, hC, hJ⟩ := h
  refine ⟨fun y u => y = (fg_unA P) ∧ fg_CI u z (fg_unW P w) (fg_unP P) I T v s R B ∧ fg_J u z w P I T v s R B, c_FS_undo hC (fun u m k => ⟨rfl, k, hJ.c m⟩), ?_⟩
  intro y u hq
  obtain ⟨rfl, kC, kJ⟩ := hq
  exact d_MO_undo kJ (fun t m k => ⟨rfl, _, _, _, _, _, _, _, _, _, kC.n m, k⟩)
theorem lw_look {a b c : Int32} : lw_ok 76 186 [some (.ref 0), some (.int a), some (.int b), some (.int c)] [some (.ref 187), some (.int a), some (.int b), some (.int c)] := by
  intro σ h
  obtain ⟨z, w, P, I, T, v, s, R, B, hC, hJ⟩ := h
  refine ⟨fun y u => y = (fg_lkA z w a b c) ∧ fg_CI u z w P I T v s R B ∧ fg_J u z w P I T v s R B, c_FS_look hC (fun u m k => ⟨rfl, k, hJ.c m⟩), ?_⟩
  intro y u hq
  obtain ⟨rfl, kC, kJ⟩ := hq
  exact d_MO_look kJ (fun t m k => ⟨rfl, _, _, _, _, _, _, _, _, _, kC.n m, k⟩)
theorem lw_together {a : Int32} : lw_ok 77 152 [some (.ref 0), some (.int a)] [some (.ref 187), some (.int a)] := by
  intro σ h
  obtain ⟨z, w, P, I, T, v, s, R, B, hC, hJ⟩ := h
  refine ⟨fun y u => y = (fg_toA z w a) ∧ fg_CI u z w P I T v s R B ∧ fg_J u z w P I T v s R B, c_FS_together hC (fun u m k => ⟨rfl, k, hJ.c m⟩), ?_⟩
  intro y u hq
  obtain ⟨rfl, kC, kJ⟩ := hq
  exact d_MO_together kJ (fun t m k => ⟨rfl, _, _, _, _, _, _, _, _, _, kC.n m, k⟩)
theorem lw_turns {a b : Int32} : lw_ok 78 154 [some (.ref 0), some (.int a), some (.int b)] [some (.ref 187), some (.int a), some (.int b), none, none] := by
  intro σ h
  obtain ⟨z, w, P, I, T, v, s, R, B, hC, hJ⟩ := h
  refine ⟨fun y u => y = (fg_trA z w a b) ∧ fg_CI u z w P I T v s R B ∧ fg_J u z w P I T v s R B, c_FS_turns hC (fun u m k => ⟨rfl, k, hJ.c m⟩), ?_⟩
  intro y u hq
  obtain ⟨rfl, kC, kJ⟩ := hq
  exact d_MO_turns kJ (fun t m k => ⟨rfl, _, _, _, _, _, _, _, _, _, kC.n m, k⟩)
theorem lw_clear {a b : Int32} : lw_ok 79 187 [some (.ref 0), some (.int a), some (.int b), none, none, none] [some (.ref 187), some (.int a), some (.int b), none, none, none] := by
  intro σ h
  obtain ⟨z, w, P, I, T, v, s, R, B, hC, hJ⟩ := h
  refine ⟨fun y u => y = (fg_odA a b) ∧ fg_CI u z w P I T v s R B ∧ fg_J u z w P I T v s R B, c_FS_clear hC (fun u m k => ⟨rfl, k, hJ.c m⟩), ?_⟩
  intro y u hq
  obtain ⟨rfl, kC, kJ⟩ := hq
  exact d_MO_clear kJ (fun t m k => ⟨rfl, _, _, _, _, _, _, _, _, _, kC.n m, k⟩)
theorem lw_read {a b : Int32} : lw_ok 80 188 [some (.ref 0), some (.int a), some (.int b)] [some (.ref 187), some (.int a), some (.int b)] := by
  intro σ h
  obtain ⟨z, w, P, I, T, v, s, R, B, hC, hJ⟩ := h
  refine ⟨fun y u => y = (fg_rdA z R a b) ∧ fg_CI u z w P I T v s (fg_rdR z R a b) B ∧ fg_J u z w P I T v s R B, c_FS_read hC (fun u m k => ⟨rfl, k, hJ.c m⟩), ?_⟩
  intro y u hq
  obtain ⟨rfl, kC, kJ⟩ := hq
  exact d_MO_read kJ (fun t m k => ⟨rfl, _, _, _, _, _, _, _, _, _, kC.n m, k⟩)
theorem lw_write {a b : Int32} : lw_ok 81 189 [some (.ref 0), some (.int a), some (.int b)] [some (.ref 187), some (.int a), some (.int b)] := by
  intro σ h
  obtain ⟨z, w, P, I, T, v, s, R, B, hC, hJ⟩ := h
  refine ⟨fun y u => y = (fg_wrA z B a b) ∧ fg_CI u z w P I T v s R (fg_wrB z B a b) ∧ fg_J u z w P I T v s R B, c_FS_write hC (fun u m k => ⟨rfl, k, hJ.c m⟩), ?_⟩
  intro y u hq
  obtain ⟨rfl, kC, kJ⟩ := hq
  exact d_MO_write kJ (fun t m k => ⟨rfl, _, _, _, _, _, _, _, _, _, kC.n m, k⟩)
theorem lw_tear : lw_ok 82 190 [some (.ref 0), none] [some (.ref 187), none] := by
  intro σ h
  obtain ⟨z, w, P, I, T, v, s, R, B, hC, hJ⟩ := h
  refine ⟨fun y u => y = (nI (R.1 + B.1)) ∧ fg_CI u z w P I T v s (0, R.2) (0, B.2) ∧ fg_J u z w P I T v s R B, c_FS_tear hC (fun u m k => ⟨rfl, k, hJ.c m⟩), ?_⟩
  intro y u hq
  obtain ⟨rfl, kC, kJ⟩ := hq
  exact d_MO_tear kJ (fun t m k => ⟨rfl, _, _, _, _, _, _, _, _, _, kC.n m, k⟩)
theorem lw_judge : lw_ok 83 191 [some (.ref 0)] [some (.ref 187), none] := by
  intro σ h
  obtain ⟨z, w, P, I, T, v, s, R, B, hC, hJ⟩ := h
  refine ⟨fun y u => y = (fg_jg w B B.1 0) ∧ fg_CI u z w P I T v s R B ∧ fg_J u z w P I T v s R B, c_FS_judge hC (fun u m k => ⟨rfl, k, hJ.c m⟩), ?_⟩
  intro y u hq
  obtain ⟨rfl, kC, kJ⟩ := hq
  exact d_MO_judge kJ (fun t m k => ⟨rfl, _, _, _, _, _, _, _, _, _, kC.n m, k⟩)
theorem lw_seed {a : Int32} : lw_ok 84 192 [some (.ref 0), some (.int a), none] [some (.ref 187), some (.int a), none] := by
  intro σ h
  obtain ⟨z, w, P, I, T, v, s, R, B, hC, hJ⟩ := h
  refine ⟨fun y u => y = (fg_seA s a) ∧ fg_CI u z w P I T v (fg_seS s a) R B ∧ fg_J u z w P I T v s R B, c_FS_seed hC (fun u m k => ⟨rfl, k, hJ.c m⟩), ?_⟩
  intro y u hq
  obtain ⟨rfl, kC, kJ⟩ := hq
  exact d_MO_seed kJ (fun t m k => ⟨rfl, _, _, _, _, _, _, _, _, _, kC.n m, k⟩)
theorem lw_keep {a : Int32} : lw_ok 85 193 [some (.ref 0), some (.int a)] [some (.ref 187), some (.int a), none] := by
  intro σ h
  obtain ⟨z, w, P, I, T, v, s, R, B, hC, hJ⟩ := h
  refine ⟨fun y u => y = (fg_kpA a) ∧ fg_CI u z w (fg_kpP P a) (fg_kpI I w s a) T v s R B ∧ fg_J u z w P I T v s R B, c_FS_keep hC (fun u m k => ⟨rfl, k, hJ.c m⟩), ?_⟩
  intro y u hq
  obtain ⟨rfl, kC, kJ⟩ := hq
  exact d_MO_keep kJ (fun t m k => ⟨rfl, _, _, _, _, _, _, _, _, _, kC.n m, k⟩)
theorem lw_goBack {a : Int32} : lw_ok 86 194 [some (.ref 0), some (.int a)] [some (.ref 187), some (.int a), none] := by
  intro σ h
  obtain ⟨z, w, P, I, T, v, s, R, B, hC, hJ⟩ := h
  refine ⟨fun y u => y = (fg_gbA I a) ∧ fg_CI u z (fg_gbW I w a) (fg_gbP I P a) I T v (fg_gbS I s a) R B ∧ fg_J u z w P I T v s R B, c_FS_goBack hC (fun u m k => ⟨rfl, k, hJ.c m⟩), ?_⟩
  intro y u hq
  obtain ⟨rfl, kC, kJ⟩ := hq
  exact d_MO_goBack kJ (fun t m k => ⟨rfl, _, _, _, _, _, _, _, _, _, kC.n m, k⟩)
