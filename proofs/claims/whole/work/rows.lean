section
-- ===== PART A: goes FIRST, ahead of the names: the tables' words, and 'selects' of the private methods out of them =====
/-- a private method of a class that the tables say can be made, by its rows of tables_1 -/
def lw_okq (q : MethodName × Nat) : Prop := (q.1.cls ≠ "java/lang/invoke/MethodHandle" ∧ q.1.cls ≠ "java/lang/invoke/VarHandle") ∧ Cond.instantiable q.1.cls q.2 ∈ tables_1 ∧ Cond.privateMethod q.1 ∈ tables_1 ∧ Cond.instanceMethod q.1 ∈ tables_1
theorem lw_p0 : lw_okq (⟨"FlagSignals", "readySignals", "()I"⟩, 13) := ⟨⟨by decide +kernel, by decide +kernel⟩, List.mem_of_getElem? (i := 16) (by decide +kernel), List.mem_of_getElem? (i := 423) (by decide +kernel), List.mem_of_getElem? (i := 424) (by decide +kernel)⟩
theorem lw_p1 : lw_okq (⟨"FlagSignals", "clearNow", "()I"⟩, 13) := ⟨⟨by decide +kernel, by decide +kernel⟩, List.mem_of_getElem? (i := 16) (by decide +kernel), List.mem_of_getElem? (i := 463) (by decide +kernel), List.mem_of_getElem? (i := 464) (by decide +kernel)⟩
theorem lw_p2 : lw_okq (⟨"FlagSignals", "watchIn", "(I)V"⟩, 13) := ⟨⟨by decide +kernel, by decide +kernel⟩, List.mem_of_getElem? (i := 16) (by decide +kernel), List.mem_of_getElem? (i := 471) (by decide +kernel), List.mem_of_getElem? (i := 472) (by decide +kernel)⟩
theorem lw_p3 : lw_okq (⟨"FlagSignals", "clearest", "()I"⟩, 13) := ⟨⟨by decide +kernel, by decide +kernel⟩, List.mem_of_getElem? (i := 16) (by decide +kernel), List.mem_of_getElem? (i := 510) (by decide +kernel), List.mem_of_getElem? (i := 511) (by decide +kernel)⟩
theorem lw_p4 : lw_okq (⟨"FlagSignals", "mostTogether", "()I"⟩, 13) := ⟨⟨by decide +kernel, by decide +kernel⟩, List.mem_of_getElem? (i := 16) (by decide +kernel), List.mem_of_getElem? (i := 520) (by decide +kernel), List.mem_of_getElem? (i := 521) (by decide +kernel)⟩
theorem lw_p5 : lw_okq (⟨"FlagSignals", "groupWithin", "(I)V"⟩, 13) := ⟨⟨by decide +kernel, by decide +kernel⟩, List.mem_of_getElem? (i := 16) (by decide +kernel), List.mem_of_getElem? (i := 528) (by decide +kernel), List.mem_of_getElem? (i := 529) (by decide +kernel)⟩
theorem lw_p6 : lw_okq (⟨"FlagSignals", "flyTogether", "(I)Z"⟩, 13) := ⟨⟨by decide +kernel, by decide +kernel⟩, List.mem_of_getElem? (i := 16) (by decide +kernel), List.mem_of_getElem? (i := 532) (by decide +kernel), List.mem_of_getElem? (i := 533) (by decide +kernel)⟩
theorem lw_p7 : lw_okq (⟨"FlagSignals", "neededFlag", "()I"⟩, 13) := ⟨⟨by decide +kernel, by decide +kernel⟩, List.mem_of_getElem? (i := 16) (by decide +kernel), List.mem_of_getElem? (i := 544) (by decide +kernel), List.mem_of_getElem? (i := 545) (by decide +kernel)⟩
theorem lw_p8 : lw_okq (⟨"FlagSignals", "betterFlag", "()I"⟩, 13) := ⟨⟨by decide +kernel, by decide +kernel⟩, List.mem_of_getElem? (i := 16) (by decide +kernel), List.mem_of_getElem? (i := 553) (by decide +kernel), List.mem_of_getElem? (i := 554) (by decide +kernel)⟩
theorem lw_p9 : lw_okq (⟨"FlagSignals", "countClearWith", "(III)I"⟩, 13) := ⟨⟨by decide +kernel, by decide +kernel⟩, List.mem_of_getElem? (i := 16) (by decide +kernel), List.mem_of_getElem? (i := 557) (by decide +kernel), List.mem_of_getElem? (i := 558) (by decide +kernel)⟩
theorem lw_p10 : lw_okq (⟨"FlagSignals", "possibleWeathers", "()I"⟩, 13) := ⟨⟨by decide +kernel, by decide +kernel⟩, List.mem_of_getElem? (i := 16) (by decide +kernel), List.mem_of_getElem? (i := 563) (by decide +kernel), List.mem_of_getElem? (i := 564) (by decide +kernel)⟩
theorem lw_p11 : lw_okq (⟨"FlagSignals", "askedSignal", "()I"⟩, 13) := ⟨⟨by decide +kernel, by decide +kernel⟩, List.mem_of_getElem? (i := 16) (by decide +kernel), List.mem_of_getElem? (i := 577) (by decide +kernel), List.mem_of_getElem? (i := 578) (by decide +kernel)⟩
theorem lw_p12 : lw_okq (⟨"FlagSignals", "fillLikes", "()V"⟩, 13) := ⟨⟨by decide +kernel, by decide +kernel⟩, List.mem_of_getElem? (i := 16) (by decide +kernel), List.mem_of_getElem? (i := 581) (by decide +kernel), List.mem_of_getElem? (i := 582) (by decide +kernel)⟩
theorem lw_p13 : lw_okq (⟨"FlagSignals", "greatestPart", "(II)I"⟩, 13) := ⟨⟨by decide +kernel, by decide +kernel⟩, List.mem_of_getElem? (i := 16) (by decide +kernel), List.mem_of_getElem? (i := 586) (by decide +kernel), List.mem_of_getElem? (i := 587) (by decide +kernel)⟩
theorem lw_p14 : lw_okq (⟨"FlagSignals", "canHoist", "(II)Z"⟩, 13) := ⟨⟨by decide +kernel, by decide +kernel⟩, List.mem_of_getElem? (i := 16) (by decide +kernel), List.mem_of_getElem? (i := 629) (by decide +kernel), List.mem_of_getElem? (i := 630) (by decide +kernel)⟩
theorem lw_p15 : lw_okq (⟨"FlagSignals", "refusedDays", "(I)I"⟩, 13) := ⟨⟨by decide +kernel, by decide +kernel⟩, List.mem_of_getElem? (i := 16) (by decide +kernel), List.mem_of_getElem? (i := 661) (by decide +kernel), List.mem_of_getElem? (i := 662) (by decide +kernel)⟩
def lw_privs_1 : List (MethodName × Nat) := [(⟨"FlagSignals", "readySignals", "()I"⟩, 13), (⟨"FlagSignals", "clearNow", "()I"⟩, 13), (⟨"FlagSignals", "watchIn", "(I)V"⟩, 13), (⟨"FlagSignals", "clearest", "()I"⟩, 13), (⟨"FlagSignals", "mostTogether", "()I"⟩, 13), (⟨"FlagSignals", "groupWithin", "(I)V"⟩, 13), (⟨"FlagSignals", "flyTogether", "(I)Z"⟩, 13), (⟨"FlagSignals", "neededFlag", "()I"⟩, 13), (⟨"FlagSignals", "betterFlag", "()I"⟩, 13), (⟨"FlagSignals", "countClearWith", "(III)I"⟩, 13), (⟨"FlagSignals", "possibleWeathers", "()I"⟩, 13), (⟨"FlagSignals", "askedSignal", "()I"⟩, 13), (⟨"FlagSignals", "fillLikes", "()V"⟩, 13), (⟨"FlagSignals", "greatestPart", "(II)I"⟩, 13), (⟨"FlagSignals", "canHoist", "(II)Z"⟩, 13), (⟨"FlagSignals", "refusedDays", "(I)I"⟩, 13)]
theorem lw_r1 : ∀ q ∈ lw_privs_1, lw_okq q := List.forall_mem_cons.mpr ⟨lw_p0, List.forall_mem_cons.mpr ⟨lw_p1, List.forall_mem_cons.mpr ⟨lw_p2, List.forall_mem_cons.mpr ⟨lw_p3, List.forall_mem_cons.mpr ⟨lw_p4, List.forall_mem_cons.mpr ⟨lw_p5, List.forall_mem_cons.mpr ⟨lw_p6, List.forall_mem_cons.mpr ⟨lw_p7, List.forall_mem_cons.mpr ⟨lw_p8, List.forall_mem_cons.mpr ⟨lw_p9, List.forall_mem_cons.mpr ⟨lw_p10, List.forall_mem_cons.mpr ⟨lw_p11, List.forall_mem_cons.mpr ⟨lw_p12, List.forall_mem_cons.mpr ⟨lw_p13, List.forall_mem_cons.mpr ⟨lw_p14, List.forall_mem_cons.mpr ⟨lw_p15, fun _ h => absurd h List.not_mem_nil⟩⟩⟩⟩⟩⟩⟩⟩⟩⟩⟩⟩⟩⟩⟩⟩
theorem lw_p16 : lw_okq (⟨"FlagSignals", "actByDraws", "()V"⟩, 13) := ⟨⟨by decide +kernel, by decide +kernel⟩, List.mem_of_getElem? (i := 16) (by decide +kernel), List.mem_of_getElem? (i := 695) (by decide +kernel), List.mem_of_getElem? (i := 696) (by decide +kernel)⟩
theorem lw_p17 : lw_okq (⟨"FlagSignals", "draw", "(I)I"⟩, 13) := ⟨⟨by decide +kernel, by decide +kernel⟩, List.mem_of_getElem? (i := 16) (by decide +kernel), List.mem_of_getElem? (i := 699) (by decide +kernel), List.mem_of_getElem? (i := 700) (by decide +kernel)⟩
theorem lw_p18 : lw_okq (⟨"FlagSignals", "hoistDrawn", "(I)V"⟩, 13) := ⟨⟨by decide +kernel, by decide +kernel⟩, List.mem_of_getElem? (i := 16) (by decide +kernel), List.mem_of_getElem? (i := 707) (by decide +kernel), List.mem_of_getElem? (i := 708) (by decide +kernel)⟩
theorem lw_p19 : lw_okq (⟨"FlagSignals", "sewDrawn", "()V"⟩, 13) := ⟨⟨by decide +kernel, by decide +kernel⟩, List.mem_of_getElem? (i := 16) (by decide +kernel), List.mem_of_getElem? (i := 711) (by decide +kernel), List.mem_of_getElem? (i := 712) (by decide +kernel)⟩
theorem lw_p20 : lw_okq (⟨"FlagSignalsModel", "here", "()I"⟩, 37) := ⟨⟨by decide +kernel, by decide +kernel⟩, List.mem_of_getElem? (i := 802) (by decide +kernel), List.mem_of_getElem? (i := 934) (by decide +kernel), List.mem_of_getElem? (i := 935) (by decide +kernel)⟩
theorem lw_p21 : lw_okq (⟨"FlagSignalsModel", "takeClause", "()I"⟩, 37) := ⟨⟨by decide +kernel, by decide +kernel⟩, List.mem_of_getElem? (i := 802) (by decide +kernel), List.mem_of_getElem? (i := 938) (by decide +kernel), List.mem_of_getElem? (i := 939) (by decide +kernel)⟩
theorem lw_p22 : lw_okq (⟨"FlagSignalsModel", "fails", "(II)I"⟩, 37) := ⟨⟨by decide +kernel, by decide +kernel⟩, List.mem_of_getElem? (i := 802) (by decide +kernel), List.mem_of_getElem? (i := 942) (by decide +kernel), List.mem_of_getElem? (i := 943) (by decide +kernel)⟩
theorem lw_p23 : lw_okq (⟨"FlagSignalsModel", "takeLines", "()I"⟩, 37) := ⟨⟨by decide +kernel, by decide +kernel⟩, List.mem_of_getElem? (i := 802) (by decide +kernel), List.mem_of_getElem? (i := 946) (by decide +kernel), List.mem_of_getElem? (i := 947) (by decide +kernel)⟩
theorem lw_p24 : lw_okq (⟨"FlagSignalsModel", "takeNumber", "(II)I"⟩, 37) := ⟨⟨by decide +kernel, by decide +kernel⟩, List.mem_of_getElem? (i := 802) (by decide +kernel), List.mem_of_getElem? (i := 950) (by decide +kernel), List.mem_of_getElem? (i := 951) (by decide +kernel)⟩
theorem lw_p25 : lw_okq (⟨"FlagSignalsModel", "takeFlag", "()I"⟩, 37) := ⟨⟨by decide +kernel, by decide +kernel⟩, List.mem_of_getElem? (i := 802) (by decide +kernel), List.mem_of_getElem? (i := 956) (by decide +kernel), List.mem_of_getElem? (i := 957) (by decide +kernel)⟩
theorem lw_p26 : lw_okq (⟨"FlagSignalsModel", "takeSignal", "()I"⟩, 37) := ⟨⟨by decide +kernel, by decide +kernel⟩, List.mem_of_getElem? (i := 802) (by decide +kernel), List.mem_of_getElem? (i := 960) (by decide +kernel), List.mem_of_getElem? (i := 961) (by decide +kernel)⟩
theorem lw_p27 : lw_okq (⟨"FlagSignalsModel", "beginAll", "()V"⟩, 37) := ⟨⟨by decide +kernel, by decide +kernel⟩, List.mem_of_getElem? (i := 802) (by decide +kernel), List.mem_of_getElem? (i := 967) (by decide +kernel), List.mem_of_getElem? (i := 968) (by decide +kernel)⟩
theorem lw_p28 : lw_okq (⟨"FlagSignalsModel", "areSignals", "(I)Z"⟩, 37) := ⟨⟨by decide +kernel, by decide +kernel⟩, List.mem_of_getElem? (i := 802) (by decide +kernel), List.mem_of_getElem? (i := 982) (by decide +kernel), List.mem_of_getElem? (i := 983) (by decide +kernel)⟩
theorem lw_p29 : lw_okq (⟨"FlagSignalsModel", "fly", "(I)Z"⟩, 37) := ⟨⟨by decide +kernel, by decide +kernel⟩, List.mem_of_getElem? (i := 802) (by decide +kernel), List.mem_of_getElem? (i := 987) (by decide +kernel), List.mem_of_getElem? (i := 988) (by decide +kernel)⟩
theorem lw_p30 : lw_okq (⟨"FlagSignalsModel", "tornFlags", "()I"⟩, 37) := ⟨⟨by decide +kernel, by decide +kernel⟩, List.mem_of_getElem? (i := 802) (by decide +kernel), List.mem_of_getElem? (i := 991) (by decide +kernel), List.mem_of_getElem? (i := 992) (by decide +kernel)⟩
theorem lw_p31 : lw_okq (⟨"FlagSignalsModel", "allSubs", "()I"⟩, 37) := ⟨⟨by decide +kernel, by decide +kernel⟩, List.mem_of_getElem? (i := 802) (by decide +kernel), List.mem_of_getElem? (i := 995) (by decide +kernel), List.mem_of_getElem? (i := 996) (by decide +kernel)⟩
def lw_privs_2 : List (MethodName × Nat) := [(⟨"FlagSignals", "actByDraws", "()V"⟩, 13), (⟨"FlagSignals", "draw", "(I)I"⟩, 13), (⟨"FlagSignals", "hoistDrawn", "(I)V"⟩, 13), (⟨"FlagSignals", "sewDrawn", "()V"⟩, 13), (⟨"FlagSignalsModel", "here", "()I"⟩, 37), (⟨"FlagSignalsModel", "takeClause", "()I"⟩, 37), (⟨"FlagSignalsModel", "fails", "(II)I"⟩, 37), (⟨"FlagSignalsModel", "takeLines", "()I"⟩, 37), (⟨"FlagSignalsModel", "takeNumber", "(II)I"⟩, 37), (⟨"FlagSignalsModel", "takeFlag", "()I"⟩, 37), (⟨"FlagSignalsModel", "takeSignal", "()I"⟩, 37), (⟨"FlagSignalsModel", "beginAll", "()V"⟩, 37), (⟨"FlagSignalsModel", "areSignals", "(I)Z"⟩, 37), (⟨"FlagSignalsModel", "fly", "(I)Z"⟩, 37), (⟨"FlagSignalsModel", "tornFlags", "()I"⟩, 37), (⟨"FlagSignalsModel", "allSubs", "()I"⟩, 37)]
theorem lw_r2 : ∀ q ∈ lw_privs_2, lw_okq q := List.forall_mem_cons.mpr ⟨lw_p16, List.forall_mem_cons.mpr ⟨lw_p17, List.forall_mem_cons.mpr ⟨lw_p18, List.forall_mem_cons.mpr ⟨lw_p19, List.forall_mem_cons.mpr ⟨lw_p20, List.forall_mem_cons.mpr ⟨lw_p21, List.forall_mem_cons.mpr ⟨lw_p22, List.forall_mem_cons.mpr ⟨lw_p23, List.forall_mem_cons.mpr ⟨lw_p24, List.forall_mem_cons.mpr ⟨lw_p25, List.forall_mem_cons.mpr ⟨lw_p26, List.forall_mem_cons.mpr ⟨lw_p27, List.forall_mem_cons.mpr ⟨lw_p28, List.forall_mem_cons.mpr ⟨lw_p29, List.forall_mem_cons.mpr ⟨lw_p30, List.forall_mem_cons.mpr ⟨lw_p31, fun _ h => absurd h List.not_mem_nil⟩⟩⟩⟩⟩⟩⟩⟩⟩⟩⟩⟩⟩⟩⟩⟩
theorem lw_p32 : lw_okq (⟨"FlagSignalsModel", "goesUp", "(III)Z"⟩, 37) := ⟨⟨by decide +kernel, by decide +kernel⟩, List.mem_of_getElem? (i := 802) (by decide +kernel), List.mem_of_getElem? (i := 1005) (by decide +kernel), List.mem_of_getElem? (i := 1006) (by decide +kernel)⟩
theorem lw_p33 : lw_okq (⟨"FlagSignalsModel", "itemFor", "(IIII)I"⟩, 37) := ⟨⟨by decide +kernel, by decide +kernel⟩, List.mem_of_getElem? (i := 802) (by decide +kernel), List.mem_of_getElem? (i := 1009) (by decide +kernel), List.mem_of_getElem? (i := 1010) (by decide +kernel)⟩
theorem lw_p34 : lw_okq (⟨"FlagSignalsModel", "isUsed", "(II)Z"⟩, 37) := ⟨⟨by decide +kernel, by decide +kernel⟩, List.mem_of_getElem? (i := 802) (by decide +kernel), List.mem_of_getElem? (i := 1013) (by decide +kernel), List.mem_of_getElem? (i := 1014) (by decide +kernel)⟩
theorem lw_p35 : lw_okq (⟨"FlagSignalsModel", "rowFlags", "()I"⟩, 37) := ⟨⟨by decide +kernel, by decide +kernel⟩, List.mem_of_getElem? (i := 802) (by decide +kernel), List.mem_of_getElem? (i := 1017) (by decide +kernel), List.mem_of_getElem? (i := 1018) (by decide +kernel)⟩
theorem lw_p36 : lw_okq (⟨"FlagSignalsModel", "rowSubs", "()I"⟩, 37) := ⟨⟨by decide +kernel, by decide +kernel⟩, List.mem_of_getElem? (i := 802) (by decide +kernel), List.mem_of_getElem? (i := 1021) (by decide +kernel), List.mem_of_getElem? (i := 1022) (by decide +kernel)⟩
theorem lw_p37 : lw_okq (⟨"FlagSignalsModel", "findTurns", "(I)V"⟩, 37) := ⟨⟨by decide +kernel, by decide +kernel⟩, List.mem_of_getElem? (i := 802) (by decide +kernel), List.mem_of_getElem? (i := 1029) (by decide +kernel), List.mem_of_getElem? (i := 1030) (by decide +kernel)⟩
theorem lw_p38 : lw_okq (⟨"FlagSignalsModel", "freeFlags", "()I"⟩, 37) := ⟨⟨by decide +kernel, by decide +kernel⟩, List.mem_of_getElem? (i := 802) (by decide +kernel), List.mem_of_getElem? (i := 1038) (by decide +kernel), List.mem_of_getElem? (i := 1039) (by decide +kernel)⟩
theorem lw_p39 : lw_okq (⟨"FlagSignalsModel", "canGoUp", "()I"⟩, 37) := ⟨⟨by decide +kernel, by decide +kernel⟩, List.mem_of_getElem? (i := 802) (by decide +kernel), List.mem_of_getElem? (i := 1042) (by decide +kernel), List.mem_of_getElem? (i := 1043) (by decide +kernel)⟩
theorem lw_p40 : lw_okq (⟨"FlagSignalsModel", "freeSubs", "()I"⟩, 37) := ⟨⟨by decide +kernel, by decide +kernel⟩, List.mem_of_getElem? (i := 802) (by decide +kernel), List.mem_of_getElem? (i := 1046) (by decide +kernel), List.mem_of_getElem? (i := 1047) (by decide +kernel)⟩
theorem lw_p41 : lw_okq (⟨"FlagSignalsModel", "clearNow", "()I"⟩, 37) := ⟨⟨by decide +kernel, by decide +kernel⟩, List.mem_of_getElem? (i := 802) (by decide +kernel), List.mem_of_getElem? (i := 1050) (by decide +kernel), List.mem_of_getElem? (i := 1051) (by decide +kernel)⟩
theorem lw_p42 : lw_okq (⟨"FlagSignalsModel", "clearIn", "(II)I"⟩, 37) := ⟨⟨by decide +kernel, by decide +kernel⟩, List.mem_of_getElem? (i := 802) (by decide +kernel), List.mem_of_getElem? (i := 1054) (by decide +kernel), List.mem_of_getElem? (i := 1055) (by decide +kernel)⟩
theorem lw_p43 : lw_okq (⟨"FlagSignalsModel", "layLooks", "(II)V"⟩, 37) := ⟨⟨by decide +kernel, by decide +kernel⟩, List.mem_of_getElem? (i := 802) (by decide +kernel), List.mem_of_getElem? (i := 1058) (by decide +kernel), List.mem_of_getElem? (i := 1059) (by decide +kernel)⟩
theorem lw_p44 : lw_okq (⟨"FlagSignalsModel", "likeOf", "(I)I"⟩, 37) := ⟨⟨by decide +kernel, by decide +kernel⟩, List.mem_of_getElem? (i := 802) (by decide +kernel), List.mem_of_getElem? (i := 1068) (by decide +kernel), List.mem_of_getElem? (i := 1069) (by decide +kernel)⟩
theorem lw_p45 : lw_okq (⟨"FlagSignalsModel", "isLike", "(II)Z"⟩, 37) := ⟨⟨by decide +kernel, by decide +kernel⟩, List.mem_of_getElem? (i := 802) (by decide +kernel), List.mem_of_getElem? (i := 1072) (by decide +kernel), List.mem_of_getElem? (i := 1073) (by decide +kernel)⟩
theorem lw_p46 : lw_okq (⟨"FlagSignalsModel", "clearest", "()I"⟩, 37) := ⟨⟨by decide +kernel, by decide +kernel⟩, List.mem_of_getElem? (i := 802) (by decide +kernel), List.mem_of_getElem? (i := 1076) (by decide +kernel), List.mem_of_getElem? (i := 1077) (by decide +kernel)⟩
theorem lw_p47 : lw_okq (⟨"FlagSignalsModel", "mostTogether", "()I"⟩, 37) := ⟨⟨by decide +kernel, by decide +kernel⟩, List.mem_of_getElem? (i := 802) (by decide +kernel), List.mem_of_getElem? (i := 1080) (by decide +kernel), List.mem_of_getElem? (i := 1081) (by decide +kernel)⟩
def lw_privs_3 : List (MethodName × Nat) := [(⟨"FlagSignalsModel", "goesUp", "(III)Z"⟩, 37), (⟨"FlagSignalsModel", "itemFor", "(IIII)I"⟩, 37), (⟨"FlagSignalsModel", "isUsed", "(II)Z"⟩, 37), (⟨"FlagSignalsModel", "rowFlags", "()I"⟩, 37), (⟨"FlagSignalsModel", "rowSubs", "()I"⟩, 37), (⟨"FlagSignalsModel", "findTurns", "(I)V"⟩, 37), (⟨"FlagSignalsModel", "freeFlags", "()I"⟩, 37), (⟨"FlagSignalsModel", "canGoUp", "()I"⟩, 37), (⟨"FlagSignalsModel", "freeSubs", "()I"⟩, 37), (⟨"FlagSignalsModel", "clearNow", "()I"⟩, 37), (⟨"FlagSignalsModel", "clearIn", "(II)I"⟩, 37), (⟨"FlagSignalsModel", "layLooks", "(II)V"⟩, 37), (⟨"FlagSignalsModel", "likeOf", "(I)I"⟩, 37), (⟨"FlagSignalsModel", "isLike", "(II)Z"⟩, 37), (⟨"FlagSignalsModel", "clearest", "()I"⟩, 37), (⟨"FlagSignalsModel", "mostTogether", "()I"⟩, 37)]
theorem lw_r3 : ∀ q ∈ lw_privs_3, lw_okq q := List.forall_mem_cons.mpr ⟨lw_p32, List.forall_mem_cons.mpr ⟨lw_p33, List.forall_mem_cons.mpr ⟨lw_p34, List.forall_mem_cons.mpr ⟨lw_p35, List.forall_mem_cons.mpr ⟨lw_p36, List.forall_mem_cons.mpr ⟨lw_p37, List.forall_mem_cons.mpr ⟨lw_p38, List.forall_mem_cons.mpr ⟨lw_p39, List.forall_mem_cons.mpr ⟨lw_p40, List.forall_mem_cons.mpr ⟨lw_p41, List.forall_mem_cons.mpr ⟨lw_p42, List.forall_mem_cons.mpr ⟨lw_p43, List.forall_mem_cons.mpr ⟨lw_p44, List.forall_mem_cons.mpr ⟨lw_p45, List.forall_mem_cons.mpr ⟨lw_p46, List.forall_mem_cons.mpr ⟨lw_p47, fun _ h => absurd h List.not_mem_nil⟩⟩⟩⟩⟩⟩⟩⟩⟩⟩⟩⟩⟩⟩⟩⟩
theorem lw_p48 : lw_okq (⟨"FlagSignalsModel", "needed", "()I"⟩, 37) := ⟨⟨by decide +kernel, by decide +kernel⟩, List.mem_of_getElem? (i := 802) (by decide +kernel), List.mem_of_getElem? (i := 1084) (by decide +kernel), List.mem_of_getElem? (i := 1085) (by decide +kernel)⟩
theorem lw_p49 : lw_okq (⟨"FlagSignalsModel", "isToldIn", "(II)Z"⟩, 37) := ⟨⟨by decide +kernel, by decide +kernel⟩, List.mem_of_getElem? (i := 802) (by decide +kernel), List.mem_of_getElem? (i := 1088) (by decide +kernel), List.mem_of_getElem? (i := 1089) (by decide +kernel)⟩
theorem lw_p50 : lw_okq (⟨"FlagSignalsModel", "better", "()I"⟩, 37) := ⟨⟨by decide +kernel, by decide +kernel⟩, List.mem_of_getElem? (i := 802) (by decide +kernel), List.mem_of_getElem? (i := 1092) (by decide +kernel), List.mem_of_getElem? (i := 1093) (by decide +kernel)⟩
theorem lw_p51 : lw_okq (⟨"FlagSignalsModel", "weathers", "()I"⟩, 37) := ⟨⟨by decide +kernel, by decide +kernel⟩, List.mem_of_getElem? (i := 802) (by decide +kernel), List.mem_of_getElem? (i := 1096) (by decide +kernel), List.mem_of_getElem? (i := 1097) (by decide +kernel)⟩
theorem lw_p52 : lw_okq (⟨"FlagSignalsModel", "askNext", "()I"⟩, 37) := ⟨⟨by decide +kernel, by decide +kernel⟩, List.mem_of_getElem? (i := 802) (by decide +kernel), List.mem_of_getElem? (i := 1100) (by decide +kernel), List.mem_of_getElem? (i := 1101) (by decide +kernel)⟩
theorem lw_p53 : lw_okq (⟨"FlagSignalsModel", "layLikes", "()V"⟩, 37) := ⟨⟨by decide +kernel, by decide +kernel⟩, List.mem_of_getElem? (i := 802) (by decide +kernel), List.mem_of_getElem? (i := 1104) (by decide +kernel), List.mem_of_getElem? (i := 1105) (by decide +kernel)⟩
theorem lw_p54 : lw_okq (⟨"FlagSignalsModel", "greatestPart", "(II)I"⟩, 37) := ⟨⟨by decide +kernel, by decide +kernel⟩, List.mem_of_getElem? (i := 802) (by decide +kernel), List.mem_of_getElem? (i := 1108) (by decide +kernel), List.mem_of_getElem? (i := 1109) (by decide +kernel)⟩
theorem lw_p55 : lw_okq (⟨"FlagSignalsModel", "isFlag", "(I)Z"⟩, 37) := ⟨⟨by decide +kernel, by decide +kernel⟩, List.mem_of_getElem? (i := 802) (by decide +kernel), List.mem_of_getElem? (i := 1116) (by decide +kernel), List.mem_of_getElem? (i := 1117) (by decide +kernel)⟩
theorem lw_p56 : lw_okq (⟨"FlagSignalsModel", "isSignal", "(I)Z"⟩, 37) := ⟨⟨by decide +kernel, by decide +kernel⟩, List.mem_of_getElem? (i := 802) (by decide +kernel), List.mem_of_getElem? (i := 1124) (by decide +kernel), List.mem_of_getElem? (i := 1125) (by decide +kernel)⟩
theorem lw_p57 : lw_okq (⟨"FlagSignalsModel", "likeNow", "(I)I"⟩, 37) := ⟨⟨by decide +kernel, by decide +kernel⟩, List.mem_of_getElem? (i := 802) (by decide +kernel), List.mem_of_getElem? (i := 1130) (by decide +kernel), List.mem_of_getElem? (i := 1131) (by decide +kernel)⟩
theorem lw_p58 : lw_okq (⟨"FlagSignalsModel", "lineOf", "(I)I"⟩, 37) := ⟨⟨by decide +kernel, by decide +kernel⟩, List.mem_of_getElem? (i := 802) (by decide +kernel), List.mem_of_getElem? (i := 1134) (by decide +kernel), List.mem_of_getElem? (i := 1135) (by decide +kernel)⟩
theorem lw_p59 : lw_okq (⟨"FlagSignalsModel", "isLine", "(I)Z"⟩, 37) := ⟨⟨by decide +kernel, by decide +kernel⟩, List.mem_of_getElem? (i := 802) (by decide +kernel), List.mem_of_getElem? (i := 1142) (by decide +kernel), List.mem_of_getElem? (i := 1143) (by decide +kernel)⟩
theorem lw_p60 : lw_okq (⟨"FlagSignalsModel", "canHoist", "(II)Z"⟩, 37) := ⟨⟨by decide +kernel, by decide +kernel⟩, List.mem_of_getElem? (i := 802) (by decide +kernel), List.mem_of_getElem? (i := 1154) (by decide +kernel), List.mem_of_getElem? (i := 1155) (by decide +kernel)⟩
theorem lw_p61 : lw_okq (⟨"FlagSignalsModel", "remember", "()V"⟩, 37) := ⟨⟨by decide +kernel, by decide +kernel⟩, List.mem_of_getElem? (i := 802) (by decide +kernel), List.mem_of_getElem? (i := 1159) (by decide +kernel), List.mem_of_getElem? (i := 1160) (by decide +kernel)⟩
theorem lw_p62 : lw_okq (⟨"FlagSignalsModel", "hoistRow", "(II)I"⟩, 37) := ⟨⟨by decide +kernel, by decide +kernel⟩, List.mem_of_getElem? (i := 802) (by decide +kernel), List.mem_of_getElem? (i := 1163) (by decide +kernel), List.mem_of_getElem? (i := 1164) (by decide +kernel)⟩
theorem lw_p63 : lw_okq (⟨"FlagSignalsModel", "haulNow", "(I)I"⟩, 37) := ⟨⟨by decide +kernel, by decide +kernel⟩, List.mem_of_getElem? (i := 802) (by decide +kernel), List.mem_of_getElem? (i := 1171) (by decide +kernel), List.mem_of_getElem? (i := 1172) (by decide +kernel)⟩
def lw_privs_4 : List (MethodName × Nat) := [(⟨"FlagSignalsModel", "needed", "()I"⟩, 37), (⟨"FlagSignalsModel", "isToldIn", "(II)Z"⟩, 37), (⟨"FlagSignalsModel", "better", "()I"⟩, 37), (⟨"FlagSignalsModel", "weathers", "()I"⟩, 37), (⟨"FlagSignalsModel", "askNext", "()I"⟩, 37), (⟨"FlagSignalsModel", "layLikes", "()V"⟩, 37), (⟨"FlagSignalsModel", "greatestPart", "(II)I"⟩, 37), (⟨"FlagSignalsModel", "isFlag", "(I)Z"⟩, 37), (⟨"FlagSignalsModel", "isSignal", "(I)Z"⟩, 37), (⟨"FlagSignalsModel", "likeNow", "(I)I"⟩, 37), (⟨"FlagSignalsModel", "lineOf", "(I)I"⟩, 37), (⟨"FlagSignalsModel", "isLine", "(I)Z"⟩, 37), (⟨"FlagSignalsModel", "canHoist", "(II)Z"⟩, 37), (⟨"FlagSignalsModel", "remember", "()V"⟩, 37), (⟨"FlagSignalsModel", "hoistRow", "(II)I"⟩, 37), (⟨"FlagSignalsModel", "haulNow", "(I)I"⟩, 37)]
theorem lw_r4 : ∀ q ∈ lw_privs_4, lw_okq q := List.forall_mem_cons.mpr ⟨lw_p48, List.forall_mem_cons.mpr ⟨lw_p49, List.forall_mem_cons.mpr ⟨lw_p50, List.forall_mem_cons.mpr ⟨lw_p51, List.forall_mem_cons.mpr ⟨lw_p52, List.forall_mem_cons.mpr ⟨lw_p53, List.forall_mem_cons.mpr ⟨lw_p54, List.forall_mem_cons.mpr ⟨lw_p55, List.forall_mem_cons.mpr ⟨lw_p56, List.forall_mem_cons.mpr ⟨lw_p57, List.forall_mem_cons.mpr ⟨lw_p58, List.forall_mem_cons.mpr ⟨lw_p59, List.forall_mem_cons.mpr ⟨lw_p60, List.forall_mem_cons.mpr ⟨lw_p61, List.forall_mem_cons.mpr ⟨lw_p62, List.forall_mem_cons.mpr ⟨lw_p63, fun _ h => absurd h List.not_mem_nil⟩⟩⟩⟩⟩⟩⟩⟩⟩⟩⟩⟩⟩⟩⟩⟩
theorem lw_p64 : lw_okq (⟨"FlagSignalsModel", "daysRefused", "(I)I"⟩, 37) := ⟨⟨by decide +kernel, by decide +kernel⟩, List.mem_of_getElem? (i := 802) (by decide +kernel), List.mem_of_getElem? (i := 1179) (by decide +kernel), List.mem_of_getElem? (i := 1180) (by decide +kernel)⟩
theorem lw_p65 : lw_okq (⟨"FlagSignalsModel", "pass", "()V"⟩, 37) := ⟨⟨by decide +kernel, by decide +kernel⟩, List.mem_of_getElem? (i := 802) (by decide +kernel), List.mem_of_getElem? (i := 1184) (by decide +kernel), List.mem_of_getElem? (i := 1185) (by decide +kernel)⟩
theorem lw_p66 : lw_okq (⟨"FlagSignalsModel", "canSew", "(I)Z"⟩, 37) := ⟨⟨by decide +kernel, by decide +kernel⟩, List.mem_of_getElem? (i := 802) (by decide +kernel), List.mem_of_getElem? (i := 1192) (by decide +kernel), List.mem_of_getElem? (i := 1193) (by decide +kernel)⟩
theorem lw_p67 : lw_okq (⟨"FlagSignalsModel", "sewNow", "(I)V"⟩, 37) := ⟨⟨by decide +kernel, by decide +kernel⟩, List.mem_of_getElem? (i := 802) (by decide +kernel), List.mem_of_getElem? (i := 1196) (by decide +kernel), List.mem_of_getElem? (i := 1197) (by decide +kernel)⟩
theorem lw_p68 : lw_okq (⟨"FlagSignalsModel", "chance", "()V"⟩, 37) := ⟨⟨by decide +kernel, by decide +kernel⟩, List.mem_of_getElem? (i := 802) (by decide +kernel), List.mem_of_getElem? (i := 1214) (by decide +kernel), List.mem_of_getElem? (i := 1215) (by decide +kernel)⟩
theorem lw_p69 : lw_okq (⟨"FlagSignalsModel", "draw", "(I)I"⟩, 37) := ⟨⟨by decide +kernel, by decide +kernel⟩, List.mem_of_getElem? (i := 802) (by decide +kernel), List.mem_of_getElem? (i := 1218) (by decide +kernel), List.mem_of_getElem? (i := 1219) (by decide +kernel)⟩
theorem lw_p70 : lw_okq (⟨"FlagSignalsModel", "chanceHoist", "(I)V"⟩, 37) := ⟨⟨by decide +kernel, by decide +kernel⟩, List.mem_of_getElem? (i := 802) (by decide +kernel), List.mem_of_getElem? (i := 1226) (by decide +kernel), List.mem_of_getElem? (i := 1227) (by decide +kernel)⟩
theorem lw_p71 : lw_okq (⟨"FlagSignalsModel", "chanceSew", "()V"⟩, 37) := ⟨⟨by decide +kernel, by decide +kernel⟩, List.mem_of_getElem? (i := 802) (by decide +kernel), List.mem_of_getElem? (i := 1230) (by decide +kernel), List.mem_of_getElem? (i := 1231) (by decide +kernel)⟩
def lw_privs_5 : List (MethodName × Nat) := [(⟨"FlagSignalsModel", "daysRefused", "(I)I"⟩, 37), (⟨"FlagSignalsModel", "pass", "()V"⟩, 37), (⟨"FlagSignalsModel", "canSew", "(I)Z"⟩, 37), (⟨"FlagSignalsModel", "sewNow", "(I)V"⟩, 37), (⟨"FlagSignalsModel", "chance", "()V"⟩, 37), (⟨"FlagSignalsModel", "draw", "(I)I"⟩, 37), (⟨"FlagSignalsModel", "chanceHoist", "(I)V"⟩, 37), (⟨"FlagSignalsModel", "chanceSew", "()V"⟩, 37)]
theorem lw_r5 : ∀ q ∈ lw_privs_5, lw_okq q := List.forall_mem_cons.mpr ⟨lw_p64, List.forall_mem_cons.mpr ⟨lw_p65, List.forall_mem_cons.mpr ⟨lw_p66, List.forall_mem_cons.mpr ⟨lw_p67, List.forall_mem_cons.mpr ⟨lw_p68, List.forall_mem_cons.mpr ⟨lw_p69, List.forall_mem_cons.mpr ⟨lw_p70, List.forall_mem_cons.mpr ⟨lw_p71, fun _ h => absurd h List.not_mem_nil⟩⟩⟩⟩⟩⟩⟩⟩
def lw_privs : List (MethodName × Nat) := lw_privs_1 ++ (lw_privs_2 ++ (lw_privs_3 ++ (lw_privs_4 ++ (lw_privs_5))))
def lw_tbl : List Cond := k2_sels lw_privs ++ tables_1
theorem lw_privs_ok : ∀ q ∈ lw_privs, lw_okq q := by
  show ∀ q ∈ lw_privs_1 ++ (lw_privs_2 ++ (lw_privs_3 ++ (lw_privs_4 ++ (lw_privs_5)))), lw_okq q
  exact List.forall_mem_append.mpr ⟨lw_r1, List.forall_mem_append.mpr ⟨lw_r2, List.forall_mem_append.mpr ⟨lw_r3, List.forall_mem_append.mpr ⟨lw_r4, lw_r5⟩⟩⟩⟩
-- names (printed)
def RX0 : String := "FlagSignals$Deck"
def TX0 : u_T := fun k => match k with
  | 0 => ("FlagSignals$Deck", "kinds", "[I", true)
  | 1 => ("FlagSignals$Deck", "fores", "[I", true)
  | 2 => ("FlagSignals$Deck", "backs", "[I", true)
  | 3 => ("FlagSignals$Deck", "wear", "[I", true)
  | 4 => ("FlagSignals$Deck", "where", "[I", true)
  | 5 => ("FlagSignals$Deck", "flown", "[I", true)
  | 6 => ("FlagSignals$Deck", "places", "[I", true)
  | 7 => ("FlagSignals$Deck", "torn", "I", false)
  | 8 => ("FlagSignals$Deck", "substitutesUp", "I", false)
  | 9 => ("FlagSignals$Deck", "days", "I", false)
  | 10 => ("FlagSignals$Deck", "haze", "I", false)
  | _ => ("FlagSignals$Deck", "wind", "I", false)
def tyX0 : Nat → FieldType := fun k => match k with
  | 0 => .array .int
  | 1 => .array .int
  | 2 => .array .int
  | 3 => .array .int
  | 4 => .array .int
  | 5 => .array .int
  | 6 => .array .int
  | 7 => .int
  | 8 => .int
  | 9 => .int
  | 10 => .int
  | _ => .int
abbrev wsX00 : List Cond := u_ws RX0 TX0 12
theorem nmX0 : ∀ a, a < 12 → ∀ b, b < 12 → a ≠ b → (TX0 a).2.1 ≠ (TX0 b).2.1 := by decide +kernel
theorem tyX0_ok : ∀ k, k < 12 → parseFieldDescriptor (TX0 k).2.2.1 = some (tyX0 k) := by decide +kernel
abbrev cX0_init : ByteArray := prog_2_method_1_code
def yX0_init : MethodName := ⟨RX0, "<init>", "()V"⟩
abbrev cX0_rig : ByteArray := prog_2_method_2_code
def yX0_rig : MethodName := ⟨RX0, "rig", "(LFlagSignals$Ship;)V"⟩
abbrev cX0_become : ByteArray := prog_2_method_3_code
def yX0_become : MethodName := ⟨RX0, "become", "(LFlagSignals$Deck;)V"⟩
abbrev cX0_weatherNumber : ByteArray := prog_2_method_4_code
def yX0_weatherNumber : MethodName := ⟨RX0, "weatherNumber", "()I"⟩
abbrev cX0_freeFlags : ByteArray := prog_2_method_5_code
def yX0_freeFlags : MethodName := ⟨RX0, "freeFlags", "(LFlagSignals$Ship;)I"⟩
abbrev cX0_freeSubstitutes : ByteArray := prog_2_method_6_code
def yX0_freeSubstitutes : MethodName := ⟨RX0, "freeSubstitutes", "(LFlagSignals$Ship;)I"⟩
abbrev cX0_lookIn : ByteArray := prog_2_method_7_code
def yX0_lookIn : MethodName := ⟨RX0, "lookIn", "(III)I"⟩
abbrev cX0_lineOf : ByteArray := prog_2_method_8_code
def yX0_lineOf : MethodName := ⟨RX0, "lineOf", "(I)I"⟩
abbrev cX0_canBeSewn : ByteArray := prog_2_method_9_code
def yX0_canBeSewn : MethodName := ⟨RX0, "canBeSewn", "(I)Z"⟩
abbrev cX0_mend : ByteArray := prog_2_method_10_code
def yX0_mend : MethodName := ⟨RX0, "mend", "(I)V"⟩
abbrev cX0_raise : ByteArray := prog_2_method_11_code
def yX0_raise : MethodName := ⟨RX0, "raise", "(II[I)I"⟩
abbrev cX0_lower : ByteArray := prog_2_method_12_code
def yX0_lower : MethodName := ⟨RX0, "lower", "(I)I"⟩
abbrev cX0_emptyLine : ByteArray := prog_2_method_13_code
def yX0_emptyLine : MethodName := ⟨RX0, "emptyLine", "(I)V"⟩
abbrev cX0_passDay : ByteArray := prog_2_method_14_code
def yX0_passDay : MethodName := ⟨RX0, "passDay", "(LFlagSignals$Ship;)V"⟩
def RX1 : String := "FlagSignals$Image"
def TX1 : u_T := fun k => match k with
  | 0 => ("FlagSignals$Image", "deck", "LFlagSignals$Deck;", true)
  | 1 => ("FlagSignals$Image", "seedThen", "I", false)
  | _ => ("FlagSignals$Image", "kept", "Z", false)
def tyX1 : Nat → FieldType := fun k => match k with
  | 0 => .object "FlagSignals$Deck"
  | 1 => .int
  | _ => .boolean
abbrev wsX10 : List Cond := u_ws RX1 TX1 3
theorem nmX1 : ∀ a, a < 3 → ∀ b, b < 3 → a ≠ b → (TX1 a).2.1 ≠ (TX1 b).2.1 := by decide +kernel
theorem tyX1_ok : ∀ k, k < 3 → parseFieldDescriptor (TX1 k).2.2.1 = some (tyX1 k) := by decide +kernel
abbrev cX1_init : ByteArray := prog_3_method_1_code
def yX1_init : MethodName := ⟨RX1, "<init>", "()V"⟩
def RX2 : String := "FlagSignals$Locker"
def TX2 : u_T := fun k => match k with
  | 0 => ("FlagSignals$Locker", "flags", "I", false)
  | 1 => ("FlagSignals$Locker", "substitutes", "I", false)
  | _ => ("FlagSignals$Locker", "row", "[I", true)
def tyX2 : Nat → FieldType := fun k => match k with
  | 0 => .int
  | 1 => .int
  | _ => .array .int
abbrev wsX20 : List Cond := u_ws RX2 TX2 3
theorem nmX2 : ∀ a, a < 3 → ∀ b, b < 3 → a ≠ b → (TX2 a).2.1 ≠ (TX2 b).2.1 := by decide +kernel
theorem tyX2_ok : ∀ k, k < 3 → parseFieldDescriptor (TX2 k).2.2.1 = some (tyX2 k) := by decide +kernel
abbrev cX2_init : ByteArray := prog_4_method_1_code
def yX2_init : MethodName := ⟨RX2, "<init>", "()V"⟩
abbrev cX2_open : ByteArray := prog_4_method_2_code
def yX2_open : MethodName := ⟨RX2, "open", "(II)V"⟩
abbrev cX2_take : ByteArray := prog_4_method_3_code
def yX2_take : MethodName := ⟨RX2, "take", "(LFlagSignals$Ship;I)Z"⟩
abbrev cX2_pieceFor : ByteArray := prog_4_method_4_code
def yX2_pieceFor : MethodName := ⟨RX2, "pieceFor", "(LFlagSignals$Ship;II)I"⟩
abbrev cX2_emptyRow : ByteArray := prog_4_method_5_code
def yX2_emptyRow : MethodName := ⟨RX2, "emptyRow", "()V"⟩
def RX3 : String := "FlagSignals$Log"
def TX3 : u_T := fun k => match k with
  | 0 => ("FlagSignals$Log", "sent", "[I", true)
  | 1 => ("FlagSignals$Log", "seen", "[I", true)
  | 2 => ("FlagSignals$Log", "entryLines", "[I", true)
  | 3 => ("FlagSignals$Log", "entrySignals", "[I", true)
  | 4 => ("FlagSignals$Log", "reads", "I", false)
  | _ => ("FlagSignals$Log", "entries", "I", false)
def tyX3 : Nat → FieldType := fun k => match k with
  | 0 => .array .int
  | 1 => .array .int
  | 2 => .array .int
  | 3 => .array .int
  | 4 => .int
  | _ => .int
abbrev wsX30 : List Cond := u_ws RX3 TX3 6
theorem nmX3 : ∀ a, a < 6 → ∀ b, b < 6 → a ≠ b → (TX3 a).2.1 ≠ (TX3 b).2.1 := by decide +kernel
theorem tyX3_ok : ∀ k, k < 6 → parseFieldDescriptor (TX3 k).2.2.1 = some (tyX3 k) := by decide +kernel
abbrev cX3_init : ByteArray := prog_5_method_1_code
def yX3_init : MethodName := ⟨RX3, "<init>", "()V"⟩
abbrev cX3_addRead : ByteArray := prog_5_method_2_code
def yX3_addRead : MethodName := ⟨RX3, "addRead", "(II)Z"⟩
abbrev cX3_addEntry : ByteArray := prog_5_method_3_code
def yX3_addEntry : MethodName := ⟨RX3, "addEntry", "(II)Z"⟩
abbrev cX3_wipe : ByteArray := prog_5_method_4_code
def yX3_wipe : MethodName := ⟨RX3, "wipe", "()V"⟩
abbrev cX3_fits : ByteArray := prog_5_method_5_code
def yX3_fits : MethodName := ⟨RX3, "fits", "(LFlagSignals$Ship;LFlagSignals$Watch;)Z"⟩
abbrev cX3_firstFalse : ByteArray := prog_5_method_6_code
def yX3_firstFalse : MethodName := ⟨RX3, "firstFalse", "(LFlagSignals$Deck;)I"⟩
def RX4 : String := "FlagSignals$Past"
def TX4 : u_T := fun k => match k with
  | 0 => ("FlagSignals$Past", "decks", "[LFlagSignals$Deck;", true)
  | 1 => ("FlagSignals$Past", "first", "I", false)
  | _ => ("FlagSignals$Past", "count", "I", false)
def tyX4 : Nat → FieldType := fun k => match k with
  | 0 => .array (.object "FlagSignals$Deck")
  | 1 => .int
  | _ => .int
abbrev wsX40 : List Cond := u_ws RX4 TX4 3
theorem nmX4 : ∀ a, a < 3 → ∀ b, b < 3 → a ≠ b → (TX4 a).2.1 ≠ (TX4 b).2.1 := by decide +kernel
theorem tyX4_ok : ∀ k, k < 3 → parseFieldDescriptor (TX4 k).2.2.1 = some (tyX4 k) := by decide +kernel
abbrev cX4_init : ByteArray := prog_6_method_1_code
def yX4_init : MethodName := ⟨RX4, "<init>", "()V"⟩
abbrev cX4_remember : ByteArray := prog_6_method_2_code
def yX4_remember : MethodName := ⟨RX4, "remember", "(LFlagSignals$Deck;)V"⟩
abbrev cX4_giveBack : ByteArray := prog_6_method_3_code
def yX4_giveBack : MethodName := ⟨RX4, "giveBack", "(LFlagSignals$Deck;)V"⟩
abbrev cX4_forget : ByteArray := prog_6_method_4_code
def yX4_forget : MethodName := ⟨RX4, "forget", "()V"⟩
def RX5 : String := "FlagSignals$Rota"
def TX5 : u_T := fun k => match k with
  | 0 => ("FlagSignals$Rota", "flies", "[Z", true)
  | _ => ("FlagSignals$Rota", "fewest", "[I", true)
def tyX5 : Nat → FieldType := fun k => match k with
  | 0 => .array .boolean
  | _ => .array .int
abbrev wsX50 : List Cond := u_ws RX5 TX5 2
theorem nmX5 : ∀ a, a < 2 → ∀ b, b < 2 → a ≠ b → (TX5 a).2.1 ≠ (TX5 b).2.1 := by decide +kernel
theorem tyX5_ok : ∀ k, k < 2 → parseFieldDescriptor (TX5 k).2.2.1 = some (tyX5 k) := by decide +kernel
abbrev cX5_init : ByteArray := prog_7_method_1_code
def yX5_init : MethodName := ⟨RX5, "<init>", "()V"⟩
abbrev cX5_largestGroup : ByteArray := prog_7_method_2_code
def yX5_largestGroup : MethodName := ⟨RX5, "largestGroup", "()I"⟩
abbrev cX5_plan : ByteArray := prog_7_method_3_code
def yX5_plan : MethodName := ⟨RX5, "plan", "(I)V"⟩
abbrev cX5_fewestOf : ByteArray := prog_7_method_4_code
def yX5_fewestOf : MethodName := ⟨RX5, "fewestOf", "(I)I"⟩
abbrev cX5_firstGroup : ByteArray := prog_7_method_5_code
def yX5_firstGroup : MethodName := ⟨RX5, "firstGroup", "(I)I"⟩
def RX6 : String := "FlagSignals$Ship"
def TX6 : u_T := fun k => match k with
  | 0 => ("FlagSignals$Ship", "lines", "I", false)
  | 1 => ("FlagSignals$Ship", "substitutes", "I", false)
  | 2 => ("FlagSignals$Ship", "flags", "I", false)
  | 3 => ("FlagSignals$Ship", "signals", "I", false)
  | 4 => ("FlagSignals$Ship", "kinds", "[I", true)
  | 5 => ("FlagSignals$Ship", "fores", "[I", true)
  | 6 => ("FlagSignals$Ship", "backs", "[I", true)
  | 7 => ("FlagSignals$Ship", "lengths", "[I", true)
  | _ => ("FlagSignals$Ship", "rows", "[I", true)
def tyX6 : Nat → FieldType := fun k => match k with
  | 0 => .int
  | 1 => .int
  | 2 => .int
  | 3 => .int
  | 4 => .array .int
  | 5 => .array .int
  | 6 => .array .int
  | 7 => .array .int
  | _ => .array .int
abbrev wsX60 : List Cond := u_ws RX6 TX6 9
theorem nmX6 : ∀ a, a < 9 → ∀ b, b < 9 → a ≠ b → (TX6 a).2.1 ≠ (TX6 b).2.1 := by decide +kernel
theorem tyX6_ok : ∀ k, k < 9 → parseFieldDescriptor (TX6 k).2.2.1 = some (tyX6 k) := by decide +kernel
abbrev cX6_init : ByteArray := prog_8_method_1_code
def yX6_init : MethodName := ⟨RX6, "<init>", "()V"⟩
abbrev cX6_strike : ByteArray := prog_8_method_2_code
def yX6_strike : MethodName := ⟨RX6, "strike", "()V"⟩
abbrev cX6_stands : ByteArray := prog_8_method_3_code
def yX6_stands : MethodName := ⟨RX6, "stands", "()Z"⟩
abbrev cX6_hasLine : ByteArray := prog_8_method_4_code
def yX6_hasLine : MethodName := ⟨RX6, "hasLine", "(I)Z"⟩
abbrev cX6_hasFlag : ByteArray := prog_8_method_5_code
def yX6_hasFlag : MethodName := ⟨RX6, "hasFlag", "(I)Z"⟩
abbrev cX6_hasSignal : ByteArray := prog_8_method_6_code
def yX6_hasSignal : MethodName := ⟨RX6, "hasSignal", "(I)Z"⟩
abbrev cX6_hasAll : ByteArray := prog_8_method_7_code
def yX6_hasAll : MethodName := ⟨RX6, "hasAll", "(I)Z"⟩
abbrev cX6_allSignals : ByteArray := prog_8_method_8_code
def yX6_allSignals : MethodName := ⟨RX6, "allSignals", "()I"⟩
abbrev cX6_allFlags : ByteArray := prog_8_method_9_code
def yX6_allFlags : MethodName := ⟨RX6, "allFlags", "()I"⟩
abbrev cX6_allSubstitutes : ByteArray := prog_8_method_10_code
def yX6_allSubstitutes : MethodName := ⟨RX6, "allSubstitutes", "()I"⟩
abbrev cX6_addFlag : ByteArray := prog_8_method_11_code
def yX6_addFlag : MethodName := ⟨RX6, "addFlag", "(III)V"⟩
abbrev cX6_startSignal : ByteArray := prog_8_method_12_code
def yX6_startSignal : MethodName := ⟨RX6, "startSignal", "()V"⟩
abbrev cX6_addToSignal : ByteArray := prog_8_method_13_code
def yX6_addToSignal : MethodName := ⟨RX6, "addToSignal", "(I)V"⟩
abbrev cX6_endSignal : ByteArray := prog_8_method_14_code
def yX6_endSignal : MethodName := ⟨RX6, "endSignal", "()V"⟩
abbrev cX6_flagAt : ByteArray := prog_8_method_15_code
def yX6_flagAt : MethodName := ⟨RX6, "flagAt", "(II)I"⟩
abbrev cX6_signalsWith : ByteArray := prog_8_method_16_code
def yX6_signalsWith : MethodName := ⟨RX6, "signalsWith", "(I)I"⟩
def RX7 : String := "FlagSignals$Text"
def TX7 : u_T := fun k => match k with
  | 0 => ("FlagSignals$Text", "letters", "[I", true)
  | 1 => ("FlagSignals$Text", "count", "I", false)
  | 2 => ("FlagSignals$Text", "at", "I", false)
  | 3 => ("FlagSignals$Text", "wrong", "I", false)
  | _ => ("FlagSignals$Text", "wrongAt", "I", false)
def tyX7 : Nat → FieldType := fun k => match k with
  | 0 => .array .int
  | 1 => .int
  | 2 => .int
  | 3 => .int
  | _ => .int
abbrev wsX70 : List Cond := u_ws RX7 TX7 5
theorem nmX7 : ∀ a, a < 5 → ∀ b, b < 5 → a ≠ b → (TX7 a).2.1 ≠ (TX7 b).2.1 := by decide +kernel
theorem tyX7_ok : ∀ k, k < 5 → parseFieldDescriptor (TX7 k).2.2.1 = some (tyX7 k) := by decide +kernel
abbrev cX7_init : ByteArray := prog_9_method_1_code
def yX7_init : MethodName := ⟨RX7, "<init>", "()V"⟩
abbrev cX7_append : ByteArray := prog_9_method_2_code
def yX7_append : MethodName := ⟨RX7, "append", "(I)Z"⟩
abbrev cX7_parseInto : ByteArray := prog_9_method_3_code
def yX7_parseInto : MethodName := ⟨RX7, "parseInto", "(LFlagSignals$Ship;)I"⟩
abbrev cX7_nextLetter : ByteArray := prog_9_method_4_code
def yX7_nextLetter : MethodName := ⟨RX7, "nextLetter", "()I"⟩
abbrev cX7_blame : ByteArray := prog_9_method_5_code
def yX7_blame : MethodName := ⟨RX7, "blame", "(II)V"⟩
abbrev cX7_parseLines : ByteArray := prog_9_method_6_code
def yX7_parseLines : MethodName := ⟨RX7, "parseLines", "(LFlagSignals$Ship;)V"⟩
abbrev cX7_parseClause : ByteArray := prog_9_method_7_code
def yX7_parseClause : MethodName := ⟨RX7, "parseClause", "(LFlagSignals$Ship;)V"⟩
abbrev cX7_parseFlag : ByteArray := prog_9_method_8_code
def yX7_parseFlag : MethodName := ⟨RX7, "parseFlag", "(LFlagSignals$Ship;)V"⟩
abbrev cX7_parseSignal : ByteArray := prog_9_method_9_code
def yX7_parseSignal : MethodName := ⟨RX7, "parseSignal", "(LFlagSignals$Ship;)V"⟩
abbrev cX7_pass : ByteArray := prog_9_method_10_code
def yX7_pass : MethodName := ⟨RX7, "pass", "(I)V"⟩
abbrev cX7_parseNumber : ByteArray := prog_9_method_11_code
def yX7_parseNumber : MethodName := ⟨RX7, "parseNumber", "(II)I"⟩
def RX8 : String := "FlagSignals$Watch"
def TX8 : u_T := fun k => match k with
  | 0 => ("FlagSignals$Watch", "rows", "[I", true)
  | 1 => ("FlagSignals$Watch", "looks", "[I", true)
  | 2 => ("FlagSignals$Watch", "signs", "[I", true)
  | _ => ("FlagSignals$Watch", "up", "I", false)
def tyX8 : Nat → FieldType := fun k => match k with
  | 0 => .array .int
  | 1 => .array .int
  | 2 => .array .int
  | _ => .int
abbrev wsX80 : List Cond := u_ws RX8 TX8 4
theorem nmX8 : ∀ a, a < 4 → ∀ b, b < 4 → a ≠ b → (TX8 a).2.1 ≠ (TX8 b).2.1 := by decide +kernel
theorem tyX8_ok : ∀ k, k < 4 → parseFieldDescriptor (TX8 k).2.2.1 = some (tyX8 k) := by decide +kernel
abbrev cX8_init : ByteArray := prog_10_method_1_code
def yX8_init : MethodName := ⟨RX8, "<init>", "()V"⟩
abbrev cX8_raiseAll : ByteArray := prog_10_method_2_code
def yX8_raiseAll : MethodName := ⟨RX8, "raiseAll", "(LFlagSignals$Ship;LFlagSignals$Locker;I)V"⟩
abbrev cX8_see : ByteArray := prog_10_method_3_code
def yX8_see : MethodName := ⟨RX8, "see", "(LFlagSignals$Ship;LFlagSignals$Deck;I)V"⟩
abbrev cX8_sign : ByteArray := prog_10_method_4_code
def yX8_sign : MethodName := ⟨RX8, "sign", "(LFlagSignals$Ship;I)V"⟩
abbrev cX8_lookOfPiece : ByteArray := prog_10_method_5_code
def yX8_lookOfPiece : MethodName := ⟨RX8, "lookOfPiece", "(I)I"⟩
abbrev cX8_likeOf : ByteArray := prog_10_method_6_code
def yX8_likeOf : MethodName := ⟨RX8, "likeOf", "(LFlagSignals$Ship;I)I"⟩
abbrev cX8_clearOnes : ByteArray := prog_10_method_7_code
def yX8_clearOnes : MethodName := ⟨RX8, "clearOnes", "(LFlagSignals$Ship;)I"⟩
def RX9 : String := "FlagSignals"
def TX9 : u_T := fun k => match k with
  | 0 => ("FlagSignals", "text", "LFlagSignals$Text;", true)
  | 1 => ("FlagSignals", "ship", "LFlagSignals$Ship;", false)
  | 2 => ("FlagSignals", "draft", "LFlagSignals$Ship;", false)
  | 3 => ("FlagSignals", "now", "LFlagSignals$Deck;", true)
  | 4 => ("FlagSignals", "past", "LFlagSignals$Past;", true)
  | 5 => ("FlagSignals", "images", "[LFlagSignals$Image;", true)
  | 6 => ("FlagSignals", "log", "LFlagSignals$Log;", true)
  | 7 => ("FlagSignals", "locker", "LFlagSignals$Locker;", true)
  | 8 => ("FlagSignals", "watch", "LFlagSignals$Watch;", true)
  | 9 => ("FlagSignals", "rota", "LFlagSignals$Rota;", true)
  | 10 => ("FlagSignals", "likes", "[I", true)
  | 11 => ("FlagSignals", "faultAt", "I", false)
  | _ => ("FlagSignals", "seedNow", "I", false)
def tyX9 : Nat → FieldType := fun k => match k with
  | 0 => .object "FlagSignals$Text"
  | 1 => .object "FlagSignals$Ship"
  | 2 => .object "FlagSignals$Ship"
  | 3 => .object "FlagSignals$Deck"
  | 4 => .object "FlagSignals$Past"
  | 5 => .array (.object "FlagSignals$Image")
  | 6 => .object "FlagSignals$Log"
  | 7 => .object "FlagSignals$Locker"
  | 8 => .object "FlagSignals$Watch"
  | 9 => .object "FlagSignals$Rota"
  | 10 => .array .int
  | 11 => .int
  | _ => .int
abbrev wsX90 : List Cond := u_ws RX9 TX9 13
theorem nmX9 : ∀ a, a < 13 → ∀ b, b < 13 → a ≠ b → (TX9 a).2.1 ≠ (TX9 b).2.1 := by decide +kernel
theorem tyX9_ok : ∀ k, k < 13 → parseFieldDescriptor (TX9 k).2.2.1 = some (tyX9 k) := by decide +kernel
abbrev cX9_init : ByteArray := prog_1_method_1_code
def yX9_init : MethodName := ⟨RX9, "<init>", "()V"⟩
abbrev cX9_feed : ByteArray := prog_1_method_2_code
def yX9_feed : MethodName := ⟨RX9, "feed", "(I)I"⟩
abbrev cX9_ship : ByteArray := prog_1_method_3_code
def yX9_ship : MethodName := ⟨RX9, "ship", "()I"⟩
abbrev cX9_fault : ByteArray := prog_1_method_4_code
def yX9_fault : MethodName := ⟨RX9, "fault", "()I"⟩
abbrev cX9_told : ByteArray := prog_1_method_5_code
def yX9_told : MethodName := ⟨RX9, "told", "(I)I"⟩
abbrev cX9_flag : ByteArray := prog_1_method_6_code
def yX9_flag : MethodName := ⟨RX9, "flag", "(II)I"⟩
abbrev cX9_signal : ByteArray := prog_1_method_7_code
def yX9_signal : MethodName := ⟨RX9, "signal", "(II)I"⟩
abbrev cX9_line : ByteArray := prog_1_method_8_code
def yX9_line : MethodName := ⟨RX9, "line", "(II)I"⟩
abbrev cX9_needs : ByteArray := prog_1_method_9_code
def yX9_needs : MethodName := ⟨RX9, "needs", "(II)I"⟩
abbrev cX9_hoist : ByteArray := prog_1_method_10_code
def yX9_hoist : MethodName := ⟨RX9, "hoist", "(II)I"⟩
abbrev cX9_haul : ByteArray := prog_1_method_11_code
def yX9_haul : MethodName := ⟨RX9, "haul", "(I)I"⟩
abbrev cX9_day : ByteArray := prog_1_method_12_code
def yX9_day : MethodName := ⟨RX9, "day", "(I)I"⟩
abbrev cX9_sew : ByteArray := prog_1_method_13_code
def yX9_sew : MethodName := ⟨RX9, "sew", "(I)I"⟩
abbrev cX9_anew : ByteArray := prog_1_method_14_code
def yX9_anew : MethodName := ⟨RX9, "anew", "(IIII)I"⟩
abbrev cX9_weather : ByteArray := prog_1_method_15_code
def yX9_weather : MethodName := ⟨RX9, "weather", "(IZ)I"⟩
abbrev cX9_drift : ByteArray := prog_1_method_16_code
def yX9_drift : MethodName := ⟨RX9, "drift", "(I)I"⟩
abbrev cX9_undo : ByteArray := prog_1_method_17_code
def yX9_undo : MethodName := ⟨RX9, "undo", "()I"⟩
abbrev cX9_look : ByteArray := prog_1_method_18_code
def yX9_look : MethodName := ⟨RX9, "look", "(IIZ)I"⟩
abbrev cX9_together : ByteArray := prog_1_method_19_code
def yX9_together : MethodName := ⟨RX9, "together", "(I)I"⟩
abbrev cX9_turns : ByteArray := prog_1_method_20_code
def yX9_turns : MethodName := ⟨RX9, "turns", "(II)I"⟩
abbrev cX9_clear : ByteArray := prog_1_method_21_code
def yX9_clear : MethodName := ⟨RX9, "clear", "(II)I"⟩
abbrev cX9_read : ByteArray := prog_1_method_22_code
def yX9_read : MethodName := ⟨RX9, "read", "(II)I"⟩
abbrev cX9_write : ByteArray := prog_1_method_23_code
def yX9_write : MethodName := ⟨RX9, "write", "(II)I"⟩
abbrev cX9_tear : ByteArray := prog_1_method_24_code
def yX9_tear : MethodName := ⟨RX9, "tear", "()I"⟩
abbrev cX9_judge : ByteArray := prog_1_method_25_code
def yX9_judge : MethodName := ⟨RX9, "judge", "()I"⟩
abbrev cX9_seed : ByteArray := prog_1_method_26_code
def yX9_seed : MethodName := ⟨RX9, "seed", "(I)I"⟩
abbrev cX9_keep : ByteArray := prog_1_method_27_code
def yX9_keep : MethodName := ⟨RX9, "keep", "(I)I"⟩
abbrev cX9_goBack : ByteArray := prog_1_method_28_code
def yX9_goBack : MethodName := ⟨RX9, "goBack", "(I)I"⟩
abbrev cX9_has : ByteArray := prog_1_method_29_code
def yX9_has : MethodName := ⟨RX9, "has", "(II)Z"⟩
abbrev cX9_canHoist : ByteArray := prog_1_method_30_code
def yX9_canHoist : MethodName := ⟨RX9, "canHoist", "(II)Z"⟩
abbrev cX9_refusedDays : ByteArray := prog_1_method_31_code
def yX9_refusedDays : MethodName := ⟨RX9, "refusedDays", "(I)I"⟩
abbrev cX9_draw : ByteArray := prog_1_method_32_code
def yX9_draw : MethodName := ⟨RX9, "draw", "(I)I"⟩
abbrev cX9_actByDraws : ByteArray := prog_1_method_33_code
def yX9_actByDraws : MethodName := ⟨RX9, "actByDraws", "()V"⟩
abbrev cX9_hoistDrawn : ByteArray := prog_1_method_34_code
def yX9_hoistDrawn : MethodName := ⟨RX9, "hoistDrawn", "(I)V"⟩
abbrev cX9_sewDrawn : ByteArray := prog_1_method_35_code
def yX9_sewDrawn : MethodName := ⟨RX9, "sewDrawn", "()V"⟩
abbrev cX9_readySignals : ByteArray := prog_1_method_36_code
def yX9_readySignals : MethodName := ⟨RX9, "readySignals", "()I"⟩
abbrev cX9_watchIn : ByteArray := prog_1_method_37_code
def yX9_watchIn : MethodName := ⟨RX9, "watchIn", "(I)V"⟩
abbrev cX9_clearNow : ByteArray := prog_1_method_38_code
def yX9_clearNow : MethodName := ⟨RX9, "clearNow", "()I"⟩
abbrev cX9_clearest : ByteArray := prog_1_method_39_code
def yX9_clearest : MethodName := ⟨RX9, "clearest", "()I"⟩
abbrev cX9_flyTogether : ByteArray := prog_1_method_40_code
def yX9_flyTogether : MethodName := ⟨RX9, "flyTogether", "(I)Z"⟩
abbrev cX9_groupWithin : ByteArray := prog_1_method_41_code
def yX9_groupWithin : MethodName := ⟨RX9, "groupWithin", "(I)V"⟩
abbrev cX9_mostTogether : ByteArray := prog_1_method_42_code
def yX9_mostTogether : MethodName := ⟨RX9, "mostTogether", "()I"⟩
abbrev cX9_neededFlag : ByteArray := prog_1_method_43_code
def yX9_neededFlag : MethodName := ⟨RX9, "neededFlag", "()I"⟩
abbrev cX9_betterFlag : ByteArray := prog_1_method_44_code
def yX9_betterFlag : MethodName := ⟨RX9, "betterFlag", "()I"⟩
abbrev cX9_countClearWith : ByteArray := prog_1_method_45_code
def yX9_countClearWith : MethodName := ⟨RX9, "countClearWith", "(III)I"⟩
abbrev cX9_possibleWeathers : ByteArray := prog_1_method_46_code
def yX9_possibleWeathers : MethodName := ⟨RX9, "possibleWeathers", "()I"⟩
abbrev cX9_askedSignal : ByteArray := prog_1_method_47_code
def yX9_askedSignal : MethodName := ⟨RX9, "askedSignal", "()I"⟩
abbrev cX9_fillLikes : ByteArray := prog_1_method_48_code
def yX9_fillLikes : MethodName := ⟨RX9, "fillLikes", "()V"⟩
abbrev cX9_greatestPart : ByteArray := prog_1_method_49_code
def yX9_greatestPart : MethodName := ⟨RX9, "greatestPart", "(II)I"⟩
abbrev cX9_seenPattern : ByteArray := prog_1_method_50_code
def yX9_seenPattern : MethodName := ⟨RX9, "seenPattern", "(IIIII)I"⟩
abbrev cX9_seenColour : ByteArray := prog_1_method_51_code
def yX9_seenColour : MethodName := ⟨RX9, "seenColour", "(II)I"⟩
def RX10 : String := "FlagSignalsModel"
def TX10 : u_T := fun k => match k with
  | 0 => ("FlagSignalsModel", "lines", "I", false)
  | 1 => ("FlagSignalsModel", "subs", "I", false)
  | 2 => ("FlagSignalsModel", "flags", "I", false)
  | 3 => ("FlagSignalsModel", "pattern", "[I", true)
  | 4 => ("FlagSignalsModel", "signals", "I", false)
  | 5 => ("FlagSignalsModel", "longs", "[I", true)
  | 6 => ("FlagSignalsModel", "told", "[I", true)
  | 7 => ("FlagSignalsModel", "now", "[I", true)
  | 8 => ("FlagSignalsModel", "seed", "I", false)
  | 9 => ("FlagSignalsModel", "text", "[I", true)
  | 10 => ("FlagSignalsModel", "texted", "I", false)
  | 11 => ("FlagSignalsModel", "faultPlace", "I", false)
  | 12 => ("FlagSignalsModel", "at0", "I", false)
  | 13 => ("FlagSignalsModel", "number", "I", false)
  | 14 => ("FlagSignalsModel", "readLines", "I", false)
  | 15 => ("FlagSignalsModel", "readSubs", "I", false)
  | 16 => ("FlagSignalsModel", "readFlags", "I", false)
  | 17 => ("FlagSignalsModel", "readPattern", "[I", true)
  | 18 => ("FlagSignalsModel", "readSignals", "I", false)
  | 19 => ("FlagSignalsModel", "readLongs", "[I", true)
  | 20 => ("FlagSignalsModel", "readTold", "[I", true)
  | 21 => ("FlagSignalsModel", "row", "[I", true)
  | 22 => ("FlagSignalsModel", "shows", "[Z", true)
  | 23 => ("FlagSignalsModel", "looks", "[I", true)
  | 24 => ("FlagSignalsModel", "flying", "[Z", true)
  | 25 => ("FlagSignalsModel", "fewest", "[I", true)
  | 26 => ("FlagSignalsModel", "reads", "I", false)
  | 27 => ("FlagSignalsModel", "sentOnes", "[I", true)
  | 28 => ("FlagSignalsModel", "readOnes", "[I", true)
  | 29 => ("FlagSignalsModel", "likes", "[I", true)
  | 30 => ("FlagSignalsModel", "undos", "I", false)
  | 31 => ("FlagSignalsModel", "past", "[I", true)
  | 32 => ("FlagSignalsModel", "booked", "I", false)
  | 33 => ("FlagSignalsModel", "bookOf", "[I", true)
  | 34 => ("FlagSignalsModel", "bookIs", "[I", true)
  | 35 => ("FlagSignalsModel", "images", "[I", true)
  | _ => ("FlagSignalsModel", "isKept", "[Z", true)
def tyX10 : Nat → FieldType := fun k => match k with
  | 0 => .int
  | 1 => .int
  | 2 => .int
  | 3 => .array .int
  | 4 => .int
  | 5 => .array .int
  | 6 => .array .int
  | 7 => .array .int
  | 8 => .int
  | 9 => .array .int
  | 10 => .int
  | 11 => .int
  | 12 => .int
  | 13 => .int
  | 14 => .int
  | 15 => .int
  | 16 => .int
  | 17 => .array .int
  | 18 => .int
  | 19 => .array .int
  | 20 => .array .int
  | 21 => .array .int
  | 22 => .array .boolean
  | 23 => .array .int
  | 24 => .array .boolean
  | 25 => .array .int
  | 26 => .int
  | 27 => .array .int
  | 28 => .array .int
  | 29 => .array .int
  | 30 => .int
  | 31 => .array .int
  | 32 => .int
  | 33 => .array .int
  | 34 => .array .int
  | 35 => .array .int
  | _ => .array .boolean
abbrev wsX100 : List Cond := u_ws RX10 TX10 37
theorem nmX10 : ∀ a, a < 37 → ∀ b, b < 37 → a ≠ b → (TX10 a).2.1 ≠ (TX10 b).2.1 := by decide +kernel
theorem tyX10_ok : ∀ k, k < 37 → parseFieldDescriptor (TX10 k).2.2.1 = some (tyX10 k) := by decide +kernel
abbrev cX10_init : ByteArray := prog_12_method_1_code
def yX10_init : MethodName := ⟨RX10, "<init>", "()V"⟩
abbrev cX10_in : ByteArray := prog_12_method_3_code
def yX10_in : MethodName := ⟨RX10, "in", "(JJJ)Z"⟩
abbrev cX10_has : ByteArray := prog_12_method_4_code
def yX10_has : MethodName := ⟨RX10, "has", "(II)Z"⟩
abbrev cX10_bits : ByteArray := prog_12_method_5_code
def yX10_bits : MethodName := ⟨RX10, "bits", "(I)I"⟩
abbrev cX10_isLine : ByteArray := prog_12_method_6_code
def yX10_isLine : MethodName := ⟨RX10, "isLine", "(I)Z"⟩
abbrev cX10_isFlag : ByteArray := prog_12_method_7_code
def yX10_isFlag : MethodName := ⟨RX10, "isFlag", "(I)Z"⟩
abbrev cX10_isSignal : ByteArray := prog_12_method_8_code
def yX10_isSignal : MethodName := ⟨RX10, "isSignal", "(I)Z"⟩
abbrev cX10_feed : ByteArray := prog_12_method_9_code
def yX10_feed : MethodName := ⟨RX10, "feed", "(I)I"⟩
abbrev cX10_here : ByteArray := prog_12_method_10_code
def yX10_here : MethodName := ⟨RX10, "here", "()I"⟩
abbrev cX10_fails : ByteArray := prog_12_method_11_code
def yX10_fails : MethodName := ⟨RX10, "fails", "(II)I"⟩
abbrev cX10_takeNumber : ByteArray := prog_12_method_12_code
def yX10_takeNumber : MethodName := ⟨RX10, "takeNumber", "(II)I"⟩
abbrev cX10_takeLines : ByteArray := prog_12_method_13_code
def yX10_takeLines : MethodName := ⟨RX10, "takeLines", "()I"⟩
abbrev cX10_takeFlag : ByteArray := prog_12_method_14_code
def yX10_takeFlag : MethodName := ⟨RX10, "takeFlag", "()I"⟩
abbrev cX10_takeSignal : ByteArray := prog_12_method_15_code
def yX10_takeSignal : MethodName := ⟨RX10, "takeSignal", "()I"⟩
abbrev cX10_takeClause : ByteArray := prog_12_method_16_code
def yX10_takeClause : MethodName := ⟨RX10, "takeClause", "()I"⟩
abbrev cX10_copyRow : ByteArray := prog_12_method_17_code
def yX10_copyRow : MethodName := ⟨RX10, "copyRow", "([I[II)V"⟩
abbrev cX10_beginAll : ByteArray := prog_12_method_18_code
def yX10_beginAll : MethodName := ⟨RX10, "beginAll", "()V"⟩
abbrev cX10_ship : ByteArray := prog_12_method_19_code
def yX10_ship : MethodName := ⟨RX10, "ship", "()I"⟩
abbrev cX10_fault : ByteArray := prog_12_method_20_code
def yX10_fault : MethodName := ⟨RX10, "fault", "()I"⟩
abbrev cX10_freeFlags : ByteArray := prog_12_method_21_code
def yX10_freeFlags : MethodName := ⟨RX10, "freeFlags", "()I"⟩
abbrev cX10_tornFlags : ByteArray := prog_12_method_22_code
def yX10_tornFlags : MethodName := ⟨RX10, "tornFlags", "()I"⟩
abbrev cX10_freeSubs : ByteArray := prog_12_method_23_code
def yX10_freeSubs : MethodName := ⟨RX10, "freeSubs", "()I"⟩
abbrev cX10_allSubs : ByteArray := prog_12_method_24_code
def yX10_allSubs : MethodName := ⟨RX10, "allSubs", "()I"⟩
abbrev cX10_isUsed : ByteArray := prog_12_method_25_code
def yX10_isUsed : MethodName := ⟨RX10, "isUsed", "(II)Z"⟩
abbrev cX10_itemFor : ByteArray := prog_12_method_26_code
def yX10_itemFor : MethodName := ⟨RX10, "itemFor", "(IIII)I"⟩
abbrev cX10_goesUp : ByteArray := prog_12_method_27_code
def yX10_goesUp : MethodName := ⟨RX10, "goesUp", "(III)Z"⟩
abbrev cX10_canGoUp : ByteArray := prog_12_method_28_code
def yX10_canGoUp : MethodName := ⟨RX10, "canGoUp", "()I"⟩
abbrev cX10_seenColour : ByteArray := prog_12_method_29_code
def yX10_seenColour : MethodName := ⟨RX10, "seenColour", "(II)I"⟩
abbrev cX10_lookOf : ByteArray := prog_12_method_30_code
def yX10_lookOf : MethodName := ⟨RX10, "lookOf", "(III)I"⟩
abbrev cX10_layLooks : ByteArray := prog_12_method_31_code
def yX10_layLooks : MethodName := ⟨RX10, "layLooks", "(II)V"⟩
abbrev cX10_isLike : ByteArray := prog_12_method_32_code
def yX10_isLike : MethodName := ⟨RX10, "isLike", "(II)Z"⟩
abbrev cX10_likeOf : ByteArray := prog_12_method_33_code
def yX10_likeOf : MethodName := ⟨RX10, "likeOf", "(I)I"⟩
abbrev cX10_clearIn : ByteArray := prog_12_method_34_code
def yX10_clearIn : MethodName := ⟨RX10, "clearIn", "(II)I"⟩
abbrev cX10_clearNow : ByteArray := prog_12_method_35_code
def yX10_clearNow : MethodName := ⟨RX10, "clearNow", "()I"⟩
abbrev cX10_clearest : ByteArray := prog_12_method_36_code
def yX10_clearest : MethodName := ⟨RX10, "clearest", "()I"⟩
abbrev cX10_isToldIn : ByteArray := prog_12_method_37_code
def yX10_isToldIn : MethodName := ⟨RX10, "isToldIn", "(II)Z"⟩
abbrev cX10_needed : ByteArray := prog_12_method_38_code
def yX10_needed : MethodName := ⟨RX10, "needed", "()I"⟩
abbrev cX10_better : ByteArray := prog_12_method_39_code
def yX10_better : MethodName := ⟨RX10, "better", "()I"⟩
abbrev cX10_rowFlags : ByteArray := prog_12_method_40_code
def yX10_rowFlags : MethodName := ⟨RX10, "rowFlags", "()I"⟩
abbrev cX10_rowSubs : ByteArray := prog_12_method_41_code
def yX10_rowSubs : MethodName := ⟨RX10, "rowSubs", "()I"⟩
abbrev cX10_fly : ByteArray := prog_12_method_42_code
def yX10_fly : MethodName := ⟨RX10, "fly", "(I)Z"⟩
abbrev cX10_mostTogether : ByteArray := prog_12_method_43_code
def yX10_mostTogether : MethodName := ⟨RX10, "mostTogether", "()I"⟩
abbrev cX10_areSignals : ByteArray := prog_12_method_44_code
def yX10_areSignals : MethodName := ⟨RX10, "areSignals", "(I)Z"⟩
abbrev cX10_together : ByteArray := prog_12_method_45_code
def yX10_together : MethodName := ⟨RX10, "together", "(I)I"⟩
abbrev cX10_findTurns : ByteArray := prog_12_method_46_code
def yX10_findTurns : MethodName := ⟨RX10, "findTurns", "(I)V"⟩
abbrev cX10_turns : ByteArray := prog_12_method_47_code
def yX10_turns : MethodName := ⟨RX10, "turns", "(II)I"⟩
abbrev cX10_weathers : ByteArray := prog_12_method_48_code
def yX10_weathers : MethodName := ⟨RX10, "weathers", "()I"⟩
abbrev cX10_layLikes : ByteArray := prog_12_method_49_code
def yX10_layLikes : MethodName := ⟨RX10, "layLikes", "()V"⟩
abbrev cX10_greatestPart : ByteArray := prog_12_method_50_code
def yX10_greatestPart : MethodName := ⟨RX10, "greatestPart", "(II)I"⟩
abbrev cX10_askNext : ByteArray := prog_12_method_51_code
def yX10_askNext : MethodName := ⟨RX10, "askNext", "()I"⟩
abbrev cX10_told : ByteArray := prog_12_method_52_code
def yX10_told : MethodName := ⟨RX10, "told", "(I)I"⟩
abbrev cX10_flag : ByteArray := prog_12_method_53_code
def yX10_flag : MethodName := ⟨RX10, "flag", "(II)I"⟩
abbrev cX10_lineOf : ByteArray := prog_12_method_54_code
def yX10_lineOf : MethodName := ⟨RX10, "lineOf", "(I)I"⟩
abbrev cX10_likeNow : ByteArray := prog_12_method_55_code
def yX10_likeNow : MethodName := ⟨RX10, "likeNow", "(I)I"⟩
abbrev cX10_signal : ByteArray := prog_12_method_56_code
def yX10_signal : MethodName := ⟨RX10, "signal", "(II)I"⟩
abbrev cX10_line : ByteArray := prog_12_method_57_code
def yX10_line : MethodName := ⟨RX10, "line", "(II)I"⟩
abbrev cX10_needs : ByteArray := prog_12_method_58_code
def yX10_needs : MethodName := ⟨RX10, "needs", "(II)I"⟩
abbrev cX10_remember : ByteArray := prog_12_method_59_code
def yX10_remember : MethodName := ⟨RX10, "remember", "()V"⟩
abbrev cX10_canHoist : ByteArray := prog_12_method_60_code
def yX10_canHoist : MethodName := ⟨RX10, "canHoist", "(II)Z"⟩
abbrev cX10_hoistRow : ByteArray := prog_12_method_61_code
def yX10_hoistRow : MethodName := ⟨RX10, "hoistRow", "(II)I"⟩
abbrev cX10_hoist : ByteArray := prog_12_method_62_code
def yX10_hoist : MethodName := ⟨RX10, "hoist", "(II)I"⟩
abbrev cX10_haulNow : ByteArray := prog_12_method_63_code
def yX10_haulNow : MethodName := ⟨RX10, "haulNow", "(I)I"⟩
abbrev cX10_haul : ByteArray := prog_12_method_64_code
def yX10_haul : MethodName := ⟨RX10, "haul", "(I)I"⟩
abbrev cX10_pass : ByteArray := prog_12_method_65_code
def yX10_pass : MethodName := ⟨RX10, "pass", "()V"⟩
abbrev cX10_daysRefused : ByteArray := prog_12_method_66_code
def yX10_daysRefused : MethodName := ⟨RX10, "daysRefused", "(I)I"⟩
abbrev cX10_day : ByteArray := prog_12_method_67_code
def yX10_day : MethodName := ⟨RX10, "day", "(I)I"⟩
abbrev cX10_canSew : ByteArray := prog_12_method_68_code
def yX10_canSew : MethodName := ⟨RX10, "canSew", "(I)Z"⟩
abbrev cX10_sewNow : ByteArray := prog_12_method_69_code
def yX10_sewNow : MethodName := ⟨RX10, "sewNow", "(I)V"⟩
abbrev cX10_sew : ByteArray := prog_12_method_70_code
def yX10_sew : MethodName := ⟨RX10, "sew", "(I)I"⟩
abbrev cX10_anew : ByteArray := prog_12_method_71_code
def yX10_anew : MethodName := ⟨RX10, "anew", "(IIII)I"⟩
abbrev cX10_weather : ByteArray := prog_12_method_72_code
def yX10_weather : MethodName := ⟨RX10, "weather", "(IZ)I"⟩
abbrev cX10_draw : ByteArray := prog_12_method_73_code
def yX10_draw : MethodName := ⟨RX10, "draw", "(I)I"⟩
abbrev cX10_chanceHoist : ByteArray := prog_12_method_74_code
def yX10_chanceHoist : MethodName := ⟨RX10, "chanceHoist", "(I)V"⟩
abbrev cX10_chanceSew : ByteArray := prog_12_method_75_code
def yX10_chanceSew : MethodName := ⟨RX10, "chanceSew", "()V"⟩
abbrev cX10_chance : ByteArray := prog_12_method_76_code
def yX10_chance : MethodName := ⟨RX10, "chance", "()V"⟩
abbrev cX10_drift : ByteArray := prog_12_method_77_code
def yX10_drift : MethodName := ⟨RX10, "drift", "(I)I"⟩
abbrev cX10_undo : ByteArray := prog_12_method_78_code
def yX10_undo : MethodName := ⟨RX10, "undo", "()I"⟩
abbrev cX10_look : ByteArray := prog_12_method_79_code
def yX10_look : MethodName := ⟨RX10, "look", "(IIZ)I"⟩
abbrev cX10_clear : ByteArray := prog_12_method_80_code
def yX10_clear : MethodName := ⟨RX10, "clear", "(II)I"⟩
abbrev cX10_read : ByteArray := prog_12_method_81_code
def yX10_read : MethodName := ⟨RX10, "read", "(II)I"⟩
abbrev cX10_write : ByteArray := prog_12_method_82_code
def yX10_write : MethodName := ⟨RX10, "write", "(II)I"⟩
abbrev cX10_tear : ByteArray := prog_12_method_83_code
def yX10_tear : MethodName := ⟨RX10, "tear", "()I"⟩
abbrev cX10_judge : ByteArray := prog_12_method_84_code
def yX10_judge : MethodName := ⟨RX10, "judge", "()I"⟩
abbrev cX10_seed : ByteArray := prog_12_method_85_code
def yX10_seed : MethodName := ⟨RX10, "seed", "(I)I"⟩
abbrev cX10_keep : ByteArray := prog_12_method_86_code
def yX10_keep : MethodName := ⟨RX10, "keep", "(I)I"⟩
abbrev cX10_goBack : ByteArray := prog_12_method_87_code
def yX10_goBack : MethodName := ⟨RX10, "goBack", "(I)I"⟩
def RJ6 : String := "java/lang/Integer"
def TJ6 : u_T := fun k => match k with
  | _ => ("", "", "", false)
def tyJ6 : Nat → FieldType := fun k => match k with
  | _ => .int
abbrev wsJ60 : List Cond := u_ws RJ6 TJ6 0
theorem nmJ6 : ∀ a, a < 0 → ∀ b, b < 0 → a ≠ b → (TJ6 a).2.1 ≠ (TJ6 b).2.1 := by decide +kernel
theorem tyJ6_ok : ∀ k, k < 0 → parseFieldDescriptor (TJ6 k).2.2.1 = some (tyJ6 k) := by decide +kernel
abbrev cJ6_bitCount_0f7a4 : ByteArray := prog_13_method_49_code
def yJ6_bitCount_0f7a4 : MethodName := ⟨RJ6, "bitCount", "(I)I"⟩
def RJ9 : String := "java/lang/Math"
def TJ9 : u_T := fun k => match k with
  | _ => ("", "", "", false)
def tyJ9 : Nat → FieldType := fun k => match k with
  | _ => .int
abbrev wsJ90 : List Cond := u_ws RJ9 TJ9 0
theorem nmJ9 : ∀ a, a < 0 → ∀ b, b < 0 → a ≠ b → (TJ9 a).2.1 ≠ (TJ9 b).2.1 := by decide +kernel
theorem tyJ9_ok : ∀ k, k < 0 → parseFieldDescriptor (TJ9 k).2.2.1 = some (tyJ9 k) := by decide +kernel
abbrev cJ9_max_7cf53 : ByteArray := prog_14_method_65_code
def yJ9_max_7cf53 : MethodName := ⟨RJ9, "max", "(II)I"⟩
abbrev cJ9_min_7cf53 : ByteArray := prog_14_method_69_code
def yJ9_min_7cf53 : MethodName := ⟨RJ9, "min", "(II)I"⟩
def RJ10 : String := "java/lang/System"
def TJ10 : u_T := fun k => match k with
  | _ => ("", "", "", false)
def tyJ10 : Nat → FieldType := fun k => match k with
  | _ => .int
abbrev wsJ100 : List Cond := u_ws RJ10 TJ10 0
theorem nmJ10 : ∀ a, a < 0 → ∀ b, b < 0 → a ≠ b → (TJ10 a).2.1 ≠ (TJ10 b).2.1 := by decide +kernel
theorem tyJ10_ok : ∀ k, k < 0 → parseFieldDescriptor (TJ10 k).2.2.1 = some (tyJ10 k) := by decide +kernel
def RL : String := "FlagSignalsLaw"
abbrev cL_law : ByteArray := code
def yL_law : MethodName := ⟨RL, "law", "([I)Z"⟩
abbrev vwCl : List vw_C := [(RX0, TX0, 12), (RX1, TX1, 3), (RX2, TX2, 3), (RX3, TX3, 6), (RX4, TX4, 3), (RX5, TX5, 2), (RX6, TX6, 9), (RX7, TX7, 5), (RX8, TX8, 4), (RX9, TX9, 13), (RX10, TX10, 37)]
end
section
/-- an instruction of the abstract machine: place, next place, what it is, two numbers, a constant, the place of its word -/
abbrev fg_I : Type := Nat × Nat × Nat × Nat × Nat × Int32 × Nat
/-- 0: FlagSignals$Deck.rig(LFlagSignals$Ship;)V -/
def fg_c0 : List fg_I := [(0, 1, 0, 0, 0, 0, 0), (1, 2, 5, 2, 0, 0, 0), (2, 3, 2, 2, 0, 0, 0), (3, 5, 0, 0, 0, 10, 0), (5, 8, 24, 64, 3, 0, 0), (8, 9, 3, 0, 0, 0, 0), (9, 12, 27, 0, 0, 0, 175), (12, 13, 2, 2, 0, 0, 0), (13, 14, 3, 1, 0, 0, 0), (14, 17, 27, 6, 4, 0, 141), (17, 18, 2, 2, 0, 0, 0), (18, 19, 31, 0, 0, 0, 0), (19, 20, 32, 0, 0, 0, 0), (20, 21, 3, 0, 0, 0, 0), (21, 24, 27, 0, 1, 0, 177), (24, 25, 2, 2, 0, 0, 0), (25, 26, 3, 1, 0, 0, 0), (26, 29, 27, 6, 5, 0, 143), (29, 30, 2, 2, 0, 0, 0), (30, 31, 31, 0, 0, 0, 0), (31, 32, 32, 0, 0, 0, 0), (32, 33, 3, 0, 0, 0, 0), (33, 36, 27, 0, 2, 0, 179), (36, 37, 2, 2, 0, 0, 0), (37, 38, 3, 1, 0, 0, 0), (38, 41, 27, 6, 6, 0, 145), (41, 42, 2, 2, 0, 0, 0), (42, 43, 31, 0, 0, 0, 0), (43, 44, 32, 0, 0, 0, 0), (44, 45, 3, 0, 0, 0, 0), (45, 48, 27, 0, 3, 0, 181), (48, 49, 2, 2, 0, 0, 0), (49, 50, 0, 0, 0, 0, 0), (50, 51, 32, 0, 0, 0, 0), (51, 52, 3, 0, 0, 0, 0), (52, 55, 27, 0, 4, 0, 183), (55, 56, 2, 2, 0, 0, 0), (56, 57, 0, 0, 0, (-1), 0), (57, 58, 32, 0, 0, 0, 0), (58, 61, 8, 2, 0, 1, 0), (61, 64, 22, 2, 0, 0, 0), (64, 65, 0, 0, 0, 0, 0), (65, 66, 5, 2, 0, 0, 0), (66, 67, 2, 2, 0, 0, 0), (67, 68, 0, 0, 0, 3, 0), (68, 71, 24, 82, 3, 0, 0), (71, 72, 3, 0, 0, 0, 0), (72, 73, 2, 2, 0, 0, 0), (73, 76, 38, 11, 1, 0, 352), (76, 79, 8, 2, 0, 1, 0), (79, 82, 22, 66, 0, 0, 0), (82, 83, 3, 0, 0, 0, 0), (83, 84, 0, 0, 0, 0, 0), (84, 87, 28, 0, 7, 0, 190), (87, 88, 3, 0, 0, 0, 0), (88, 89, 0, 0, 0, 0, 0), (89, 92, 28, 0, 8, 0, 192), (92, 93, 3, 0, 0, 0, 0), (93, 94, 0, 0, 0, 0, 0), (94, 97, 28, 0, 9, 0, 193), (97, 98, 3, 0, 0, 0, 0), (98, 99, 0, 0, 0, 0, 0), (99, 102, 28, 0, 10, 0, 195), (102, 103, 3, 0, 0, 0, 0), (103, 104, 3, 1, 0, 0, 0), (104, 107, 37, 30, 0, 0, 356), (107, 110, 23, 114, 0, 0, 0), (110, 111, 0, 0, 0, 1, 0), (111, 114, 22, 115, 0, 0, 0), (114, 115, 0, 0, 0, 0, 0), (115, 118, 28, 0, 11, 0, 197), (118, 119, 45, 0, 0, 0, 0)]
/-- 1: FlagSignals$Deck.become(LFlagSignals$Deck;)V -/
def fg_c1 : List fg_I := [(0, 1, 3, 1, 0, 0, 0), (1, 4, 27, 0, 0, 0, 175), (4, 5, 0, 0, 0, 0, 0), (5, 6, 3, 0, 0, 0, 0), (6, 9, 27, 0, 0, 0, 175), (9, 10, 0, 0, 0, 0, 0), (10, 12, 0, 0, 0, 10, 0), (12, 15, 42, 0, 0, 0, 713), (15, 16, 3, 1, 0, 0, 0), (16, 19, 27, 0, 1, 0, 177), (19, 20, 0, 0, 0, 0, 0), (20, 21, 3, 0, 0, 0, 0), (21, 24, 27, 0, 1, 0, 177), (24, 25, 0, 0, 0, 0, 0), (25, 27, 0, 0, 0, 10, 0), (27, 30, 42, 0, 0, 0, 713), (30, 31, 3, 1, 0, 0, 0), (31, 34, 27, 0, 2, 0, 179), (34, 35, 0, 0, 0, 0, 0), (35, 36, 3, 0, 0, 0, 0), (36, 39, 27, 0, 2, 0, 179), (39, 40, 0, 0, 0, 0, 0), (40, 42, 0, 0, 0, 10, 0), (42, 45, 42, 0, 0, 0, 713), (45, 46, 3, 1, 0, 0, 0), (46, 49, 27, 0, 3, 0, 181), (49, 50, 0, 0, 0, 0, 0), (50, 51, 3, 0, 0, 0, 0), (51, 54, 27, 0, 3, 0, 181), (54, 55, 0, 0, 0, 0, 0), (55, 57, 0, 0, 0, 10, 0), (57, 60, 42, 0, 0, 0, 713), (60, 61, 3, 1, 0, 0, 0), (61, 64, 27, 0, 4, 0, 183), (64, 65, 0, 0, 0, 0, 0), (65, 66, 3, 0, 0, 0, 0), (66, 69, 27, 0, 4, 0, 183), (69, 70, 0, 0, 0, 0, 0), (70, 72, 0, 0, 0, 10, 0), (72, 75, 42, 0, 0, 0, 713), (75, 76, 3, 1, 0, 0, 0), (76, 79, 27, 0, 5, 0, 185), (79, 80, 0, 0, 0, 0, 0), (80, 81, 3, 0, 0, 0, 0), (81, 84, 27, 0, 5, 0, 185), (84, 85, 0, 0, 0, 0, 0), (85, 86, 0, 0, 0, 3, 0), (86, 89, 42, 0, 0, 0, 713), (89, 90, 3, 1, 0, 0, 0), (90, 93, 27, 0, 6, 0, 188), (93, 94, 0, 0, 0, 0, 0), (94, 95, 3, 0, 0, 0, 0), (95, 98, 27, 0, 6, 0, 188), (98, 99, 0, 0, 0, 0, 0), (99, 101, 0, 0, 0, 12, 0), (101, 104, 42, 0, 0, 0, 713), (104, 105, 3, 0, 0, 0, 0), (105, 106, 3, 1, 0, 0, 0), (106, 109, 26, 0, 7, 0, 190), (109, 112, 28, 0, 7, 0, 190), (112, 113, 3, 0, 0, 0, 0), (113, 114, 3, 1, 0, 0, 0), (114, 117, 26, 0, 8, 0, 192), (117, 120, 28, 0, 8, 0, 192), (120, 121, 3, 0, 0, 0, 0), (121, 122, 3, 1, 0, 0, 0), (122, 125, 26, 0, 9, 0, 193), (125, 128, 28, 0, 9, 0, 193), (128, 129, 3, 0, 0, 0, 0), (129, 130, 3, 1, 0, 0, 0), (130, 133, 26, 0, 10, 0, 195), (133, 136, 28, 0, 10, 0, 195), (136, 137, 3, 0, 0, 0, 0), (137, 138, 3, 1, 0, 0, 0), (138, 141, 26, 0, 11, 0, 197), (141, 144, 28, 0, 11, 0, 197), (144, 145, 45, 0, 0, 0, 0)]
/-- 2: FlagSignals$Deck.weatherNumber()I -/
def fg_c2 : List fg_I := [(0, 1, 0, 0, 0, 2, 0), (1, 2, 3, 0, 0, 0, 0), (2, 5, 26, 0, 10, 0, 195), (5, 6, 9, 0, 2, 0, 0), (6, 7, 3, 0, 0, 0, 0), (7, 10, 26, 0, 11, 0, 197), (10, 11, 9, 0, 0, 0, 0), (11, 12, 43, 0, 0, 0, 0)]
/-- 3: FlagSignals$Deck.freeFlags(LFlagSignals$Ship;)I -/
def fg_c3 : List fg_I := [(0, 1, 3, 1, 0, 0, 0), (1, 4, 37, 36, 0, 0, 490), (4, 5, 3, 0, 0, 0, 0), (5, 8, 26, 0, 7, 0, 190), (8, 9, 0, 0, 0, (-1), 0), (9, 10, 9, 0, 5, 0, 0), (10, 11, 9, 0, 3, 0, 0), (11, 12, 5, 2, 0, 0, 0), (12, 13, 0, 0, 0, 0, 0), (13, 14, 5, 3, 0, 0, 0), (14, 15, 2, 3, 0, 0, 0), (15, 17, 0, 0, 0, 10, 0), (17, 20, 24, 44, 3, 0, 0), (20, 21, 3, 0, 0, 0, 0), (21, 24, 27, 0, 4, 0, 183), (24, 25, 2, 3, 0, 0, 0), (25, 26, 31, 0, 0, 0, 0), (26, 27, 0, 0, 0, (-1), 0), (27, 30, 24, 38, 0, 0, 0), (30, 31, 2, 2, 0, 0, 0), (31, 32, 0, 0, 0, 1, 0), (32, 33, 2, 3, 0, 0, 0), (33, 34, 9, 0, 6, 0, 0), (34, 35, 0, 0, 0, (-1), 0), (35, 36, 9, 0, 5, 0, 0), (36, 37, 9, 0, 3, 0, 0), (37, 38, 5, 2, 0, 0, 0), (38, 41, 8, 3, 0, 1, 0), (41, 44, 22, 14, 0, 0, 0), (44, 45, 2, 2, 0, 0, 0), (45, 46, 43, 0, 0, 0, 0)]
/-- 4: FlagSignals$Deck.freeSubstitutes(LFlagSignals$Ship;)I -/
def fg_c4 : List fg_I := [(0, 1, 3, 1, 0, 0, 0), (1, 4, 37, 37, 0, 0, 502), (4, 5, 3, 0, 0, 0, 0), (5, 8, 26, 0, 8, 0, 192), (8, 9, 0, 0, 0, (-1), 0), (9, 10, 9, 0, 5, 0, 0), (10, 11, 9, 0, 3, 0, 0), (11, 12, 43, 0, 0, 0, 0)]
/-- 5: FlagSignals$Deck.lookIn(III)I -/
def fg_c5 : List fg_I := [(0, 1, 2, 1, 0, 0, 0), (1, 4, 23, 10, 2, 0, 0), (4, 5, 2, 1, 0, 0, 0), (5, 7, 0, 0, 0, 10, 0), (7, 10, 24, 12, 2, 0, 0), (10, 11, 0, 0, 0, (-1), 0), (11, 12, 43, 0, 0, 0, 0), (12, 13, 3, 0, 0, 0, 0), (13, 16, 27, 0, 0, 0, 175), (16, 17, 2, 1, 0, 0, 0), (17, 18, 31, 0, 0, 0, 0), (18, 19, 3, 0, 0, 0, 0), (19, 22, 27, 0, 1, 0, 177), (22, 23, 2, 1, 0, 0, 0), (23, 24, 31, 0, 0, 0, 0), (24, 25, 3, 0, 0, 0, 0), (25, 28, 27, 0, 2, 0, 179), (28, 29, 2, 1, 0, 0, 0), (29, 30, 31, 0, 0, 0, 0), (30, 31, 2, 2, 0, 0, 0), (31, 32, 2, 3, 0, 0, 0), (32, 35, 41, 108, 5, 0, 1), (35, 36, 43, 0, 0, 0, 0)]
/-- 6: FlagSignals$Deck.lineOf(I)I -/
def fg_c6 : List fg_I := [(0, 1, 0, 0, 0, 0, 0), (1, 2, 5, 2, 0, 0, 0), (2, 3, 2, 2, 0, 0, 0), (3, 4, 0, 0, 0, 3, 0), (4, 7, 24, 25, 3, 0, 0), (7, 8, 3, 0, 0, 0, 0), (8, 11, 27, 0, 5, 0, 185), (11, 12, 2, 2, 0, 0, 0), (12, 13, 31, 0, 0, 0, 0), (13, 14, 2, 1, 0, 0, 0), (14, 17, 24, 19, 1, 0, 0), (17, 18, 2, 2, 0, 0, 0), (18, 19, 43, 0, 0, 0, 0), (19, 22, 8, 2, 0, 1, 0), (22, 25, 22, 2, 0, 0, 0), (25, 26, 0, 0, 0, (-1), 0), (26, 27, 43, 0, 0, 0, 0)]
/-- 7: FlagSignals$Deck.canBeSewn(I)Z -/
def fg_c7 : List fg_I := [(0, 1, 2, 1, 0, 0, 0), (1, 4, 23, 35, 2, 0, 0), (4, 5, 2, 1, 0, 0, 0), (5, 7, 0, 0, 0, 10, 0), (7, 10, 24, 35, 3, 0, 0), (10, 11, 3, 0, 0, 0, 0), (11, 14, 27, 0, 4, 0, 183), (14, 15, 2, 1, 0, 0, 0), (15, 16, 31, 0, 0, 0, 0), (16, 17, 0, 0, 0, (-1), 0), (17, 20, 24, 35, 1, 0, 0), (20, 21, 3, 0, 0, 0, 0), (21, 24, 26, 0, 7, 0, 190), (24, 25, 2, 1, 0, 0, 0), (25, 28, 41, 87, 2, 0, 4), (28, 31, 23, 35, 0, 0, 0), (31, 32, 0, 0, 0, 1, 0), (32, 35, 22, 36, 0, 0, 0), (35, 36, 0, 0, 0, 0, 0), (36, 37, 44, 0, 0, 0, 0)]
/-- 8: FlagSignals$Deck.mend(I)V -/
def fg_c8 : List fg_I := [(0, 1, 2, 1, 0, 0, 0), (1, 4, 23, 31, 2, 0, 0), (4, 5, 2, 1, 0, 0, 0), (5, 7, 0, 0, 0, 10, 0), (7, 10, 24, 31, 3, 0, 0), (10, 11, 3, 0, 0, 0, 0), (11, 14, 27, 0, 3, 0, 181), (14, 15, 2, 1, 0, 0, 0), (15, 16, 0, 0, 0, 0, 0), (16, 17, 32, 0, 0, 0, 0), (17, 18, 3, 0, 0, 0, 0), (18, 19, 19, 0, 0, 0, 0), (19, 22, 26, 0, 7, 0, 190), (22, 23, 0, 0, 0, 1, 0), (23, 24, 2, 1, 0, 0, 0), (24, 25, 9, 0, 6, 0, 0), (25, 26, 0, 0, 0, (-1), 0), (26, 27, 9, 0, 5, 0, 0), (27, 28, 9, 0, 3, 0, 0), (28, 31, 28, 0, 7, 0, 190), (31, 32, 45, 0, 0, 0, 0)]
/-- 9: FlagSignals$Deck.raise(II[I)I -/
def fg_c9 : List fg_I := [(0, 1, 0, 0, 0, 0, 0), (1, 3, 5, 4, 0, 0, 0), (3, 4, 3, 0, 0, 0, 0), (4, 7, 27, 0, 5, 0, 185), (7, 8, 2, 1, 0, 0, 0), (8, 9, 2, 2, 0, 0, 0), (9, 10, 32, 0, 0, 0, 0), (10, 11, 0, 0, 0, 0, 0), (11, 13, 5, 5, 0, 0, 0), (13, 15, 2, 5, 0, 0, 0), (15, 16, 0, 0, 0, 4, 0), (16, 19, 24, 100, 3, 0, 0), (19, 21, 2, 5, 0, 0, 0), (21, 22, 3, 3, 0, 0, 0), (22, 23, 36, 0, 0, 0, 0), (23, 26, 24, 100, 3, 0, 0), (26, 27, 3, 3, 0, 0, 0), (27, 29, 2, 5, 0, 0, 0), (29, 30, 31, 0, 0, 0, 0), (30, 32, 5, 6, 0, 0, 0), (32, 33, 3, 0, 0, 0, 0), (33, 36, 27, 0, 6, 0, 188), (36, 37, 2, 1, 0, 0, 0), (37, 38, 0, 0, 0, 4, 0), (38, 39, 9, 0, 2, 0, 0), (39, 41, 2, 5, 0, 0, 0), (41, 42, 9, 0, 0, 0, 0), (42, 44, 2, 6, 0, 0, 0), (44, 45, 32, 0, 0, 0, 0), (45, 47, 2, 6, 0, 0, 0), (47, 49, 0, 0, 0, 20, 0), (49, 52, 24, 74, 5, 0, 0), (52, 53, 3, 0, 0, 0, 0), (53, 54, 19, 0, 0, 0, 0), (54, 57, 26, 0, 8, 0, 192), (57, 58, 0, 0, 0, 1, 0), (58, 60, 2, 6, 0, 0, 0), (60, 62, 0, 0, 0, 20, 0), (62, 63, 9, 0, 1, 0, 0), (63, 64, 9, 0, 6, 0, 0), (64, 65, 9, 0, 4, 0, 0), (65, 68, 28, 0, 8, 0, 192), (68, 71, 8, 4, 0, 1, 0), (71, 74, 22, 94, 0, 0, 0), (74, 76, 2, 6, 0, 0, 0), (76, 79, 23, 94, 2, 0, 0), (79, 81, 2, 6, 0, 0, 0), (81, 83, 0, 0, 0, 10, 0), (83, 86, 24, 94, 3, 0, 0), (86, 87, 3, 0, 0, 0, 0), (87, 90, 27, 0, 4, 0, 183), (90, 92, 2, 6, 0, 0, 0), (92, 93, 2, 1, 0, 0, 0), (93, 94, 32, 0, 0, 0, 0), (94, 97, 8, 5, 0, 1, 0), (97, 100, 22, 13, 0, 0, 0), (100, 102, 2, 4, 0, 0, 0), (102, 103, 43, 0, 0, 0, 0)]
/-- 10: FlagSignals$Deck.lower(I)I -/
def fg_c10 : List fg_I := [(0, 1, 3, 0, 0, 0, 0), (1, 4, 27, 0, 5, 0, 185), (4, 5, 2, 1, 0, 0, 0), (5, 6, 31, 0, 0, 0, 0), (6, 7, 5, 2, 0, 0, 0), (7, 8, 0, 0, 0, 0, 0), (8, 9, 5, 3, 0, 0, 0), (9, 10, 2, 3, 0, 0, 0), (10, 11, 0, 0, 0, 4, 0), (11, 14, 24, 80, 3, 0, 0), (14, 15, 3, 0, 0, 0, 0), (15, 18, 27, 0, 6, 0, 188), (18, 19, 2, 1, 0, 0, 0), (19, 20, 0, 0, 0, 4, 0), (20, 21, 9, 0, 2, 0, 0), (21, 22, 2, 3, 0, 0, 0), (22, 23, 9, 0, 0, 0, 0), (23, 24, 31, 0, 0, 0, 0), (24, 26, 5, 4, 0, 0, 0), (26, 28, 2, 4, 0, 0, 0), (28, 30, 0, 0, 0, 20, 0), (30, 33, 24, 54, 5, 0, 0), (33, 34, 3, 0, 0, 0, 0), (34, 35, 19, 0, 0, 0, 0), (35, 38, 26, 0, 8, 0, 192), (38, 39, 0, 0, 0, 1, 0), (39, 41, 2, 4, 0, 0, 0), (41, 43, 0, 0, 0, 20, 0), (43, 44, 9, 0, 1, 0, 0), (44, 45, 9, 0, 6, 0, 0), (45, 46, 0, 0, 0, (-1), 0), (46, 47, 9, 0, 5, 0, 0), (47, 48, 9, 0, 3, 0, 0), (48, 51, 28, 0, 8, 0, 192), (51, 54, 22, 74, 0, 0, 0), (54, 56, 2, 4, 0, 0, 0), (56, 59, 23, 74, 2, 0, 0), (59, 61, 2, 4, 0, 0, 0), (61, 63, 0, 0, 0, 10, 0), (63, 66, 24, 74, 3, 0, 0), (66, 67, 3, 0, 0, 0, 0), (67, 70, 27, 0, 4, 0, 183), (70, 72, 2, 4, 0, 0, 0), (72, 73, 0, 0, 0, (-1), 0), (73, 74, 32, 0, 0, 0, 0), (74, 77, 8, 3, 0, 1, 0), (77, 80, 22, 9, 0, 0, 0), (80, 81, 3, 0, 0, 0, 0), (81, 82, 2, 1, 0, 0, 0), (82, 85, 38, 11, 1, 0, 352), (85, 86, 2, 2, 0, 0, 0), (86, 87, 43, 0, 0, 0, 0)]
/-- 11: FlagSignals$Deck.emptyLine(I)V -/
def fg_c11 : List fg_I := [(0, 1, 3, 0, 0, 0, 0), (1, 4, 27, 0, 5, 0, 185), (4, 5, 2, 1, 0, 0, 0), (5, 6, 0, 0, 0, (-1), 0), (6, 7, 32, 0, 0, 0, 0), (7, 8, 0, 0, 0, 0, 0), (8, 9, 5, 2, 0, 0, 0), (9, 10, 2, 2, 0, 0, 0), (10, 11, 0, 0, 0, 4, 0), (11, 14, 24, 31, 3, 0, 0), (14, 15, 3, 0, 0, 0, 0), (15, 18, 27, 0, 6, 0, 188), (18, 19, 2, 1, 0, 0, 0), (19, 20, 0, 0, 0, 4, 0), (20, 21, 9, 0, 2, 0, 0), (21, 22, 2, 2, 0, 0, 0), (22, 23, 9, 0, 0, 0, 0), (23, 24, 0, 0, 0, (-1), 0), (24, 25, 32, 0, 0, 0, 0), (25, 28, 8, 2, 0, 1, 0), (28, 31, 22, 9, 0, 0, 0), (31, 32, 45, 0, 0, 0, 0)]
/-- 12: FlagSignals$Deck.passDay(LFlagSignals$Ship;)V -/
def fg_c12 : List fg_I := [(0, 1, 0, 0, 0, 0, 0), (1, 2, 5, 2, 0, 0, 0), (2, 3, 2, 2, 0, 0, 0), (3, 4, 3, 1, 0, 0, 0), (4, 7, 26, 6, 2, 0, 135), (7, 10, 24, 75, 3, 0, 0), (10, 11, 2, 2, 0, 0, 0), (11, 13, 0, 0, 0, 10, 0), (13, 16, 24, 75, 3, 0, 0), (16, 17, 3, 0, 0, 0, 0), (17, 20, 27, 0, 4, 0, 183), (20, 21, 2, 2, 0, 0, 0), (21, 22, 31, 0, 0, 0, 0), (22, 23, 0, 0, 0, (-1), 0), (23, 26, 24, 69, 0, 0, 0), (26, 27, 3, 0, 0, 0, 0), (27, 30, 26, 0, 7, 0, 190), (30, 31, 2, 2, 0, 0, 0), (31, 34, 41, 87, 2, 0, 4), (34, 37, 23, 69, 1, 0, 0), (37, 38, 3, 0, 0, 0, 0), (38, 41, 27, 0, 3, 0, 181), (41, 42, 2, 2, 0, 0, 0), (42, 43, 21, 0, 0, 0, 0), (43, 44, 31, 0, 0, 0, 0), (44, 45, 0, 0, 0, 1, 0), (45, 46, 9, 0, 0, 0, 0), (46, 47, 32, 0, 0, 0, 0), (47, 48, 3, 0, 0, 0, 0), (48, 51, 27, 0, 3, 0, 181), (51, 52, 2, 2, 0, 0, 0), (52, 53, 31, 0, 0, 0, 0), (53, 54, 0, 0, 0, 5, 0), (54, 57, 24, 69, 2, 0, 0), (57, 58, 3, 0, 0, 0, 0), (58, 59, 19, 0, 0, 0, 0), (59, 62, 26, 0, 7, 0, 190), (62, 63, 0, 0, 0, 1, 0), (63, 64, 2, 2, 0, 0, 0), (64, 65, 9, 0, 6, 0, 0), (65, 66, 9, 0, 4, 0, 0), (66, 69, 28, 0, 7, 0, 190), (69, 72, 8, 2, 0, 1, 0), (72, 75, 22, 2, 0, 0, 0), (75, 76, 3, 0, 0, 0, 0), (76, 77, 19, 0, 0, 0, 0), (77, 80, 26, 0, 9, 0, 193), (80, 81, 0, 0, 0, 1, 0), (81, 82, 9, 0, 0, 0, 0), (82, 85, 28, 0, 9, 0, 193), (85, 86, 45, 0, 0, 0, 0)]
/-- 13: FlagSignals$Locker.open(II)V -/
def fg_c13 : List fg_I := [(0, 1, 3, 0, 0, 0, 0), (1, 2, 2, 1, 0, 0, 0), (2, 5, 28, 2, 0, 0, 279), (5, 6, 3, 0, 0, 0, 0), (6, 7, 2, 2, 0, 0, 0), (7, 10, 28, 2, 1, 0, 280), (10, 11, 45, 0, 0, 0, 0)]
/-- 14: FlagSignals$Locker.take(LFlagSignals$Ship;I)Z -/
def fg_c14 : List fg_I := [(0, 1, 3, 0, 0, 0, 0), (1, 4, 38, 16, 0, 0, 514), (4, 5, 3, 1, 0, 0, 0), (5, 6, 2, 2, 0, 0, 0), (6, 9, 37, 33, 1, 0, 518), (9, 12, 23, 14, 1, 0, 0), (12, 13, 0, 0, 0, 0, 0), (13, 14, 44, 0, 0, 0, 0), (14, 15, 3, 0, 0, 0, 0), (15, 18, 26, 2, 0, 0, 279), (18, 19, 5, 3, 0, 0, 0), (19, 20, 3, 0, 0, 0, 0), (20, 23, 26, 2, 1, 0, 280), (23, 25, 5, 4, 0, 0, 0), (25, 26, 0, 0, 0, 0, 0), (26, 28, 5, 5, 0, 0, 0), (28, 30, 2, 5, 0, 0, 0), (30, 31, 3, 1, 0, 0, 0), (31, 34, 27, 6, 7, 0, 147), (34, 35, 2, 2, 0, 0, 0), (35, 36, 31, 0, 0, 0, 0), (36, 39, 24, 132, 3, 0, 0), (39, 41, 2, 5, 0, 0, 0), (41, 42, 0, 0, 0, 4, 0), (42, 45, 24, 132, 3, 0, 0), (45, 46, 3, 0, 0, 0, 0), (46, 47, 3, 1, 0, 0, 0), (47, 48, 2, 2, 0, 0, 0), (48, 50, 2, 5, 0, 0, 0), (50, 53, 37, 15, 3, 0, 522), (53, 55, 5, 6, 0, 0, 0), (55, 57, 2, 6, 0, 0, 0), (57, 58, 0, 0, 0, (-1), 0), (58, 61, 24, 74, 1, 0, 0), (61, 62, 3, 0, 0, 0, 0), (62, 63, 2, 3, 0, 0, 0), (63, 65, 2, 4, 0, 0, 0), (65, 68, 38, 13, 2, 0, 533), (68, 69, 3, 0, 0, 0, 0), (69, 72, 38, 16, 0, 0, 514), (72, 73, 0, 0, 0, 0, 0), (73, 74, 44, 0, 0, 0, 0), (74, 75, 3, 0, 0, 0, 0), (75, 78, 27, 2, 2, 0, 281), (78, 80, 2, 5, 0, 0, 0), (80, 82, 2, 6, 0, 0, 0), (82, 83, 32, 0, 0, 0, 0), (83, 85, 2, 6, 0, 0, 0), (85, 87, 0, 0, 0, 20, 0), (87, 90, 24, 111, 5, 0, 0), (90, 91, 3, 0, 0, 0, 0), (91, 92, 19, 0, 0, 0, 0), (92, 95, 26, 2, 1, 0, 280), (95, 96, 0, 0, 0, 1, 0), (96, 98, 2, 6, 0, 0, 0), (98, 100, 0, 0, 0, 20, 0), (100, 101, 9, 0, 1, 0, 0), (101, 102, 9, 0, 6, 0, 0), (102, 103, 0, 0, 0, (-1), 0), (103, 104, 9, 0, 5, 0, 0), (104, 105, 9, 0, 3, 0, 0), (105, 108, 28, 2, 1, 0, 280), (108, 111, 22, 126, 0, 0, 0), (111, 112, 3, 0, 0, 0, 0), (112, 113, 19, 0, 0, 0, 0), (113, 116, 26, 2, 0, 0, 279), (116, 117, 0, 0, 0, 1, 0), (117, 119, 2, 6, 0, 0, 0), (119, 120, 9, 0, 6, 0, 0), (120, 121, 0, 0, 0, (-1), 0), (121, 122, 9, 0, 5, 0, 0), (122, 123, 9, 0, 3, 0, 0), (123, 126, 28, 2, 0, 0, 279), (126, 129, 8, 5, 0, 1, 0), (129, 132, 22, 28, 0, 0, 0), (132, 133, 0, 0, 0, 1, 0), (133, 134, 44, 0, 0, 0, 0)]
/-- 15: FlagSignals$Locker.pieceFor(LFlagSignals$Ship;II)I -/
def fg_c15 : List fg_I := [(0, 1, 3, 1, 0, 0, 0), (1, 2, 2, 2, 0, 0, 0), (2, 3, 2, 3, 0, 0, 0), (3, 6, 37, 42, 2, 0, 526), (6, 8, 5, 4, 0, 0, 0), (8, 9, 3, 0, 0, 0, 0), (9, 12, 26, 2, 0, 0, 279), (12, 14, 2, 4, 0, 0, 0), (14, 17, 41, 87, 2, 0, 0), (17, 20, 23, 23, 0, 0, 0), (20, 22, 2, 4, 0, 0, 0), (22, 23, 43, 0, 0, 0, 0), (23, 24, 0, 0, 0, 1, 0), (24, 26, 5, 5, 0, 0, 0), (26, 28, 2, 5, 0, 0, 0), (28, 29, 2, 3, 0, 0, 0), (29, 32, 24, 76, 4, 0, 0), (32, 34, 2, 5, 0, 0, 0), (34, 35, 0, 0, 0, 3, 0), (35, 38, 24, 76, 4, 0, 0), (38, 39, 3, 0, 0, 0, 0), (39, 42, 26, 2, 1, 0, 280), (42, 44, 2, 5, 0, 0, 0), (44, 47, 41, 87, 2, 0, 0), (47, 50, 23, 70, 0, 0, 0), (50, 51, 3, 1, 0, 0, 0), (51, 52, 2, 2, 0, 0, 0), (52, 54, 2, 5, 0, 0, 0), (54, 55, 0, 0, 0, 1, 0), (55, 56, 9, 0, 1, 0, 0), (56, 59, 37, 42, 2, 0, 526), (59, 61, 2, 4, 0, 0, 0), (61, 64, 24, 70, 1, 0, 0), (64, 66, 0, 0, 0, 20, 0), (66, 68, 2, 5, 0, 0, 0), (68, 69, 9, 0, 0, 0, 0), (69, 70, 43, 0, 0, 0, 0), (70, 73, 8, 5, 0, 1, 0), (73, 76, 22, 26, 0, 0, 0), (76, 77, 0, 0, 0, (-1), 0), (77, 78, 43, 0, 0, 0, 0)]
/-- 16: FlagSignals$Locker.emptyRow()V -/
def fg_c16 : List fg_I := [(0, 1, 0, 0, 0, 0, 0), (1, 2, 5, 1, 0, 0, 0), (2, 3, 2, 1, 0, 0, 0), (3, 4, 0, 0, 0, 4, 0), (4, 7, 24, 20, 3, 0, 0), (7, 8, 3, 0, 0, 0, 0), (8, 11, 27, 2, 2, 0, 281), (11, 12, 2, 1, 0, 0, 0), (12, 13, 0, 0, 0, (-1), 0), (13, 14, 32, 0, 0, 0, 0), (14, 17, 8, 1, 0, 1, 0), (17, 20, 22, 2, 0, 0, 0), (20, 21, 45, 0, 0, 0, 0)]
/-- 17: FlagSignals$Log.addRead(II)Z -/
def fg_c17 : List fg_I := [(0, 1, 3, 0, 0, 0, 0), (1, 4, 26, 3, 4, 0, 256), (4, 6, 0, 0, 0, 8, 0), (6, 9, 24, 11, 2, 0, 0), (9, 10, 0, 0, 0, 0, 0), (10, 11, 44, 0, 0, 0, 0), (11, 12, 3, 0, 0, 0, 0), (12, 15, 27, 3, 0, 0, 252), (15, 16, 3, 0, 0, 0, 0), (16, 19, 26, 3, 4, 0, 256), (19, 20, 2, 1, 0, 0, 0), (20, 21, 32, 0, 0, 0, 0), (21, 22, 3, 0, 0, 0, 0), (22, 25, 27, 3, 1, 0, 253), (25, 26, 3, 0, 0, 0, 0), (26, 29, 26, 3, 4, 0, 256), (29, 30, 2, 2, 0, 0, 0), (30, 31, 32, 0, 0, 0, 0), (31, 32, 3, 0, 0, 0, 0), (32, 33, 19, 0, 0, 0, 0), (33, 36, 26, 3, 4, 0, 256), (36, 37, 0, 0, 0, 1, 0), (37, 38, 9, 0, 0, 0, 0), (38, 41, 28, 3, 4, 0, 256), (41, 42, 0, 0, 0, 1, 0), (42, 43, 44, 0, 0, 0, 0)]
/-- 18: FlagSignals$Log.addEntry(II)Z -/
def fg_c18 : List fg_I := [(0, 1, 3, 0, 0, 0, 0), (1, 4, 26, 3, 5, 0, 258), (4, 6, 0, 0, 0, 15, 0), (6, 9, 24, 11, 2, 0, 0), (9, 10, 0, 0, 0, 0, 0), (10, 11, 44, 0, 0, 0, 0), (11, 12, 3, 0, 0, 0, 0), (12, 15, 27, 3, 2, 0, 254), (15, 16, 3, 0, 0, 0, 0), (16, 19, 26, 3, 5, 0, 258), (19, 20, 2, 1, 0, 0, 0), (20, 21, 32, 0, 0, 0, 0), (21, 22, 3, 0, 0, 0, 0), (22, 25, 27, 3, 3, 0, 255), (25, 26, 3, 0, 0, 0, 0), (26, 29, 26, 3, 5, 0, 258), (29, 30, 2, 2, 0, 0, 0), (30, 31, 32, 0, 0, 0, 0), (31, 32, 3, 0, 0, 0, 0), (32, 33, 19, 0, 0, 0, 0), (33, 36, 26, 3, 5, 0, 258), (36, 37, 0, 0, 0, 1, 0), (37, 38, 9, 0, 0, 0, 0), (38, 41, 28, 3, 5, 0, 258), (41, 42, 0, 0, 0, 1, 0), (42, 43, 44, 0, 0, 0, 0)]
/-- 19: FlagSignals$Log.wipe()V -/
def fg_c19 : List fg_I := [(0, 1, 3, 0, 0, 0, 0), (1, 2, 0, 0, 0, 0, 0), (2, 5, 28, 3, 4, 0, 256), (5, 6, 3, 0, 0, 0, 0), (6, 7, 0, 0, 0, 0, 0), (7, 10, 28, 3, 5, 0, 258), (10, 11, 45, 0, 0, 0, 0)]
/-- 20: FlagSignals$Log.fits(LFlagSignals$Ship;LFlagSignals$Watch;)Z -/
def fg_c20 : List fg_I := [(0, 1, 0, 0, 0, 0, 0), (1, 2, 5, 3, 0, 0, 0), (2, 3, 2, 3, 0, 0, 0), (3, 4, 3, 0, 0, 0, 0), (4, 7, 26, 3, 4, 0, 256), (7, 10, 24, 47, 3, 0, 0), (10, 11, 2, 3, 0, 0, 0), (11, 13, 0, 0, 0, 8, 0), (13, 16, 24, 47, 3, 0, 0), (16, 17, 3, 2, 0, 0, 0), (17, 18, 3, 1, 0, 0, 0), (18, 19, 3, 0, 0, 0, 0), (19, 22, 27, 3, 0, 0, 252), (22, 23, 2, 3, 0, 0, 0), (23, 24, 31, 0, 0, 0, 0), (24, 27, 37, 58, 2, 0, 642), (27, 28, 3, 0, 0, 0, 0), (28, 31, 27, 3, 1, 0, 253), (31, 32, 2, 3, 0, 0, 0), (32, 33, 31, 0, 0, 0, 0), (33, 36, 41, 87, 2, 0, 3), (36, 39, 23, 41, 1, 0, 0), (39, 40, 0, 0, 0, 0, 0), (40, 41, 44, 0, 0, 0, 0), (41, 44, 8, 3, 0, 1, 0), (44, 47, 22, 2, 0, 0, 0), (47, 48, 0, 0, 0, 1, 0), (48, 49, 44, 0, 0, 0, 0)]
/-- 21: FlagSignals$Log.firstFalse(LFlagSignals$Deck;)I -/
def fg_c21 : List fg_I := [(0, 1, 0, 0, 0, 0, 0), (1, 2, 5, 2, 0, 0, 0), (2, 3, 2, 2, 0, 0, 0), (3, 4, 3, 0, 0, 0, 0), (4, 7, 26, 3, 5, 0, 258), (7, 10, 24, 55, 3, 0, 0), (10, 11, 2, 2, 0, 0, 0), (11, 13, 0, 0, 0, 15, 0), (13, 16, 24, 55, 3, 0, 0), (16, 17, 3, 0, 0, 0, 0), (17, 20, 27, 3, 2, 0, 254), (20, 21, 2, 2, 0, 0, 0), (21, 22, 31, 0, 0, 0, 0), (22, 23, 5, 3, 0, 0, 0), (23, 24, 2, 3, 0, 0, 0), (24, 27, 23, 49, 2, 0, 0), (27, 28, 2, 3, 0, 0, 0), (28, 29, 0, 0, 0, 3, 0), (29, 32, 24, 49, 3, 0, 0), (32, 33, 3, 1, 0, 0, 0), (33, 36, 27, 0, 5, 0, 186), (36, 37, 2, 3, 0, 0, 0), (37, 38, 31, 0, 0, 0, 0), (38, 39, 3, 0, 0, 0, 0), (39, 42, 27, 3, 3, 0, 255), (42, 43, 2, 2, 0, 0, 0), (43, 44, 31, 0, 0, 0, 0), (44, 47, 24, 49, 0, 0, 0), (47, 48, 2, 2, 0, 0, 0), (48, 49, 43, 0, 0, 0, 0), (49, 52, 8, 2, 0, 1, 0), (52, 55, 22, 2, 0, 0, 0), (55, 56, 0, 0, 0, (-1), 0), (56, 57, 43, 0, 0, 0, 0)]
/-- 22: FlagSignals$Past.remember(LFlagSignals$Deck;)V -/
def fg_c22 : List fg_I := [(0, 1, 3, 0, 0, 0, 0), (1, 4, 27, 4, 0, 0, 233), (4, 5, 3, 0, 0, 0, 0), (5, 8, 26, 4, 1, 0, 234), (8, 9, 3, 0, 0, 0, 0), (9, 12, 26, 4, 2, 0, 235), (12, 13, 9, 0, 0, 0, 0), (13, 15, 0, 0, 0, 16, 0), (15, 16, 11, 0, 0, 0, 0), (16, 17, 35, 0, 0, 0, 0), (17, 18, 3, 1, 0, 0, 0), (18, 21, 38, 1, 1, 0, 709), (21, 22, 3, 0, 0, 0, 0), (22, 25, 26, 4, 2, 0, 235), (25, 27, 0, 0, 0, 16, 0), (27, 30, 24, 43, 3, 0, 0), (30, 31, 3, 0, 0, 0, 0), (31, 32, 19, 0, 0, 0, 0), (32, 35, 26, 4, 2, 0, 235), (35, 36, 0, 0, 0, 1, 0), (36, 37, 9, 0, 0, 0, 0), (37, 40, 28, 4, 2, 0, 235), (40, 43, 22, 56, 0, 0, 0), (43, 44, 3, 0, 0, 0, 0), (44, 45, 3, 0, 0, 0, 0), (45, 48, 26, 4, 1, 0, 234), (48, 49, 0, 0, 0, 1, 0), (49, 50, 9, 0, 0, 0, 0), (50, 52, 0, 0, 0, 16, 0), (52, 53, 11, 0, 0, 0, 0), (53, 56, 28, 4, 1, 0, 234), (56, 57, 45, 0, 0, 0, 0)]
/-- 23: FlagSignals$Past.giveBack(LFlagSignals$Deck;)V -/
def fg_c23 : List fg_I := [(0, 1, 3, 0, 0, 0, 0), (1, 4, 26, 4, 2, 0, 235), (4, 7, 23, 38, 5, 0, 0), (7, 8, 3, 0, 0, 0, 0), (8, 9, 19, 0, 0, 0, 0), (9, 12, 26, 4, 2, 0, 235), (12, 13, 0, 0, 0, 1, 0), (13, 14, 9, 0, 1, 0, 0), (14, 17, 28, 4, 2, 0, 235), (17, 18, 3, 1, 0, 0, 0), (18, 19, 3, 0, 0, 0, 0), (19, 22, 27, 4, 0, 0, 233), (22, 23, 3, 0, 0, 0, 0), (23, 26, 26, 4, 1, 0, 234), (26, 27, 3, 0, 0, 0, 0), (27, 30, 26, 4, 2, 0, 235), (30, 31, 9, 0, 0, 0, 0), (31, 33, 0, 0, 0, 16, 0), (33, 34, 11, 0, 0, 0, 0), (34, 35, 35, 0, 0, 0, 0), (35, 38, 38, 1, 1, 0, 709), (38, 39, 45, 0, 0, 0, 0)]
/-- 24: FlagSignals$Past.forget()V -/
def fg_c24 : List fg_I := [(0, 1, 3, 0, 0, 0, 0), (1, 2, 0, 0, 0, 0, 0), (2, 5, 28, 4, 1, 0, 234), (5, 6, 3, 0, 0, 0, 0), (6, 7, 0, 0, 0, 0, 0), (7, 10, 28, 4, 2, 0, 235), (10, 11, 45, 0, 0, 0, 0)]
/-- 25: FlagSignals$Rota.largestGroup()I -/
def fg_c25 : List fg_I := [(0, 1, 0, 0, 0, 0, 0), (1, 2, 5, 1, 0, 0, 0), (2, 3, 0, 0, 0, 1, 0), (3, 4, 5, 2, 0, 0, 0), (4, 5, 2, 2, 0, 0, 0), (5, 8, 0, 0, 0, 1024, 0), (8, 11, 24, 39, 3, 0, 0), (11, 12, 3, 0, 0, 0, 0), (12, 15, 27, 5, 0, 0, 318), (15, 16, 2, 2, 0, 0, 0), (16, 17, 33, 0, 0, 0, 0), (17, 20, 23, 33, 0, 0, 0), (20, 21, 2, 2, 0, 0, 0), (21, 24, 39, 195, 1, 0, 614), (24, 25, 2, 1, 0, 0, 0), (25, 28, 39, 195, 1, 0, 614), (28, 31, 24, 33, 5, 0, 0), (31, 32, 2, 2, 0, 0, 0), (32, 33, 5, 1, 0, 0, 0), (33, 36, 8, 2, 0, 1, 0), (36, 39, 22, 4, 0, 0, 0), (39, 40, 2, 1, 0, 0, 0), (40, 41, 43, 0, 0, 0, 0)]
/-- 26: FlagSignals$Rota.plan(I)V -/
def fg_c26 : List fg_I := [(0, 1, 3, 0, 0, 0, 0), (1, 4, 27, 5, 1, 0, 320), (4, 5, 0, 0, 0, 0, 0), (5, 6, 0, 0, 0, 0, 0), (6, 7, 32, 0, 0, 0, 0), (7, 8, 0, 0, 0, 1, 0), (8, 9, 5, 2, 0, 0, 0), (9, 10, 2, 2, 0, 0, 0), (10, 11, 2, 1, 0, 0, 0), (11, 14, 24, 46, 4, 0, 0), (14, 15, 2, 2, 0, 0, 0), (15, 18, 0, 0, 0, 1024, 0), (18, 21, 24, 46, 3, 0, 0), (21, 22, 2, 2, 0, 0, 0), (22, 23, 2, 1, 0, 0, 0), (23, 24, 0, 0, 0, (-1), 0), (24, 25, 9, 0, 5, 0, 0), (25, 26, 9, 0, 3, 0, 0), (26, 29, 23, 40, 1, 0, 0), (29, 30, 3, 0, 0, 0, 0), (30, 33, 27, 5, 1, 0, 320), (33, 34, 2, 2, 0, 0, 0), (34, 35, 3, 0, 0, 0, 0), (35, 36, 2, 2, 0, 0, 0), (36, 39, 37, 27, 1, 0, 815), (39, 40, 32, 0, 0, 0, 0), (40, 43, 8, 2, 0, 1, 0), (43, 46, 22, 9, 0, 0, 0), (46, 47, 45, 0, 0, 0, 0)]
/-- 27: FlagSignals$Rota.fewestOf(I)I -/
def fg_c27 : List fg_I := [(0, 1, 2, 1, 0, 0, 0), (1, 2, 2, 1, 0, 0, 0), (2, 3, 12, 0, 0, 0, 0), (3, 4, 9, 0, 3, 0, 0), (4, 5, 5, 2, 0, 0, 0), (5, 6, 2, 1, 0, 0, 0), (6, 7, 2, 2, 0, 0, 0), (7, 8, 0, 0, 0, (-1), 0), (8, 9, 9, 0, 5, 0, 0), (9, 10, 9, 0, 3, 0, 0), (10, 11, 5, 3, 0, 0, 0), (11, 12, 3, 0, 0, 0, 0), (12, 15, 27, 5, 1, 0, 320), (15, 16, 2, 3, 0, 0, 0), (16, 17, 31, 0, 0, 0, 0), (17, 18, 0, 0, 0, 1, 0), (18, 19, 9, 0, 0, 0, 0), (19, 21, 5, 4, 0, 0, 0), (21, 22, 2, 3, 0, 0, 0), (22, 24, 5, 5, 0, 0, 0), (24, 26, 2, 5, 0, 0, 0), (26, 29, 23, 72, 5, 0, 0), (29, 30, 3, 0, 0, 0, 0), (30, 33, 27, 5, 0, 0, 318), (33, 34, 2, 2, 0, 0, 0), (34, 36, 2, 5, 0, 0, 0), (36, 37, 9, 0, 4, 0, 0), (37, 38, 33, 0, 0, 0, 0), (38, 41, 23, 61, 0, 0, 0), (41, 43, 2, 4, 0, 0, 0), (43, 44, 3, 0, 0, 0, 0), (44, 47, 27, 5, 1, 0, 320), (47, 48, 2, 3, 0, 0, 0), (48, 50, 2, 5, 0, 0, 0), (50, 51, 0, 0, 0, (-1), 0), (51, 52, 9, 0, 5, 0, 0), (52, 53, 9, 0, 3, 0, 0), (53, 54, 31, 0, 0, 0, 0), (54, 55, 0, 0, 0, 1, 0), (55, 56, 9, 0, 0, 0, 0), (56, 59, 39, 197, 2, 0, 819), (59, 61, 5, 4, 0, 0, 0), (61, 63, 2, 5, 0, 0, 0), (63, 64, 0, 0, 0, 1, 0), (64, 65, 9, 0, 1, 0, 0), (65, 66, 2, 3, 0, 0, 0), (66, 67, 9, 0, 3, 0, 0), (67, 69, 5, 5, 0, 0, 0), (69, 72, 22, 24, 0, 0, 0), (72, 74, 2, 4, 0, 0, 0), (74, 75, 43, 0, 0, 0, 0)]
/-- 28: FlagSignals$Rota.firstGroup(I)I -/
def fg_c28 : List fg_I := [(0, 1, 0, 0, 0, 1, 0), (1, 2, 5, 2, 0, 0, 0), (2, 3, 2, 2, 0, 0, 0), (3, 4, 2, 1, 0, 0, 0), (4, 7, 24, 52, 4, 0, 0), (7, 8, 2, 2, 0, 0, 0), (8, 11, 0, 0, 0, 1024, 0), (11, 14, 24, 52, 3, 0, 0), (14, 15, 3, 0, 0, 0, 0), (15, 18, 27, 5, 0, 0, 318), (18, 19, 2, 2, 0, 0, 0), (19, 20, 33, 0, 0, 0, 0), (20, 23, 23, 46, 0, 0, 0), (23, 24, 3, 0, 0, 0, 0), (24, 27, 27, 5, 1, 0, 320), (27, 28, 2, 1, 0, 0, 0), (28, 29, 2, 2, 0, 0, 0), (29, 30, 0, 0, 0, (-1), 0), (30, 31, 9, 0, 5, 0, 0), (31, 32, 9, 0, 3, 0, 0), (32, 33, 31, 0, 0, 0, 0), (33, 34, 3, 0, 0, 0, 0), (34, 37, 27, 5, 1, 0, 320), (37, 38, 2, 1, 0, 0, 0), (38, 39, 31, 0, 0, 0, 0), (39, 40, 0, 0, 0, 1, 0), (40, 41, 9, 0, 1, 0, 0), (41, 44, 24, 46, 1, 0, 0), (44, 45, 2, 2, 0, 0, 0), (45, 46, 43, 0, 0, 0, 0), (46, 49, 8, 2, 0, 1, 0), (49, 52, 22, 2, 0, 0, 0), (52, 53, 0, 0, 0, (-1), 0), (53, 54, 43, 0, 0, 0, 0)]
/-- 29: FlagSignals$Ship.strike()V -/
def fg_c29 : List fg_I := [(0, 1, 3, 0, 0, 0, 0), (1, 2, 0, 0, 0, 0, 0), (2, 5, 28, 6, 0, 0, 126), (5, 6, 3, 0, 0, 0, 0), (6, 7, 0, 0, 0, 0, 0), (7, 10, 28, 6, 1, 0, 129), (10, 11, 3, 0, 0, 0, 0), (11, 12, 0, 0, 0, 0, 0), (12, 15, 28, 6, 2, 0, 132), (15, 16, 3, 0, 0, 0, 0), (16, 17, 0, 0, 0, 0, 0), (17, 20, 28, 6, 3, 0, 136), (20, 21, 45, 0, 0, 0, 0)]
/-- 30: FlagSignals$Ship.stands()Z -/
def fg_c30 : List fg_I := [(0, 1, 3, 0, 0, 0, 0), (1, 4, 26, 6, 0, 0, 126), (4, 7, 23, 11, 5, 0, 0), (7, 8, 0, 0, 0, 1, 0), (8, 11, 22, 12, 0, 0, 0), (11, 12, 0, 0, 0, 0, 0), (12, 13, 44, 0, 0, 0, 0)]
/-- 31: FlagSignals$Ship.hasLine(I)Z -/
def fg_c31 : List fg_I := [(0, 1, 2, 1, 0, 0, 0), (1, 4, 23, 21, 2, 0, 0), (4, 5, 2, 1, 0, 0, 0), (5, 6, 3, 0, 0, 0, 0), (6, 9, 26, 6, 0, 0, 126), (9, 12, 24, 21, 3, 0, 0), (12, 13, 2, 1, 0, 0, 0), (13, 14, 0, 0, 0, 3, 0), (14, 17, 24, 21, 3, 0, 0), (17, 18, 0, 0, 0, 1, 0), (18, 21, 22, 22, 0, 0, 0), (21, 22, 0, 0, 0, 0, 0), (22, 23, 44, 0, 0, 0, 0)]
/-- 32: FlagSignals$Ship.hasFlag(I)Z -/
def fg_c32 : List fg_I := [(0, 1, 2, 1, 0, 0, 0), (1, 4, 23, 22, 2, 0, 0), (4, 5, 2, 1, 0, 0, 0), (5, 6, 3, 0, 0, 0, 0), (6, 9, 26, 6, 2, 0, 132), (9, 12, 24, 22, 3, 0, 0), (12, 13, 2, 1, 0, 0, 0), (13, 15, 0, 0, 0, 10, 0), (15, 18, 24, 22, 3, 0, 0), (18, 19, 0, 0, 0, 1, 0), (19, 22, 22, 23, 0, 0, 0), (22, 23, 0, 0, 0, 0, 0), (23, 24, 44, 0, 0, 0, 0)]
/-- 33: FlagSignals$Ship.hasSignal(I)Z -/
def fg_c33 : List fg_I := [(0, 1, 2, 1, 0, 0, 0), (1, 4, 23, 22, 2, 0, 0), (4, 5, 2, 1, 0, 0, 0), (5, 6, 3, 0, 0, 0, 0), (6, 9, 26, 6, 3, 0, 136), (9, 12, 24, 22, 3, 0, 0), (12, 13, 2, 1, 0, 0, 0), (13, 15, 0, 0, 0, 10, 0), (15, 18, 24, 22, 3, 0, 0), (18, 19, 0, 0, 0, 1, 0), (19, 22, 22, 23, 0, 0, 0), (22, 23, 0, 0, 0, 0, 0), (23, 24, 44, 0, 0, 0, 0)]
/-- 34: FlagSignals$Ship.hasAll(I)Z -/
def fg_c34 : List fg_I := [(0, 1, 2, 1, 0, 0, 0), (1, 2, 3, 0, 0, 0, 0), (2, 5, 37, 35, 0, 0, 806), (5, 6, 0, 0, 0, (-1), 0), (6, 7, 9, 0, 5, 0, 0), (7, 8, 9, 0, 3, 0, 0), (8, 11, 23, 15, 1, 0, 0), (11, 12, 0, 0, 0, 1, 0), (12, 15, 22, 16, 0, 0, 0), (15, 16, 0, 0, 0, 0, 0), (16, 17, 44, 0, 0, 0, 0)]
/-- 35: FlagSignals$Ship.allSignals()I -/
def fg_c35 : List fg_I := [(0, 1, 0, 0, 0, 1, 0), (1, 2, 3, 0, 0, 0, 0), (2, 5, 26, 6, 3, 0, 136), (5, 6, 9, 0, 6, 0, 0), (6, 7, 0, 0, 0, 1, 0), (7, 8, 9, 0, 1, 0, 0), (8, 9, 43, 0, 0, 0, 0)]
/-- 36: FlagSignals$Ship.allFlags()I -/
def fg_c36 : List fg_I := [(0, 1, 0, 0, 0, 1, 0), (1, 2, 3, 0, 0, 0, 0), (2, 5, 26, 6, 2, 0, 132), (5, 6, 9, 0, 6, 0, 0), (6, 7, 0, 0, 0, 1, 0), (7, 8, 9, 0, 1, 0, 0), (8, 9, 43, 0, 0, 0, 0)]
/-- 37: FlagSignals$Ship.allSubstitutes()I -/
def fg_c37 : List fg_I := [(0, 1, 0, 0, 0, 2, 0), (1, 2, 3, 0, 0, 0, 0), (2, 5, 26, 6, 1, 0, 129), (5, 6, 9, 0, 6, 0, 0), (6, 7, 0, 0, 0, 2, 0), (7, 8, 9, 0, 1, 0, 0), (8, 9, 43, 0, 0, 0, 0)]
/-- 38: FlagSignals$Ship.addFlag(III)V -/
def fg_c38 : List fg_I := [(0, 1, 3, 0, 0, 0, 0), (1, 4, 26, 6, 2, 0, 132), (4, 6, 0, 0, 0, 10, 0), (6, 9, 24, 49, 3, 0, 0), (9, 10, 3, 0, 0, 0, 0), (10, 13, 27, 6, 4, 0, 140), (13, 14, 3, 0, 0, 0, 0), (14, 17, 26, 6, 2, 0, 132), (17, 18, 2, 1, 0, 0, 0), (18, 19, 32, 0, 0, 0, 0), (19, 20, 3, 0, 0, 0, 0), (20, 23, 27, 6, 5, 0, 142), (23, 24, 3, 0, 0, 0, 0), (24, 27, 26, 6, 2, 0, 132), (27, 28, 2, 2, 0, 0, 0), (28, 29, 32, 0, 0, 0, 0), (29, 30, 3, 0, 0, 0, 0), (30, 33, 27, 6, 6, 0, 144), (33, 34, 3, 0, 0, 0, 0), (34, 37, 26, 6, 2, 0, 132), (37, 38, 2, 3, 0, 0, 0), (38, 39, 32, 0, 0, 0, 0), (39, 40, 3, 0, 0, 0, 0), (40, 41, 19, 0, 0, 0, 0), (41, 44, 26, 6, 2, 0, 132), (44, 45, 0, 0, 0, 1, 0), (45, 46, 9, 0, 0, 0, 0), (46, 49, 28, 6, 2, 0, 132), (49, 50, 45, 0, 0, 0, 0)]
/-- 39: FlagSignals$Ship.startSignal()V -/
def fg_c39 : List fg_I := [(0, 1, 3, 0, 0, 0, 0), (1, 4, 26, 6, 3, 0, 136), (4, 6, 0, 0, 0, 10, 0), (6, 9, 24, 46, 3, 0, 0), (9, 10, 3, 0, 0, 0, 0), (10, 13, 27, 6, 7, 0, 146), (13, 14, 3, 0, 0, 0, 0), (14, 17, 26, 6, 3, 0, 136), (17, 18, 0, 0, 0, 0, 0), (18, 19, 32, 0, 0, 0, 0), (19, 20, 0, 0, 0, 0, 0), (20, 21, 5, 1, 0, 0, 0), (21, 22, 2, 1, 0, 0, 0), (22, 23, 0, 0, 0, 4, 0), (23, 26, 24, 46, 3, 0, 0), (26, 27, 3, 0, 0, 0, 0), (27, 30, 27, 6, 8, 0, 149), (30, 31, 3, 0, 0, 0, 0), (31, 34, 26, 6, 3, 0, 136), (34, 35, 0, 0, 0, 4, 0), (35, 36, 9, 0, 2, 0, 0), (36, 37, 2, 1, 0, 0, 0), (37, 38, 9, 0, 0, 0, 0), (38, 39, 0, 0, 0, (-1), 0), (39, 40, 32, 0, 0, 0, 0), (40, 43, 8, 1, 0, 1, 0), (43, 46, 22, 21, 0, 0, 0), (46, 47, 45, 0, 0, 0, 0)]
/-- 40: FlagSignals$Ship.addToSignal(I)V -/
def fg_c40 : List fg_I := [(0, 1, 3, 0, 0, 0, 0), (1, 4, 26, 6, 3, 0, 136), (4, 6, 0, 0, 0, 10, 0), (6, 9, 24, 57, 3, 0, 0), (9, 10, 3, 0, 0, 0, 0), (10, 13, 27, 6, 7, 0, 146), (13, 14, 3, 0, 0, 0, 0), (14, 17, 26, 6, 3, 0, 136), (17, 18, 31, 0, 0, 0, 0), (18, 19, 0, 0, 0, 4, 0), (19, 22, 24, 57, 3, 0, 0), (22, 23, 3, 0, 0, 0, 0), (23, 26, 27, 6, 8, 0, 149), (26, 27, 3, 0, 0, 0, 0), (27, 30, 26, 6, 3, 0, 136), (30, 31, 0, 0, 0, 4, 0), (31, 32, 9, 0, 2, 0, 0), (32, 33, 3, 0, 0, 0, 0), (33, 36, 27, 6, 7, 0, 146), (36, 37, 3, 0, 0, 0, 0), (37, 40, 26, 6, 3, 0, 136), (40, 41, 31, 0, 0, 0, 0), (41, 42, 9, 0, 0, 0, 0), (42, 43, 2, 1, 0, 0, 0), (43, 44, 32, 0, 0, 0, 0), (44, 45, 3, 0, 0, 0, 0), (45, 48, 27, 6, 7, 0, 146), (48, 49, 3, 0, 0, 0, 0), (49, 52, 26, 6, 3, 0, 136), (52, 53, 21, 0, 0, 0, 0), (53, 54, 31, 0, 0, 0, 0), (54, 55, 0, 0, 0, 1, 0), (55, 56, 9, 0, 0, 0, 0), (56, 57, 32, 0, 0, 0, 0), (57, 58, 45, 0, 0, 0, 0)]
/-- 41: FlagSignals$Ship.endSignal()V -/
def fg_c41 : List fg_I := [(0, 1, 3, 0, 0, 0, 0), (1, 4, 26, 6, 3, 0, 136), (4, 6, 0, 0, 0, 10, 0), (6, 9, 24, 19, 3, 0, 0), (9, 10, 3, 0, 0, 0, 0), (10, 11, 19, 0, 0, 0, 0), (11, 14, 26, 6, 3, 0, 136), (14, 15, 0, 0, 0, 1, 0), (15, 16, 9, 0, 0, 0, 0), (16, 19, 28, 6, 3, 0, 136), (19, 20, 45, 0, 0, 0, 0)]
/-- 42: FlagSignals$Ship.flagAt(II)I -/
def fg_c42 : List fg_I := [(0, 1, 2, 1, 0, 0, 0), (1, 4, 23, 31, 2, 0, 0), (4, 5, 2, 1, 0, 0, 0), (5, 6, 3, 0, 0, 0, 0), (6, 9, 26, 6, 3, 0, 136), (9, 12, 24, 31, 3, 0, 0), (12, 13, 2, 1, 0, 0, 0), (13, 15, 0, 0, 0, 10, 0), (15, 18, 24, 31, 3, 0, 0), (18, 19, 2, 2, 0, 0, 0), (19, 22, 23, 31, 2, 0, 0), (22, 23, 2, 2, 0, 0, 0), (23, 24, 0, 0, 0, 4, 0), (24, 27, 24, 31, 3, 0, 0), (27, 28, 0, 0, 0, 1, 0), (28, 31, 22, 32, 0, 0, 0), (31, 32, 0, 0, 0, 0, 0), (32, 33, 5, 3, 0, 0, 0), (33, 34, 2, 3, 0, 0, 0), (34, 37, 23, 50, 0, 0, 0), (37, 38, 3, 0, 0, 0, 0), (38, 41, 27, 6, 8, 0, 149), (41, 42, 2, 1, 0, 0, 0), (42, 43, 0, 0, 0, 4, 0), (43, 44, 9, 0, 2, 0, 0), (44, 45, 2, 2, 0, 0, 0), (45, 46, 9, 0, 0, 0, 0), (46, 47, 31, 0, 0, 0, 0), (47, 50, 22, 51, 0, 0, 0), (50, 51, 0, 0, 0, (-1), 0), (51, 52, 43, 0, 0, 0, 0)]
/-- 43: FlagSignals$Ship.signalsWith(I)I -/
def fg_c43 : List fg_I := [(0, 1, 0, 0, 0, 0, 0), (1, 2, 5, 2, 0, 0, 0), (2, 3, 0, 0, 0, 0, 0), (3, 4, 5, 3, 0, 0, 0), (4, 5, 2, 3, 0, 0, 0), (5, 6, 3, 0, 0, 0, 0), (6, 9, 26, 6, 3, 0, 136), (9, 12, 24, 50, 3, 0, 0), (12, 13, 0, 0, 0, 0, 0), (13, 15, 5, 4, 0, 0, 0), (15, 17, 2, 4, 0, 0, 0), (17, 18, 0, 0, 0, 4, 0), (18, 21, 24, 44, 3, 0, 0), (21, 22, 3, 0, 0, 0, 0), (22, 23, 2, 3, 0, 0, 0), (23, 25, 2, 4, 0, 0, 0), (25, 28, 37, 42, 2, 0, 623), (28, 29, 2, 1, 0, 0, 0), (29, 32, 24, 38, 1, 0, 0), (32, 33, 2, 2, 0, 0, 0), (33, 34, 0, 0, 0, 1, 0), (34, 35, 2, 3, 0, 0, 0), (35, 36, 9, 0, 6, 0, 0), (36, 37, 9, 0, 4, 0, 0), (37, 38, 5, 2, 0, 0, 0), (38, 41, 8, 4, 0, 1, 0), (41, 44, 22, 15, 0, 0, 0), (44, 47, 8, 3, 0, 1, 0), (47, 50, 22, 4, 0, 0, 0), (50, 51, 2, 2, 0, 0, 0), (51, 52, 43, 0, 0, 0, 0)]
/-- 44: FlagSignals$Text.append(I)Z -/
def fg_c44 : List fg_I := [(0, 1, 3, 0, 0, 0, 0), (1, 4, 26, 7, 1, 0, 102), (4, 5, 3, 0, 0, 0, 0), (5, 8, 27, 7, 0, 0, 101), (8, 9, 36, 0, 0, 0, 0), (9, 12, 24, 14, 2, 0, 0), (12, 13, 0, 0, 0, 0, 0), (13, 14, 44, 0, 0, 0, 0), (14, 15, 3, 0, 0, 0, 0), (15, 18, 27, 7, 0, 0, 101), (18, 19, 3, 0, 0, 0, 0), (19, 22, 26, 7, 1, 0, 102), (22, 23, 2, 1, 0, 0, 0), (23, 24, 32, 0, 0, 0, 0), (24, 25, 3, 0, 0, 0, 0), (25, 26, 19, 0, 0, 0, 0), (26, 29, 26, 7, 1, 0, 102), (29, 30, 0, 0, 0, 1, 0), (30, 31, 9, 0, 0, 0, 0), (31, 34, 28, 7, 1, 0, 102), (34, 35, 0, 0, 0, 1, 0), (35, 36, 44, 0, 0, 0, 0)]
/-- 45: FlagSignals$Text.parseInto(LFlagSignals$Ship;)I -/
def fg_c45 : List fg_I := [(0, 1, 3, 1, 0, 0, 0), (1, 4, 38, 29, 0, 0, 418), (4, 5, 3, 0, 0, 0, 0), (5, 6, 0, 0, 0, 0, 0), (6, 9, 28, 7, 2, 0, 104), (9, 10, 3, 0, 0, 0, 0), (10, 11, 0, 0, 0, 0, 0), (11, 14, 28, 7, 3, 0, 105), (14, 15, 3, 0, 0, 0, 0), (15, 16, 0, 0, 0, (-1), 0), (16, 19, 28, 7, 4, 0, 106), (19, 20, 3, 0, 0, 0, 0), (20, 23, 37, 46, 0, 0, 422), (23, 24, 0, 0, 0, (-1), 0), (24, 27, 24, 29, 1, 0, 0), (27, 28, 0, 0, 0, 0, 0), (28, 29, 43, 0, 0, 0, 0), (29, 30, 3, 0, 0, 0, 0), (30, 31, 3, 1, 0, 0, 0), (31, 34, 38, 48, 1, 0, 426), (34, 35, 0, 0, 0, 0, 0), (35, 36, 5, 2, 0, 0, 0), (36, 37, 2, 2, 0, 0, 0), (37, 40, 0, 0, 0, 240, 0), (40, 43, 24, 72, 3, 0, 0), (43, 44, 3, 0, 0, 0, 0), (44, 47, 26, 7, 3, 0, 105), (47, 50, 23, 72, 1, 0, 0), (50, 51, 3, 0, 0, 0, 0), (51, 54, 37, 46, 0, 0, 422), (54, 55, 0, 0, 0, (-1), 0), (55, 58, 24, 61, 1, 0, 0), (58, 61, 22, 72, 0, 0, 0), (61, 62, 3, 0, 0, 0, 0), (62, 63, 3, 1, 0, 0, 0), (63, 66, 38, 49, 1, 0, 442), (66, 69, 8, 2, 0, 1, 0), (69, 72, 22, 36, 0, 0, 0), (72, 73, 3, 0, 0, 0, 0), (73, 76, 26, 7, 3, 0, 105), (76, 77, 43, 0, 0, 0, 0)]
/-- 46: FlagSignals$Text.nextLetter()I -/
def fg_c46 : List fg_I := [(0, 1, 3, 0, 0, 0, 0), (1, 4, 26, 7, 2, 0, 104), (4, 5, 3, 0, 0, 0, 0), (5, 8, 26, 7, 1, 0, 102), (8, 11, 24, 38, 3, 0, 0), (11, 12, 3, 0, 0, 0, 0), (12, 15, 27, 7, 0, 0, 101), (15, 16, 3, 0, 0, 0, 0), (16, 19, 26, 7, 2, 0, 104), (19, 20, 31, 0, 0, 0, 0), (20, 22, 0, 0, 0, 32, 0), (22, 25, 24, 38, 1, 0, 0), (25, 26, 3, 0, 0, 0, 0), (26, 27, 19, 0, 0, 0, 0), (27, 30, 26, 7, 2, 0, 104), (30, 31, 0, 0, 0, 1, 0), (31, 32, 9, 0, 0, 0, 0), (32, 35, 28, 7, 2, 0, 104), (35, 38, 22, 0, 0, 0, 0), (38, 39, 3, 0, 0, 0, 0), (39, 42, 26, 7, 2, 0, 104), (42, 43, 3, 0, 0, 0, 0), (43, 46, 26, 7, 1, 0, 102), (46, 49, 24, 61, 3, 0, 0), (49, 50, 3, 0, 0, 0, 0), (50, 53, 27, 7, 0, 0, 101), (53, 54, 3, 0, 0, 0, 0), (54, 57, 26, 7, 2, 0, 104), (57, 58, 31, 0, 0, 0, 0), (58, 61, 22, 62, 0, 0, 0), (61, 62, 0, 0, 0, (-1), 0), (62, 63, 43, 0, 0, 0, 0)]
/-- 47: FlagSignals$Text.blame(II)V -/
def fg_c47 : List fg_I := [(0, 1, 3, 0, 0, 0, 0), (1, 4, 26, 7, 3, 0, 105), (4, 7, 23, 17, 1, 0, 0), (7, 8, 3, 0, 0, 0, 0), (8, 9, 2, 1, 0, 0, 0), (9, 12, 28, 7, 3, 0, 105), (12, 13, 3, 0, 0, 0, 0), (13, 14, 2, 2, 0, 0, 0), (14, 17, 28, 7, 4, 0, 106), (17, 18, 45, 0, 0, 0, 0)]
/-- 48: FlagSignals$Text.parseLines(LFlagSignals$Ship;)V -/
def fg_c48 : List fg_I := [(0, 1, 3, 0, 0, 0, 0), (1, 3, 0, 0, 0, 108, 0), (3, 6, 38, 52, 1, 0, 430), (6, 7, 3, 0, 0, 0, 0), (7, 8, 0, 0, 0, 1, 0), (8, 9, 0, 0, 0, 3, 0), (9, 12, 37, 53, 2, 0, 438), (12, 13, 5, 2, 0, 0, 0), (13, 14, 3, 0, 0, 0, 0), (14, 15, 0, 0, 0, 0, 0), (15, 16, 0, 0, 0, 3, 0), (16, 19, 37, 53, 2, 0, 438), (19, 20, 5, 3, 0, 0, 0), (20, 21, 3, 0, 0, 0, 0), (21, 23, 0, 0, 0, 59, 0), (23, 26, 38, 52, 1, 0, 430), (26, 27, 3, 0, 0, 0, 0), (27, 30, 26, 7, 3, 0, 105), (30, 33, 23, 43, 1, 0, 0), (33, 34, 3, 1, 0, 0, 0), (34, 35, 2, 2, 0, 0, 0), (35, 38, 28, 6, 0, 0, 128), (38, 39, 3, 1, 0, 0, 0), (39, 40, 2, 3, 0, 0, 0), (40, 43, 28, 6, 1, 0, 131), (43, 44, 45, 0, 0, 0, 0)]
/-- 49: FlagSignals$Text.parseClause(LFlagSignals$Ship;)V -/
def fg_c49 : List fg_I := [(0, 1, 3, 0, 0, 0, 0), (1, 4, 37, 46, 0, 0, 422), (4, 5, 5, 2, 0, 0, 0), (5, 6, 2, 2, 0, 0, 0), (6, 8, 0, 0, 0, 102, 0), (8, 11, 24, 19, 1, 0, 0), (11, 12, 3, 0, 0, 0, 0), (12, 13, 3, 1, 0, 0, 0), (13, 16, 38, 50, 1, 0, 446), (16, 19, 22, 52, 0, 0, 0), (19, 20, 2, 2, 0, 0, 0), (20, 22, 0, 0, 0, 101, 0), (22, 25, 24, 33, 1, 0, 0), (25, 26, 3, 0, 0, 0, 0), (26, 27, 3, 1, 0, 0, 0), (27, 30, 38, 51, 1, 0, 454), (30, 33, 22, 52, 0, 0, 0), (33, 34, 3, 0, 0, 0, 0), (34, 35, 2, 2, 0, 0, 0), (35, 37, 0, 0, 0, 108, 0), (37, 40, 24, 44, 1, 0, 0), (40, 41, 0, 0, 0, 3, 0), (41, 44, 22, 45, 0, 0, 0), (44, 45, 0, 0, 0, 1, 0), (45, 46, 3, 0, 0, 0, 0), (46, 49, 26, 7, 2, 0, 104), (49, 52, 38, 47, 2, 0, 434), (52, 53, 45, 0, 0, 0, 0)]
/-- 50: FlagSignals$Text.parseFlag(LFlagSignals$Ship;)V -/
def fg_c50 : List fg_I := [(0, 1, 3, 1, 0, 0, 0), (1, 4, 26, 6, 2, 0, 134), (4, 6, 0, 0, 0, 10, 0), (6, 9, 24, 18, 2, 0, 0), (9, 10, 3, 0, 0, 0, 0), (10, 11, 0, 0, 0, 3, 0), (11, 12, 3, 0, 0, 0, 0), (12, 15, 26, 7, 2, 0, 104), (15, 18, 38, 47, 2, 0, 434), (18, 19, 3, 0, 0, 0, 0), (19, 21, 0, 0, 0, 102, 0), (21, 24, 38, 52, 1, 0, 430), (24, 25, 3, 0, 0, 0, 0), (25, 26, 0, 0, 0, 0, 0), (26, 27, 0, 0, 0, 3, 0), (27, 30, 37, 53, 2, 0, 438), (30, 31, 5, 2, 0, 0, 0), (31, 32, 3, 0, 0, 0, 0), (32, 33, 0, 0, 0, 0, 0), (33, 34, 0, 0, 0, 4, 0), (34, 37, 37, 53, 2, 0, 438), (37, 38, 5, 3, 0, 0, 0), (38, 39, 3, 0, 0, 0, 0), (39, 40, 0, 0, 0, 0, 0), (40, 41, 0, 0, 0, 4, 0), (41, 44, 37, 53, 2, 0, 438), (44, 46, 5, 4, 0, 0, 0), (46, 47, 3, 0, 0, 0, 0), (47, 49, 0, 0, 0, 59, 0), (49, 52, 38, 52, 1, 0, 430), (52, 53, 3, 0, 0, 0, 0), (53, 56, 26, 7, 3, 0, 105), (56, 59, 23, 67, 1, 0, 0), (59, 60, 3, 1, 0, 0, 0), (60, 61, 2, 2, 0, 0, 0), (61, 62, 2, 3, 0, 0, 0), (62, 64, 2, 4, 0, 0, 0), (64, 67, 38, 38, 3, 0, 450), (67, 68, 45, 0, 0, 0, 0)]
/-- 51: FlagSignals$Text.parseSignal(LFlagSignals$Ship;)V -/
def fg_c51 : List fg_I := [(0, 1, 3, 1, 0, 0, 0), (1, 4, 26, 6, 3, 0, 139), (4, 6, 0, 0, 0, 10, 0), (6, 9, 24, 18, 2, 0, 0), (9, 10, 3, 0, 0, 0, 0), (10, 11, 0, 0, 0, 3, 0), (11, 12, 3, 0, 0, 0, 0), (12, 15, 26, 7, 2, 0, 104), (15, 18, 38, 47, 2, 0, 434), (18, 19, 3, 0, 0, 0, 0), (19, 21, 0, 0, 0, 101, 0), (21, 24, 38, 52, 1, 0, 430), (24, 25, 3, 1, 0, 0, 0), (25, 28, 38, 39, 0, 0, 458), (28, 29, 3, 1, 0, 0, 0), (29, 30, 3, 0, 0, 0, 0), (30, 31, 0, 0, 0, 0, 0), (31, 32, 3, 1, 0, 0, 0), (32, 35, 26, 6, 2, 0, 134), (35, 36, 0, 0, 0, 1, 0), (36, 37, 9, 0, 1, 0, 0), (37, 40, 37, 53, 2, 0, 438), (40, 43, 38, 40, 1, 0, 462), (43, 44, 0, 0, 0, 1, 0), (44, 45, 5, 2, 0, 0, 0), (45, 46, 2, 2, 0, 0, 0), (46, 47, 0, 0, 0, 4, 0), (47, 50, 24, 86, 3, 0, 0), (50, 51, 3, 0, 0, 0, 0), (51, 54, 37, 46, 0, 0, 422), (54, 56, 0, 0, 0, 44, 0), (56, 59, 24, 86, 1, 0, 0), (59, 60, 3, 0, 0, 0, 0), (60, 62, 0, 0, 0, 44, 0), (62, 65, 38, 52, 1, 0, 430), (65, 66, 3, 1, 0, 0, 0), (66, 67, 3, 0, 0, 0, 0), (67, 68, 0, 0, 0, 0, 0), (68, 69, 3, 1, 0, 0, 0), (69, 72, 26, 6, 2, 0, 134), (72, 73, 0, 0, 0, 1, 0), (73, 74, 9, 0, 1, 0, 0), (74, 77, 37, 53, 2, 0, 438), (77, 80, 38, 40, 1, 0, 462), (80, 83, 8, 2, 0, 1, 0), (83, 86, 22, 45, 0, 0, 0), (86, 87, 3, 0, 0, 0, 0), (87, 89, 0, 0, 0, 59, 0), (89, 92, 38, 52, 1, 0, 430), (92, 93, 3, 0, 0, 0, 0), (93, 96, 26, 7, 3, 0, 105), (96, 99, 23, 103, 1, 0, 0), (99, 100, 3, 1, 0, 0, 0), (100, 103, 38, 41, 0, 0, 466), (103, 104, 45, 0, 0, 0, 0)]
/-- 52: FlagSignals$Text.pass(I)V -/
def fg_c52 : List fg_I := [(0, 1, 3, 0, 0, 0, 0), (1, 4, 26, 7, 3, 0, 105), (4, 7, 23, 8, 0, 0, 0), (7, 8, 45, 0, 0, 0, 0), (8, 9, 3, 0, 0, 0, 0), (9, 12, 37, 46, 0, 0, 422), (12, 13, 2, 1, 0, 0, 0), (13, 16, 24, 29, 1, 0, 0), (16, 17, 3, 0, 0, 0, 0), (17, 18, 19, 0, 0, 0, 0), (18, 21, 26, 7, 2, 0, 104), (21, 22, 0, 0, 0, 1, 0), (22, 23, 9, 0, 0, 0, 0), (23, 26, 28, 7, 2, 0, 104), (26, 29, 22, 38, 0, 0, 0), (29, 30, 3, 0, 0, 0, 0), (30, 31, 0, 0, 0, 1, 0), (31, 32, 3, 0, 0, 0, 0), (32, 35, 26, 7, 2, 0, 104), (35, 38, 38, 47, 2, 0, 434), (38, 39, 45, 0, 0, 0, 0)]
/-- 53: FlagSignals$Text.parseNumber(II)I -/
def fg_c53 : List fg_I := [(0, 1, 3, 0, 0, 0, 0), (1, 4, 26, 7, 3, 0, 105), (4, 7, 23, 9, 0, 0, 0), (7, 8, 0, 0, 0, 0, 0), (8, 9, 43, 0, 0, 0, 0), (9, 10, 3, 0, 0, 0, 0), (10, 13, 37, 46, 0, 0, 422), (13, 14, 20, 0, 0, 0, 0), (14, 15, 3, 0, 0, 0, 0), (15, 18, 26, 7, 2, 0, 104), (18, 19, 5, 3, 0, 0, 0), (19, 20, 0, 0, 0, 0, 0), (20, 22, 5, 4, 0, 0, 0), (22, 23, 3, 0, 0, 0, 0), (23, 26, 26, 7, 2, 0, 104), (26, 27, 3, 0, 0, 0, 0), (27, 30, 26, 7, 1, 0, 102), (30, 33, 24, 109, 3, 0, 0), (33, 34, 3, 0, 0, 0, 0), (34, 37, 27, 7, 0, 0, 101), (37, 38, 3, 0, 0, 0, 0), (38, 41, 26, 7, 2, 0, 104), (41, 42, 31, 0, 0, 0, 0), (42, 44, 0, 0, 0, 48, 0), (44, 47, 24, 109, 2, 0, 0), (47, 48, 3, 0, 0, 0, 0), (48, 51, 27, 7, 0, 0, 101), (51, 52, 3, 0, 0, 0, 0), (52, 55, 26, 7, 2, 0, 104), (55, 56, 31, 0, 0, 0, 0), (56, 58, 0, 0, 0, 57, 0), (58, 61, 24, 109, 4, 0, 0), (61, 62, 3, 0, 0, 0, 0), (62, 65, 26, 7, 2, 0, 104), (65, 66, 2, 3, 0, 0, 0), (66, 67, 9, 0, 1, 0, 0), (67, 68, 0, 0, 0, 3, 0), (68, 71, 24, 92, 3, 0, 0), (71, 73, 2, 4, 0, 0, 0), (73, 75, 0, 0, 0, 10, 0), (75, 76, 9, 0, 2, 0, 0), (76, 77, 3, 0, 0, 0, 0), (77, 80, 27, 7, 0, 0, 101), (80, 81, 3, 0, 0, 0, 0), (81, 84, 26, 7, 2, 0, 104), (84, 85, 31, 0, 0, 0, 0), (85, 86, 9, 0, 0, 0, 0), (86, 88, 0, 0, 0, 48, 0), (88, 89, 9, 0, 1, 0, 0), (89, 92, 22, 94, 0, 0, 0), (92, 94, 2, 4, 0, 0, 0), (94, 96, 5, 4, 0, 0, 0), (96, 97, 3, 0, 0, 0, 0), (97, 98, 19, 0, 0, 0, 0), (98, 101, 26, 7, 2, 0, 104), (101, 102, 0, 0, 0, 1, 0), (102, 103, 9, 0, 0, 0, 0), (103, 106, 28, 7, 2, 0, 104), (106, 109, 22, 22, 0, 0, 0), (109, 110, 3, 0, 0, 0, 0), (110, 113, 26, 7, 2, 0, 104), (113, 114, 2, 3, 0, 0, 0), (114, 117, 24, 126, 1, 0, 0), (117, 118, 3, 0, 0, 0, 0), (118, 119, 0, 0, 0, 1, 0), (119, 120, 2, 3, 0, 0, 0), (120, 123, 38, 47, 2, 0, 434), (123, 126, 22, 154, 0, 0, 0), (126, 127, 3, 0, 0, 0, 0), (127, 130, 26, 7, 2, 0, 104), (130, 131, 2, 3, 0, 0, 0), (131, 132, 9, 0, 1, 0, 0), (132, 133, 0, 0, 0, 3, 0), (133, 136, 24, 148, 4, 0, 0), (136, 138, 2, 4, 0, 0, 0), (138, 139, 2, 1, 0, 0, 0), (139, 142, 24, 148, 2, 0, 0), (142, 144, 2, 4, 0, 0, 0), (144, 145, 2, 2, 0, 0, 0), (145, 148, 24, 154, 5, 0, 0), (148, 149, 3, 0, 0, 0, 0), (149, 150, 0, 0, 0, 2, 0), (150, 151, 2, 3, 0, 0, 0), (151, 154, 38, 47, 2, 0, 434), (154, 156, 2, 4, 0, 0, 0), (156, 157, 43, 0, 0, 0, 0)]
/-- 54: FlagSignals$Watch.raiseAll(LFlagSignals$Ship;LFlagSignals$Locker;I)V -/
def fg_c54 : List fg_I := [(0, 1, 3, 0, 0, 0, 0), (1, 2, 0, 0, 0, 0, 0), (2, 5, 28, 8, 3, 0, 301), (5, 6, 0, 0, 0, 0, 0), (6, 8, 5, 4, 0, 0, 0), (8, 10, 2, 4, 0, 0, 0), (10, 11, 3, 1, 0, 0, 0), (11, 14, 26, 6, 3, 0, 137), (14, 17, 24, 103, 3, 0, 0), (17, 19, 2, 4, 0, 0, 0), (19, 21, 0, 0, 0, 10, 0), (21, 24, 24, 103, 3, 0, 0), (24, 25, 3, 2, 0, 0, 0), (25, 26, 3, 1, 0, 0, 0), (26, 29, 37, 36, 0, 0, 550), (29, 30, 2, 3, 0, 0, 0), (30, 31, 0, 0, 0, (-1), 0), (31, 32, 9, 0, 5, 0, 0), (32, 33, 9, 0, 3, 0, 0), (33, 34, 3, 1, 0, 0, 0), (34, 37, 37, 37, 0, 0, 551), (37, 40, 38, 13, 2, 0, 552), (40, 41, 3, 2, 0, 0, 0), (41, 42, 3, 1, 0, 0, 0), (42, 44, 2, 4, 0, 0, 0), (44, 47, 37, 14, 2, 0, 553), (47, 50, 23, 63, 0, 0, 0), (50, 51, 3, 0, 0, 0, 0), (51, 52, 19, 0, 0, 0, 0), (52, 55, 26, 8, 3, 0, 301), (55, 56, 0, 0, 0, 1, 0), (56, 58, 2, 4, 0, 0, 0), (58, 59, 9, 0, 6, 0, 0), (59, 60, 9, 0, 4, 0, 0), (60, 63, 28, 8, 3, 0, 301), (63, 64, 0, 0, 0, 0, 0), (64, 66, 5, 5, 0, 0, 0), (66, 68, 2, 5, 0, 0, 0), (68, 69, 0, 0, 0, 4, 0), (69, 72, 24, 97, 3, 0, 0), (72, 73, 3, 0, 0, 0, 0), (73, 76, 27, 8, 0, 0, 297), (76, 78, 2, 4, 0, 0, 0), (78, 79, 0, 0, 0, 4, 0), (79, 80, 9, 0, 2, 0, 0), (80, 82, 2, 5, 0, 0, 0), (82, 83, 9, 0, 0, 0, 0), (83, 84, 3, 2, 0, 0, 0), (84, 87, 27, 2, 2, 0, 282), (87, 89, 2, 5, 0, 0, 0), (89, 90, 31, 0, 0, 0, 0), (90, 91, 32, 0, 0, 0, 0), (91, 94, 8, 5, 0, 1, 0), (94, 97, 22, 66, 0, 0, 0), (97, 100, 8, 4, 0, 1, 0), (100, 103, 22, 8, 0, 0, 0), (103, 104, 45, 0, 0, 0, 0)]
/-- 55: FlagSignals$Watch.see(LFlagSignals$Ship;LFlagSignals$Deck;I)V -/
def fg_c55 : List fg_I := [(0, 1, 0, 0, 0, 0, 0), (1, 3, 5, 4, 0, 0, 0), (3, 5, 2, 4, 0, 0, 0), (5, 7, 0, 0, 0, 10, 0), (7, 10, 24, 35, 3, 0, 0), (10, 11, 3, 0, 0, 0, 0), (11, 14, 27, 8, 1, 0, 298), (14, 16, 2, 4, 0, 0, 0), (16, 17, 3, 2, 0, 0, 0), (17, 19, 2, 4, 0, 0, 0), (19, 20, 2, 3, 0, 0, 0), (20, 21, 0, 0, 0, 2, 0), (21, 22, 10, 0, 0, 0, 0), (22, 23, 2, 3, 0, 0, 0), (23, 24, 0, 0, 0, 2, 0), (24, 25, 11, 0, 0, 0, 0), (25, 28, 37, 5, 3, 0, 558), (28, 29, 32, 0, 0, 0, 0), (29, 32, 8, 4, 0, 1, 0), (32, 35, 22, 3, 0, 0, 0), (35, 36, 3, 0, 0, 0, 0), (36, 37, 3, 1, 0, 0, 0), (37, 38, 3, 0, 0, 0, 0), (38, 41, 26, 8, 3, 0, 301), (41, 44, 38, 56, 2, 0, 568), (44, 45, 45, 0, 0, 0, 0)]
/-- 56: FlagSignals$Watch.sign(LFlagSignals$Ship;I)V -/
def fg_c56 : List fg_I := [(0, 1, 0, 0, 0, 0, 0), (1, 2, 5, 3, 0, 0, 0), (2, 3, 2, 3, 0, 0, 0), (3, 4, 3, 1, 0, 0, 0), (4, 7, 26, 6, 3, 0, 137), (7, 10, 24, 79, 3, 0, 0), (10, 11, 2, 3, 0, 0, 0), (11, 13, 0, 0, 0, 10, 0), (13, 16, 24, 79, 3, 0, 0), (16, 17, 2, 2, 0, 0, 0), (17, 18, 2, 3, 0, 0, 0), (18, 21, 41, 87, 2, 0, 2), (21, 24, 23, 73, 0, 0, 0), (24, 25, 0, 0, 0, 0, 0), (25, 27, 5, 4, 0, 0, 0), (27, 28, 0, 0, 0, 0, 0), (28, 30, 5, 5, 0, 0, 0), (30, 32, 2, 5, 0, 0, 0), (32, 33, 0, 0, 0, 4, 0), (33, 36, 24, 65, 3, 0, 0), (36, 38, 2, 4, 0, 0, 0), (38, 40, 0, 0, 0, 8, 0), (40, 41, 9, 0, 6, 0, 0), (41, 42, 3, 0, 0, 0, 0), (42, 43, 3, 0, 0, 0, 0), (43, 46, 27, 8, 0, 0, 297), (46, 47, 2, 3, 0, 0, 0), (47, 48, 0, 0, 0, 4, 0), (48, 49, 9, 0, 2, 0, 0), (49, 51, 2, 5, 0, 0, 0), (51, 52, 9, 0, 0, 0, 0), (52, 53, 31, 0, 0, 0, 0), (53, 56, 37, 57, 1, 0, 573), (56, 57, 9, 0, 4, 0, 0), (57, 59, 5, 4, 0, 0, 0), (59, 62, 8, 5, 0, 1, 0), (62, 65, 22, 30, 0, 0, 0), (65, 66, 3, 0, 0, 0, 0), (66, 69, 27, 8, 2, 0, 300), (69, 70, 2, 3, 0, 0, 0), (70, 72, 2, 4, 0, 0, 0), (72, 73, 32, 0, 0, 0, 0), (73, 76, 8, 3, 0, 1, 0), (76, 79, 22, 2, 0, 0, 0), (79, 80, 45, 0, 0, 0, 0)]
/-- 57: FlagSignals$Watch.lookOfPiece(I)I -/
def fg_c57 : List fg_I := [(0, 1, 2, 1, 0, 0, 0), (1, 3, 0, 0, 0, 20, 0), (3, 6, 24, 15, 5, 0, 0), (6, 9, 0, 0, 0, 200, 0), (9, 10, 2, 1, 0, 0, 0), (10, 11, 9, 0, 0, 0, 0), (11, 13, 0, 0, 0, 20, 0), (13, 14, 9, 0, 1, 0, 0), (14, 15, 43, 0, 0, 0, 0), (15, 16, 2, 1, 0, 0, 0), (16, 19, 23, 34, 2, 0, 0), (19, 20, 2, 1, 0, 0, 0), (20, 22, 0, 0, 0, 10, 0), (22, 25, 24, 34, 3, 0, 0), (25, 26, 3, 0, 0, 0, 0), (26, 29, 27, 8, 1, 0, 298), (29, 30, 2, 1, 0, 0, 0), (30, 31, 31, 0, 0, 0, 0), (31, 34, 22, 37, 0, 0, 0), (34, 37, 0, 0, 0, 255, 0), (37, 38, 43, 0, 0, 0, 0)]
/-- 58: FlagSignals$Watch.likeOf(LFlagSignals$Ship;I)I -/
def fg_c58 : List fg_I := [(0, 1, 3, 1, 0, 0, 0), (1, 2, 2, 2, 0, 0, 0), (2, 5, 37, 33, 1, 0, 646), (5, 8, 23, 19, 0, 0, 0), (8, 9, 3, 0, 0, 0, 0), (9, 12, 26, 8, 3, 0, 301), (12, 13, 2, 2, 0, 0, 0), (13, 16, 41, 87, 2, 0, 2), (16, 19, 23, 21, 1, 0, 0), (19, 20, 0, 0, 0, 0, 0), (20, 21, 43, 0, 0, 0, 0), (21, 22, 0, 0, 0, 0, 0), (22, 23, 5, 3, 0, 0, 0), (23, 24, 0, 0, 0, 0, 0), (24, 26, 5, 4, 0, 0, 0), (26, 28, 2, 4, 0, 0, 0), (28, 29, 3, 1, 0, 0, 0), (29, 32, 26, 6, 3, 0, 137), (32, 35, 24, 83, 3, 0, 0), (35, 37, 2, 4, 0, 0, 0), (37, 39, 0, 0, 0, 10, 0), (39, 42, 24, 83, 3, 0, 0), (42, 43, 3, 0, 0, 0, 0), (43, 46, 26, 8, 3, 0, 301), (46, 48, 2, 4, 0, 0, 0), (48, 51, 41, 87, 2, 0, 2), (51, 54, 23, 77, 0, 0, 0), (54, 55, 3, 0, 0, 0, 0), (55, 58, 27, 8, 2, 0, 300), (58, 60, 2, 4, 0, 0, 0), (60, 61, 31, 0, 0, 0, 0), (61, 62, 3, 0, 0, 0, 0), (62, 65, 27, 8, 2, 0, 300), (65, 66, 2, 2, 0, 0, 0), (66, 67, 31, 0, 0, 0, 0), (67, 70, 24, 77, 1, 0, 0), (70, 71, 2, 3, 0, 0, 0), (71, 72, 0, 0, 0, 1, 0), (72, 74, 2, 4, 0, 0, 0), (74, 75, 9, 0, 6, 0, 0), (75, 76, 9, 0, 4, 0, 0), (76, 77, 5, 3, 0, 0, 0), (77, 80, 8, 4, 0, 1, 0), (80, 83, 22, 26, 0, 0, 0), (83, 84, 2, 3, 0, 0, 0), (84, 85, 43, 0, 0, 0, 0)]
/-- 59: FlagSignals$Watch.clearOnes(LFlagSignals$Ship;)I -/
def fg_c59 : List fg_I := [(0, 1, 0, 0, 0, 0, 0), (1, 2, 5, 2, 0, 0, 0), (2, 3, 0, 0, 0, 0, 0), (3, 4, 5, 3, 0, 0, 0), (4, 5, 2, 3, 0, 0, 0), (5, 6, 3, 1, 0, 0, 0), (6, 9, 26, 6, 3, 0, 137), (9, 12, 24, 89, 3, 0, 0), (12, 13, 2, 3, 0, 0, 0), (13, 15, 0, 0, 0, 10, 0), (15, 18, 24, 89, 3, 0, 0), (18, 19, 0, 0, 0, 0, 0), (19, 21, 5, 4, 0, 0, 0), (21, 23, 2, 4, 0, 0, 0), (23, 24, 2, 3, 0, 0, 0), (24, 27, 24, 83, 3, 0, 0), (27, 28, 3, 0, 0, 0, 0), (28, 31, 27, 8, 2, 0, 300), (31, 33, 2, 4, 0, 0, 0), (33, 34, 31, 0, 0, 0, 0), (34, 35, 3, 0, 0, 0, 0), (35, 38, 27, 8, 2, 0, 300), (38, 39, 2, 3, 0, 0, 0), (39, 40, 31, 0, 0, 0, 0), (40, 43, 24, 77, 1, 0, 0), (43, 44, 3, 0, 0, 0, 0), (44, 47, 26, 8, 3, 0, 301), (47, 48, 2, 3, 0, 0, 0), (48, 51, 41, 87, 2, 0, 2), (51, 54, 23, 77, 0, 0, 0), (54, 55, 3, 0, 0, 0, 0), (55, 58, 26, 8, 3, 0, 301), (58, 60, 2, 4, 0, 0, 0), (60, 63, 41, 87, 2, 0, 2), (63, 66, 23, 77, 0, 0, 0), (66, 67, 2, 2, 0, 0, 0), (67, 68, 0, 0, 0, 1, 0), (68, 69, 2, 3, 0, 0, 0), (69, 70, 9, 0, 6, 0, 0), (70, 71, 0, 0, 0, 1, 0), (71, 73, 2, 4, 0, 0, 0), (73, 74, 9, 0, 6, 0, 0), (74, 75, 9, 0, 4, 0, 0), (75, 76, 9, 0, 4, 0, 0), (76, 77, 5, 2, 0, 0, 0), (77, 80, 8, 4, 0, 1, 0), (80, 83, 22, 21, 0, 0, 0), (83, 86, 8, 3, 0, 1, 0), (86, 89, 22, 4, 0, 0, 0), (89, 90, 3, 0, 0, 0, 0), (90, 93, 26, 8, 3, 0, 301), (93, 94, 2, 2, 0, 0, 0), (94, 95, 0, 0, 0, (-1), 0), (95, 96, 9, 0, 5, 0, 0), (96, 97, 9, 0, 3, 0, 0), (97, 98, 43, 0, 0, 0, 0)]
/-- 60: FlagSignals.feed(I)I -/
def fg_c60 : List fg_I := [(0, 1, 2, 1, 0, 0, 0), (1, 4, 23, 11, 2, 0, 0), (4, 5, 2, 1, 0, 0, 0), (5, 8, 0, 0, 0, 255, 0), (8, 11, 24, 14, 5, 0, 0), (11, 13, 0, 0, 0, (-1000000002), 404), (13, 14, 43, 0, 0, 0, 0), (14, 15, 3, 0, 0, 0, 0), (15, 18, 27, 9, 0, 0, 360), (18, 19, 2, 1, 0, 0, 0), (19, 22, 37, 44, 1, 0, 405), (22, 25, 23, 35, 0, 0, 0), (25, 26, 3, 0, 0, 0, 0), (26, 29, 27, 9, 0, 0, 360), (29, 32, 26, 7, 1, 0, 103), (32, 35, 22, 37, 0, 0, 0), (35, 37, 0, 0, 0, (-1000000004), 409), (37, 38, 43, 0, 0, 0, 0)]
/-- 61: FlagSignals.ship()I -/
def fg_c61 : List fg_I := [(0, 1, 3, 0, 0, 0, 0), (1, 4, 27, 9, 0, 0, 360), (4, 5, 3, 0, 0, 0, 0), (5, 8, 27, 9, 2, 0, 362), (8, 11, 37, 45, 1, 0, 414), (11, 12, 5, 1, 0, 0, 0), (12, 13, 3, 0, 0, 0, 0), (13, 14, 3, 0, 0, 0, 0), (14, 17, 27, 9, 0, 0, 360), (17, 20, 26, 7, 4, 0, 107), (20, 23, 28, 9, 11, 0, 371), (23, 24, 3, 0, 0, 0, 0), (24, 27, 27, 9, 0, 0, 360), (27, 28, 0, 0, 0, 0, 0), (28, 31, 28, 7, 1, 0, 103), (31, 32, 2, 1, 0, 0, 0), (32, 35, 23, 40, 0, 0, 0), (35, 37, 0, 0, 0, (-10), 0), (37, 38, 2, 1, 0, 0, 0), (38, 39, 9, 0, 1, 0, 0), (39, 40, 43, 0, 0, 0, 0), (40, 41, 3, 0, 0, 0, 0), (41, 44, 27, 9, 2, 0, 362), (44, 45, 6, 2, 0, 0, 0), (45, 46, 3, 0, 0, 0, 0), (46, 47, 3, 0, 0, 0, 0), (47, 50, 27, 9, 1, 0, 361), (50, 53, 30, 9, 2, 0, 362), (53, 54, 3, 0, 0, 0, 0), (54, 55, 3, 2, 0, 0, 0), (55, 58, 30, 9, 1, 0, 361), (58, 59, 3, 0, 0, 0, 0), (59, 62, 27, 9, 3, 0, 363), (62, 63, 3, 0, 0, 0, 0), (63, 66, 27, 9, 1, 0, 361), (66, 69, 38, 0, 1, 0, 348), (69, 70, 3, 0, 0, 0, 0), (70, 73, 27, 9, 4, 0, 364), (73, 76, 38, 24, 0, 0, 470), (76, 77, 0, 0, 0, 0, 0), (77, 78, 5, 3, 0, 0, 0), (78, 79, 2, 3, 0, 0, 0), (79, 80, 3, 0, 0, 0, 0), (80, 83, 27, 9, 5, 0, 365), (83, 84, 36, 0, 0, 0, 0), (84, 87, 24, 103, 3, 0, 0), (87, 88, 3, 0, 0, 0, 0), (88, 91, 27, 9, 5, 0, 365), (91, 92, 2, 3, 0, 0, 0), (92, 93, 35, 0, 0, 0, 0), (93, 94, 0, 0, 0, 0, 0), (94, 97, 29, 1, 2, 0, 340), (97, 100, 8, 3, 0, 1, 0), (100, 103, 22, 78, 0, 0, 0), (103, 104, 3, 0, 0, 0, 0), (104, 107, 27, 9, 6, 0, 366), (107, 110, 38, 19, 0, 0, 474), (110, 111, 3, 0, 0, 0, 0), (111, 114, 27, 9, 1, 0, 361), (114, 117, 26, 6, 3, 0, 138), (117, 118, 43, 0, 0, 0, 0)]
/-- 62: FlagSignals.fault()I -/
def fg_c62 : List fg_I := [(0, 1, 3, 0, 0, 0, 0), (1, 4, 26, 9, 11, 0, 371), (4, 5, 43, 0, 0, 0, 0)]
/-- 63: FlagSignals.told(I)I -/
def fg_c63 : List fg_I := [(0, 1, 2, 1, 0, 0, 0), (1, 104, 25, 0, 0, 0, 0), (104, 105, 3, 0, 0, 0, 0), (105, 108, 27, 9, 1, 0, 361), (108, 111, 26, 6, 0, 0, 127), (111, 112, 43, 0, 0, 0, 0), (112, 113, 3, 0, 0, 0, 0), (113, 116, 27, 9, 1, 0, 361), (116, 119, 26, 6, 1, 0, 130), (119, 120, 43, 0, 0, 0, 0), (120, 121, 3, 0, 0, 0, 0), (121, 124, 27, 9, 1, 0, 361), (124, 127, 26, 6, 2, 0, 133), (127, 128, 43, 0, 0, 0, 0), (128, 129, 3, 0, 0, 0, 0), (129, 132, 27, 9, 1, 0, 361), (132, 135, 26, 6, 3, 0, 138), (135, 136, 43, 0, 0, 0, 0), (136, 137, 3, 0, 0, 0, 0), (137, 140, 27, 9, 0, 0, 360), (140, 143, 26, 7, 1, 0, 103), (143, 144, 43, 0, 0, 0, 0), (144, 145, 3, 0, 0, 0, 0), (145, 148, 27, 9, 3, 0, 363), (148, 151, 26, 0, 9, 0, 194), (151, 152, 43, 0, 0, 0, 0), (152, 153, 3, 0, 0, 0, 0), (153, 156, 27, 9, 3, 0, 363), (156, 159, 26, 0, 10, 0, 196), (159, 160, 43, 0, 0, 0, 0), (160, 161, 3, 0, 0, 0, 0), (161, 164, 27, 9, 3, 0, 363), (164, 167, 26, 0, 11, 0, 198), (167, 168, 43, 0, 0, 0, 0), (168, 169, 3, 0, 0, 0, 0), (169, 172, 27, 9, 3, 0, 363), (172, 173, 3, 0, 0, 0, 0), (173, 176, 27, 9, 1, 0, 361), (176, 179, 37, 3, 1, 0, 486), (179, 180, 43, 0, 0, 0, 0), (180, 181, 3, 0, 0, 0, 0), (181, 184, 27, 9, 3, 0, 363), (184, 187, 26, 0, 7, 0, 191), (187, 188, 43, 0, 0, 0, 0), (188, 189, 3, 0, 0, 0, 0), (189, 192, 37, 94, 0, 0, 494), (192, 193, 43, 0, 0, 0, 0), (193, 194, 3, 0, 0, 0, 0), (194, 197, 37, 96, 0, 0, 534), (197, 198, 43, 0, 0, 0, 0), (198, 199, 3, 0, 0, 0, 0), (199, 202, 37, 97, 0, 0, 581), (202, 203, 43, 0, 0, 0, 0), (203, 204, 3, 0, 0, 0, 0), (204, 207, 37, 100, 0, 0, 591), (207, 208, 43, 0, 0, 0, 0), (208, 209, 3, 0, 0, 0, 0), (209, 212, 37, 101, 0, 0, 615), (212, 213, 43, 0, 0, 0, 0), (213, 214, 3, 0, 0, 0, 0), (214, 217, 37, 102, 0, 0, 624), (217, 218, 43, 0, 0, 0, 0), (218, 219, 3, 0, 0, 0, 0), (219, 222, 27, 9, 6, 0, 366), (222, 225, 26, 3, 4, 0, 257), (225, 226, 43, 0, 0, 0, 0), (226, 227, 3, 0, 0, 0, 0), (227, 230, 37, 104, 0, 0, 634), (230, 233, 39, 195, 1, 0, 585), (233, 234, 43, 0, 0, 0, 0), (234, 235, 3, 0, 0, 0, 0), (235, 238, 37, 104, 0, 0, 634), (238, 239, 43, 0, 0, 0, 0), (239, 240, 3, 0, 0, 0, 0), (240, 243, 37, 105, 0, 0, 648), (243, 244, 43, 0, 0, 0, 0), (244, 245, 3, 0, 0, 0, 0), (245, 248, 27, 9, 6, 0, 366), (248, 251, 26, 3, 5, 0, 259), (251, 252, 43, 0, 0, 0, 0), (252, 253, 3, 0, 0, 0, 0), (253, 256, 27, 9, 4, 0, 364), (256, 259, 26, 4, 2, 0, 236), (259, 260, 43, 0, 0, 0, 0), (260, 262, 0, 0, 0, (-1000000002), 404), (262, 263, 43, 0, 0, 0, 0)]
/-- 64: FlagSignals.flag(II)I -/
def fg_c64 : List fg_I := [(0, 1, 3, 0, 0, 0, 0), (1, 4, 27, 9, 1, 0, 361), (4, 5, 2, 1, 0, 0, 0), (5, 8, 37, 32, 1, 0, 668), (8, 11, 23, 14, 1, 0, 0), (11, 13, 0, 0, 0, (-1000000001), 672), (13, 14, 43, 0, 0, 0, 0), (14, 15, 2, 2, 0, 0, 0), (15, 56, 25, 1, 0, 0, 0), (56, 57, 3, 0, 0, 0, 0), (57, 60, 27, 9, 3, 0, 363), (60, 63, 27, 0, 0, 0, 176), (63, 64, 2, 1, 0, 0, 0), (64, 65, 31, 0, 0, 0, 0), (65, 66, 43, 0, 0, 0, 0), (66, 67, 3, 0, 0, 0, 0), (67, 70, 27, 9, 3, 0, 363), (70, 73, 27, 0, 1, 0, 178), (73, 74, 2, 1, 0, 0, 0), (74, 75, 31, 0, 0, 0, 0), (75, 76, 43, 0, 0, 0, 0), (76, 77, 3, 0, 0, 0, 0), (77, 80, 27, 9, 3, 0, 363), (80, 83, 27, 0, 2, 0, 180), (83, 84, 2, 1, 0, 0, 0), (84, 85, 31, 0, 0, 0, 0), (85, 86, 43, 0, 0, 0, 0), (86, 87, 3, 0, 0, 0, 0), (87, 90, 27, 9, 3, 0, 363), (90, 93, 27, 0, 3, 0, 182), (93, 94, 2, 1, 0, 0, 0), (94, 95, 31, 0, 0, 0, 0), (95, 96, 43, 0, 0, 0, 0), (96, 97, 3, 0, 0, 0, 0), (97, 100, 27, 9, 3, 0, 363), (100, 103, 27, 0, 4, 0, 184), (103, 104, 2, 1, 0, 0, 0), (104, 105, 31, 0, 0, 0, 0), (105, 106, 43, 0, 0, 0, 0), (106, 107, 3, 0, 0, 0, 0), (107, 110, 27, 9, 3, 0, 363), (110, 113, 26, 0, 7, 0, 191), (113, 114, 2, 1, 0, 0, 0), (114, 117, 39, 87, 2, 0, 609), (117, 120, 23, 124, 0, 0, 0), (120, 121, 0, 0, 0, 1, 0), (121, 124, 22, 125, 0, 0, 0), (124, 125, 0, 0, 0, 0, 0), (125, 126, 43, 0, 0, 0, 0), (126, 127, 3, 0, 0, 0, 0), (127, 130, 27, 9, 3, 0, 363), (130, 131, 2, 1, 0, 0, 0), (131, 132, 3, 0, 0, 0, 0), (132, 135, 27, 9, 3, 0, 363), (135, 138, 26, 0, 10, 0, 196), (138, 139, 3, 0, 0, 0, 0), (139, 142, 27, 9, 3, 0, 363), (142, 145, 26, 0, 11, 0, 198), (145, 148, 37, 5, 3, 0, 673), (148, 149, 43, 0, 0, 0, 0), (149, 151, 0, 0, 0, (-1000000002), 404), (151, 152, 43, 0, 0, 0, 0)]
/-- 65: FlagSignals.signal(II)I -/
def fg_c65 : List fg_I := [(0, 1, 3, 0, 0, 0, 0), (1, 4, 27, 9, 1, 0, 361), (4, 5, 2, 1, 0, 0, 0), (5, 8, 37, 33, 1, 0, 678), (8, 11, 23, 14, 1, 0, 0), (11, 13, 0, 0, 0, (-1000000001), 672), (13, 14, 43, 0, 0, 0, 0), (14, 15, 2, 2, 0, 0, 0), (15, 18, 23, 24, 2, 0, 0), (18, 19, 2, 2, 0, 0, 0), (19, 21, 0, 0, 0, 6, 0), (21, 24, 24, 27, 5, 0, 0), (24, 26, 0, 0, 0, (-1000000002), 404), (26, 27, 43, 0, 0, 0, 0), (27, 28, 2, 2, 0, 0, 0), (28, 31, 23, 41, 1, 0, 0), (31, 32, 3, 0, 0, 0, 0), (32, 35, 27, 9, 1, 0, 361), (35, 38, 27, 6, 7, 0, 148), (38, 39, 2, 1, 0, 0, 0), (39, 40, 31, 0, 0, 0, 0), (40, 41, 43, 0, 0, 0, 0), (41, 42, 2, 2, 0, 0, 0), (42, 43, 0, 0, 0, 4, 0), (43, 46, 24, 58, 4, 0, 0), (46, 47, 3, 0, 0, 0, 0), (47, 50, 27, 9, 1, 0, 361), (50, 51, 2, 1, 0, 0, 0), (51, 52, 2, 2, 0, 0, 0), (52, 53, 0, 0, 0, 1, 0), (53, 54, 9, 0, 1, 0, 0), (54, 57, 37, 42, 2, 0, 679), (57, 58, 43, 0, 0, 0, 0), (58, 59, 2, 2, 0, 0, 0), (59, 60, 0, 0, 0, 5, 0), (60, 63, 24, 87, 1, 0, 0), (63, 64, 3, 0, 0, 0, 0), (64, 65, 3, 0, 0, 0, 0), (65, 68, 27, 9, 3, 0, 363), (68, 71, 37, 2, 0, 0, 538), (71, 74, 38, 95, 1, 0, 542), (74, 75, 3, 0, 0, 0, 0), (75, 78, 27, 9, 8, 0, 368), (78, 79, 3, 0, 0, 0, 0), (79, 82, 27, 9, 1, 0, 361), (82, 83, 2, 1, 0, 0, 0), (83, 86, 37, 58, 2, 0, 656), (86, 87, 43, 0, 0, 0, 0), (87, 88, 3, 0, 0, 0, 0), (88, 91, 27, 9, 3, 0, 363), (91, 92, 2, 1, 0, 0, 0), (92, 95, 37, 6, 1, 0, 680), (95, 96, 43, 0, 0, 0, 0)]
/-- 66: FlagSignals.line(II)I -/
def fg_c66 : List fg_I := [(0, 1, 3, 0, 0, 0, 0), (1, 4, 27, 9, 1, 0, 361), (4, 5, 2, 1, 0, 0, 0), (5, 8, 37, 31, 1, 0, 688), (8, 11, 23, 14, 1, 0, 0), (11, 13, 0, 0, 0, (-1000000001), 672), (13, 14, 43, 0, 0, 0, 0), (14, 15, 2, 2, 0, 0, 0), (15, 18, 23, 23, 2, 0, 0), (18, 19, 2, 2, 0, 0, 0), (19, 20, 0, 0, 0, 4, 0), (20, 23, 24, 26, 5, 0, 0), (23, 25, 0, 0, 0, (-1000000002), 404), (25, 26, 43, 0, 0, 0, 0), (26, 27, 2, 2, 0, 0, 0), (27, 30, 23, 42, 1, 0, 0), (30, 31, 3, 0, 0, 0, 0), (31, 34, 27, 9, 3, 0, 363), (34, 37, 27, 0, 5, 0, 187), (37, 38, 2, 1, 0, 0, 0), (38, 39, 31, 0, 0, 0, 0), (39, 42, 22, 57, 0, 0, 0), (42, 43, 3, 0, 0, 0, 0), (43, 46, 27, 9, 3, 0, 363), (46, 49, 27, 0, 6, 0, 189), (49, 50, 2, 1, 0, 0, 0), (50, 51, 0, 0, 0, 4, 0), (51, 52, 9, 0, 2, 0, 0), (52, 53, 2, 2, 0, 0, 0), (53, 54, 9, 0, 0, 0, 0), (54, 55, 0, 0, 0, 1, 0), (55, 56, 9, 0, 1, 0, 0), (56, 57, 31, 0, 0, 0, 0), (57, 58, 43, 0, 0, 0, 0)]
/-- 67: FlagSignals.needs(II)I -/
def fg_c67 : List fg_I := [(0, 1, 3, 0, 0, 0, 0), (1, 4, 27, 9, 1, 0, 361), (4, 5, 2, 1, 0, 0, 0), (5, 8, 37, 33, 1, 0, 678), (8, 11, 23, 14, 1, 0, 0), (11, 13, 0, 0, 0, (-1000000001), 672), (13, 14, 43, 0, 0, 0, 0), (14, 15, 2, 2, 0, 0, 0), (15, 16, 0, 0, 0, 1, 0), (16, 19, 24, 24, 2, 0, 0), (19, 20, 2, 2, 0, 0, 0), (20, 21, 0, 0, 0, 4, 0), (21, 24, 24, 27, 5, 0, 0), (24, 26, 0, 0, 0, (-1000000002), 404), (26, 27, 43, 0, 0, 0, 0), (27, 28, 3, 0, 0, 0, 0), (28, 31, 27, 9, 7, 0, 367), (31, 32, 3, 0, 0, 0, 0), (32, 35, 27, 9, 3, 0, 363), (35, 36, 3, 0, 0, 0, 0), (36, 39, 27, 9, 1, 0, 361), (39, 42, 37, 3, 1, 0, 486), (42, 43, 3, 0, 0, 0, 0), (43, 46, 27, 9, 3, 0, 363), (46, 47, 3, 0, 0, 0, 0), (47, 50, 27, 9, 1, 0, 361), (50, 53, 37, 4, 1, 0, 498), (53, 56, 38, 13, 2, 0, 506), (56, 57, 3, 0, 0, 0, 0), (57, 60, 27, 9, 7, 0, 367), (60, 61, 3, 0, 0, 0, 0), (61, 64, 27, 9, 1, 0, 361), (64, 65, 2, 1, 0, 0, 0), (65, 68, 37, 14, 2, 0, 510), (68, 69, 20, 0, 0, 0, 0), (69, 70, 3, 0, 0, 0, 0), (70, 73, 27, 9, 7, 0, 367), (73, 76, 27, 2, 2, 0, 283), (76, 77, 2, 2, 0, 0, 0), (77, 78, 0, 0, 0, 1, 0), (78, 79, 9, 0, 1, 0, 0), (79, 80, 31, 0, 0, 0, 0), (80, 81, 43, 0, 0, 0, 0)]
/-- 68: FlagSignals.hoist(II)I -/
def fg_c68 : List fg_I := [(0, 1, 3, 0, 0, 0, 0), (1, 4, 27, 9, 1, 0, 361), (4, 5, 2, 1, 0, 0, 0), (5, 8, 37, 31, 1, 0, 688), (8, 11, 23, 22, 0, 0, 0), (11, 12, 3, 0, 0, 0, 0), (12, 15, 27, 9, 1, 0, 361), (15, 16, 2, 2, 0, 0, 0), (16, 19, 37, 33, 1, 0, 678), (19, 22, 23, 25, 1, 0, 0), (22, 24, 0, 0, 0, (-1000000001), 672), (24, 25, 43, 0, 0, 0, 0), (25, 26, 3, 0, 0, 0, 0), (26, 27, 2, 1, 0, 0, 0), (27, 28, 2, 2, 0, 0, 0), (28, 31, 37, 88, 2, 0, 700), (31, 34, 23, 38, 1, 0, 0), (34, 37, 0, 0, 0, (-1000000003), 704), (37, 38, 43, 0, 0, 0, 0), (38, 39, 3, 0, 0, 0, 0), (39, 42, 27, 9, 4, 0, 364), (42, 43, 3, 0, 0, 0, 0), (43, 46, 27, 9, 3, 0, 363), (46, 49, 38, 22, 1, 0, 705), (49, 50, 3, 0, 0, 0, 0), (50, 53, 27, 9, 3, 0, 363), (53, 54, 2, 1, 0, 0, 0), (54, 55, 2, 2, 0, 0, 0), (55, 56, 3, 0, 0, 0, 0), (56, 59, 27, 9, 7, 0, 367), (59, 62, 27, 2, 2, 0, 283), (62, 65, 37, 9, 3, 0, 716), (65, 66, 43, 0, 0, 0, 0)]
/-- 69: FlagSignals.haul(I)I -/
def fg_c69 : List fg_I := [(0, 1, 3, 0, 0, 0, 0), (1, 4, 27, 9, 1, 0, 361), (4, 5, 2, 1, 0, 0, 0), (5, 8, 37, 31, 1, 0, 688), (8, 11, 23, 14, 1, 0, 0), (11, 13, 0, 0, 0, (-1000000001), 672), (13, 14, 43, 0, 0, 0, 0), (14, 15, 3, 0, 0, 0, 0), (15, 18, 27, 9, 3, 0, 363), (18, 21, 27, 0, 5, 0, 187), (21, 22, 2, 1, 0, 0, 0), (22, 23, 31, 0, 0, 0, 0), (23, 24, 0, 0, 0, (-1), 0), (24, 27, 24, 31, 1, 0, 0), (27, 30, 0, 0, 0, (-1000000003), 704), (30, 31, 43, 0, 0, 0, 0), (31, 32, 3, 0, 0, 0, 0), (32, 35, 27, 9, 4, 0, 364), (35, 36, 3, 0, 0, 0, 0), (36, 39, 27, 9, 3, 0, 363), (39, 42, 38, 22, 1, 0, 705), (42, 43, 3, 0, 0, 0, 0), (43, 46, 27, 9, 3, 0, 363), (46, 47, 2, 1, 0, 0, 0), (47, 50, 37, 10, 1, 0, 724), (50, 51, 43, 0, 0, 0, 0)]
/-- 70: FlagSignals.day(I)I -/
def fg_c70 : List fg_I := [(0, 1, 3, 0, 0, 0, 0), (1, 2, 2, 1, 0, 0, 0), (2, 5, 37, 89, 1, 0, 732), (5, 6, 5, 2, 0, 0, 0), (6, 7, 2, 2, 0, 0, 0), (7, 10, 23, 12, 0, 0, 0), (10, 11, 2, 2, 0, 0, 0), (11, 12, 43, 0, 0, 0, 0), (12, 13, 3, 0, 0, 0, 0), (13, 16, 27, 9, 4, 0, 364), (16, 17, 3, 0, 0, 0, 0), (17, 20, 27, 9, 3, 0, 363), (20, 23, 38, 22, 1, 0, 705), (23, 24, 0, 0, 0, 0, 0), (24, 25, 5, 3, 0, 0, 0), (25, 26, 2, 3, 0, 0, 0), (26, 27, 2, 1, 0, 0, 0), (27, 30, 24, 47, 3, 0, 0), (30, 31, 3, 0, 0, 0, 0), (31, 34, 27, 9, 3, 0, 363), (34, 35, 3, 0, 0, 0, 0), (35, 38, 27, 9, 1, 0, 361), (38, 41, 38, 12, 1, 0, 737), (41, 44, 8, 3, 0, 1, 0), (44, 47, 22, 25, 0, 0, 0), (47, 48, 3, 0, 0, 0, 0), (48, 51, 27, 9, 3, 0, 363), (51, 54, 26, 0, 7, 0, 191), (54, 55, 43, 0, 0, 0, 0)]
/-- 71: FlagSignals.sew(I)I -/
def fg_c71 : List fg_I := [(0, 1, 3, 0, 0, 0, 0), (1, 4, 27, 9, 1, 0, 361), (4, 5, 2, 1, 0, 0, 0), (5, 8, 37, 32, 1, 0, 668), (8, 11, 23, 14, 1, 0, 0), (11, 13, 0, 0, 0, (-1000000001), 672), (13, 14, 43, 0, 0, 0, 0), (14, 15, 3, 0, 0, 0, 0), (15, 18, 27, 9, 3, 0, 363), (18, 19, 2, 1, 0, 0, 0), (19, 22, 37, 7, 1, 0, 746), (22, 25, 23, 29, 1, 0, 0), (25, 28, 0, 0, 0, (-1000000003), 704), (28, 29, 43, 0, 0, 0, 0), (29, 30, 3, 0, 0, 0, 0), (30, 33, 27, 9, 4, 0, 364), (33, 34, 3, 0, 0, 0, 0), (34, 37, 27, 9, 3, 0, 363), (37, 40, 38, 22, 1, 0, 705), (40, 41, 3, 0, 0, 0, 0), (41, 44, 27, 9, 3, 0, 363), (44, 47, 27, 0, 3, 0, 182), (47, 48, 2, 1, 0, 0, 0), (48, 49, 31, 0, 0, 0, 0), (49, 50, 5, 2, 0, 0, 0), (50, 51, 3, 0, 0, 0, 0), (51, 54, 27, 9, 3, 0, 363), (54, 55, 2, 1, 0, 0, 0), (55, 58, 38, 8, 1, 0, 750), (58, 59, 2, 2, 0, 0, 0), (59, 60, 43, 0, 0, 0, 0)]
/-- 72: FlagSignals.anew(IIII)I -/
def fg_c72 : List fg_I := [(0, 1, 3, 0, 0, 0, 0), (1, 4, 27, 9, 1, 0, 361), (4, 5, 2, 1, 0, 0, 0), (5, 8, 37, 32, 1, 0, 668), (8, 11, 23, 14, 1, 0, 0), (11, 13, 0, 0, 0, (-1000000001), 672), (13, 14, 43, 0, 0, 0, 0), (14, 15, 2, 2, 0, 0, 0), (15, 18, 23, 43, 2, 0, 0), (18, 19, 2, 2, 0, 0, 0), (19, 20, 0, 0, 0, 3, 0), (20, 23, 24, 43, 4, 0, 0), (23, 24, 2, 3, 0, 0, 0), (24, 27, 23, 43, 2, 0, 0), (27, 28, 2, 3, 0, 0, 0), (28, 29, 0, 0, 0, 4, 0), (29, 32, 24, 43, 4, 0, 0), (32, 34, 2, 4, 0, 0, 0), (34, 37, 23, 43, 2, 0, 0), (37, 39, 2, 4, 0, 0, 0), (39, 40, 0, 0, 0, 4, 0), (40, 43, 24, 46, 5, 0, 0), (43, 45, 0, 0, 0, (-1000000002), 404), (45, 46, 43, 0, 0, 0, 0), (46, 47, 3, 0, 0, 0, 0), (47, 50, 27, 9, 3, 0, 363), (50, 53, 27, 0, 4, 0, 184), (53, 54, 2, 1, 0, 0, 0), (54, 55, 31, 0, 0, 0, 0), (55, 56, 0, 0, 0, (-1), 0), (56, 59, 24, 63, 0, 0, 0), (59, 62, 0, 0, 0, (-1000000003), 704), (62, 63, 43, 0, 0, 0, 0), (63, 64, 3, 0, 0, 0, 0), (64, 67, 27, 9, 4, 0, 364), (67, 68, 3, 0, 0, 0, 0), (68, 71, 27, 9, 3, 0, 363), (71, 74, 38, 22, 1, 0, 705), (74, 75, 3, 0, 0, 0, 0), (75, 78, 27, 9, 3, 0, 363), (78, 81, 27, 0, 0, 0, 176), (81, 82, 2, 1, 0, 0, 0), (82, 83, 2, 2, 0, 0, 0), (83, 84, 32, 0, 0, 0, 0), (84, 85, 3, 0, 0, 0, 0), (85, 88, 27, 9, 3, 0, 363), (88, 91, 27, 0, 1, 0, 178), (91, 92, 2, 1, 0, 0, 0), (92, 93, 2, 3, 0, 0, 0), (93, 94, 32, 0, 0, 0, 0), (94, 95, 3, 0, 0, 0, 0), (95, 98, 27, 9, 3, 0, 363), (98, 101, 27, 0, 2, 0, 180), (101, 102, 2, 1, 0, 0, 0), (102, 104, 2, 4, 0, 0, 0), (104, 105, 32, 0, 0, 0, 0), (105, 106, 3, 0, 0, 0, 0), (106, 109, 27, 9, 3, 0, 363), (109, 110, 2, 1, 0, 0, 0), (110, 113, 38, 8, 1, 0, 750), (113, 114, 3, 0, 0, 0, 0), (114, 117, 37, 96, 0, 0, 534), (117, 118, 43, 0, 0, 0, 0)]
/-- 73: FlagSignals.weather(IZ)I -/
def fg_c73 : List fg_I := [(0, 1, 2, 1, 0, 0, 0), (1, 4, 23, 9, 2, 0, 0), (4, 5, 2, 1, 0, 0, 0), (5, 6, 0, 0, 0, 2, 0), (6, 9, 24, 12, 5, 0, 0), (9, 11, 0, 0, 0, (-1000000002), 404), (11, 12, 43, 0, 0, 0, 0), (12, 13, 2, 2, 0, 0, 0), (13, 16, 23, 20, 0, 0, 0), (16, 17, 0, 0, 0, 1, 0), (17, 20, 22, 21, 0, 0, 0), (20, 21, 0, 0, 0, 0, 0), (21, 22, 5, 3, 0, 0, 0), (22, 23, 3, 0, 0, 0, 0), (23, 26, 27, 9, 1, 0, 361), (26, 29, 37, 30, 0, 0, 736), (29, 32, 23, 54, 0, 0, 0), (32, 33, 3, 0, 0, 0, 0), (33, 36, 27, 9, 3, 0, 363), (36, 39, 26, 0, 10, 0, 196), (39, 40, 2, 1, 0, 0, 0), (40, 43, 24, 58, 1, 0, 0), (43, 44, 3, 0, 0, 0, 0), (44, 47, 27, 9, 3, 0, 363), (47, 50, 26, 0, 11, 0, 198), (50, 51, 2, 3, 0, 0, 0), (51, 54, 24, 58, 1, 0, 0), (54, 57, 0, 0, 0, (-1000000003), 704), (57, 58, 43, 0, 0, 0, 0), (58, 59, 3, 0, 0, 0, 0), (59, 62, 27, 9, 4, 0, 364), (62, 63, 3, 0, 0, 0, 0), (63, 66, 27, 9, 3, 0, 363), (66, 69, 38, 22, 1, 0, 705), (69, 70, 3, 0, 0, 0, 0), (70, 73, 27, 9, 3, 0, 363), (73, 74, 2, 1, 0, 0, 0), (74, 77, 28, 0, 10, 0, 196), (77, 78, 3, 0, 0, 0, 0), (78, 81, 27, 9, 3, 0, 363), (81, 82, 2, 3, 0, 0, 0), (82, 85, 28, 0, 11, 0, 198), (85, 86, 3, 0, 0, 0, 0), (86, 89, 37, 96, 0, 0, 534), (89, 90, 43, 0, 0, 0, 0)]
/-- 74: FlagSignals.drift(I)I -/
def fg_c74 : List fg_I := [(0, 1, 3, 0, 0, 0, 0), (1, 2, 2, 1, 0, 0, 0), (2, 5, 37, 89, 1, 0, 732), (5, 6, 5, 2, 0, 0, 0), (6, 7, 2, 2, 0, 0, 0), (7, 10, 23, 12, 0, 0, 0), (10, 11, 2, 2, 0, 0, 0), (11, 12, 43, 0, 0, 0, 0), (12, 13, 3, 0, 0, 0, 0), (13, 16, 27, 9, 4, 0, 364), (16, 17, 3, 0, 0, 0, 0), (17, 20, 27, 9, 3, 0, 363), (20, 23, 38, 22, 1, 0, 705), (23, 24, 0, 0, 0, 0, 0), (24, 25, 5, 3, 0, 0, 0), (25, 26, 2, 3, 0, 0, 0), (26, 27, 2, 1, 0, 0, 0), (27, 30, 24, 51, 3, 0, 0), (30, 31, 3, 0, 0, 0, 0), (31, 34, 38, 91, 0, 0, 766), (34, 35, 3, 0, 0, 0, 0), (35, 38, 27, 9, 3, 0, 363), (38, 39, 3, 0, 0, 0, 0), (39, 42, 27, 9, 1, 0, 361), (42, 45, 38, 12, 1, 0, 737), (45, 48, 8, 3, 0, 1, 0), (48, 51, 22, 25, 0, 0, 0), (51, 52, 3, 0, 0, 0, 0), (52, 55, 27, 9, 3, 0, 363), (55, 58, 26, 0, 7, 0, 191), (58, 59, 43, 0, 0, 0, 0)]
/-- 75: FlagSignals.undo()I -/
def fg_c75 : List fg_I := [(0, 1, 3, 0, 0, 0, 0), (1, 4, 27, 9, 4, 0, 364), (4, 7, 26, 4, 2, 0, 236), (7, 10, 23, 14, 1, 0, 0), (10, 13, 0, 0, 0, (-1000000003), 704), (13, 14, 43, 0, 0, 0, 0), (14, 15, 3, 0, 0, 0, 0), (15, 18, 27, 9, 4, 0, 364), (18, 19, 3, 0, 0, 0, 0), (19, 22, 27, 9, 3, 0, 363), (22, 25, 38, 23, 1, 0, 790), (25, 26, 3, 0, 0, 0, 0), (26, 29, 27, 9, 4, 0, 364), (29, 32, 26, 4, 2, 0, 236), (32, 33, 43, 0, 0, 0, 0)]
/-- 76: FlagSignals.look(IIZ)I -/
def fg_c76 : List fg_I := [(0, 1, 3, 0, 0, 0, 0), (1, 4, 27, 9, 1, 0, 361), (4, 5, 2, 1, 0, 0, 0), (5, 8, 37, 32, 1, 0, 668), (8, 11, 23, 14, 1, 0, 0), (11, 13, 0, 0, 0, (-1000000001), 672), (13, 14, 43, 0, 0, 0, 0), (14, 15, 2, 2, 0, 0, 0), (15, 18, 23, 23, 2, 0, 0), (18, 19, 2, 2, 0, 0, 0), (19, 20, 0, 0, 0, 2, 0), (20, 23, 24, 26, 5, 0, 0), (23, 25, 0, 0, 0, (-1000000002), 404), (25, 26, 43, 0, 0, 0, 0), (26, 27, 3, 0, 0, 0, 0), (27, 30, 27, 9, 3, 0, 363), (30, 31, 2, 1, 0, 0, 0), (31, 32, 2, 2, 0, 0, 0), (32, 33, 2, 3, 0, 0, 0), (33, 36, 23, 40, 0, 0, 0), (36, 37, 0, 0, 0, 1, 0), (37, 40, 22, 41, 0, 0, 0), (40, 41, 0, 0, 0, 0, 0), (41, 44, 37, 5, 3, 0, 673), (44, 45, 43, 0, 0, 0, 0)]
/-- 77: FlagSignals.together(I)I -/
def fg_c77 : List fg_I := [(0, 1, 3, 0, 0, 0, 0), (1, 4, 27, 9, 1, 0, 361), (4, 5, 2, 1, 0, 0, 0), (5, 8, 37, 34, 1, 0, 802), (8, 11, 23, 14, 1, 0, 0), (11, 13, 0, 0, 0, (-1000000001), 672), (13, 14, 43, 0, 0, 0, 0), (14, 15, 3, 0, 0, 0, 0), (15, 16, 2, 1, 0, 0, 0), (16, 19, 37, 98, 1, 0, 603), (19, 22, 23, 26, 0, 0, 0), (22, 23, 0, 0, 0, 1, 0), (23, 26, 22, 27, 0, 0, 0), (26, 27, 0, 0, 0, 0, 0), (27, 28, 43, 0, 0, 0, 0)]
/-- 78: FlagSignals.turns(II)I -/
def fg_c78 : List fg_I := [(0, 1, 3, 0, 0, 0, 0), (1, 4, 27, 9, 1, 0, 361), (4, 5, 2, 1, 0, 0, 0), (5, 8, 37, 34, 1, 0, 802), (8, 11, 23, 14, 1, 0, 0), (11, 13, 0, 0, 0, (-1000000001), 672), (13, 14, 43, 0, 0, 0, 0), (14, 15, 2, 2, 0, 0, 0), (15, 18, 23, 23, 2, 0, 0), (18, 19, 2, 2, 0, 0, 0), (19, 20, 0, 0, 0, 1, 0), (20, 23, 24, 26, 5, 0, 0), (23, 25, 0, 0, 0, (-1000000002), 404), (25, 26, 43, 0, 0, 0, 0), (26, 27, 2, 1, 0, 0, 0), (27, 30, 23, 40, 1, 0, 0), (30, 31, 2, 2, 0, 0, 0), (31, 34, 23, 38, 1, 0, 0), (34, 35, 0, 0, 0, 0, 0), (35, 38, 22, 39, 0, 0, 0), (38, 39, 0, 0, 0, (-1), 0), (39, 40, 43, 0, 0, 0, 0), (40, 41, 3, 0, 0, 0, 0), (41, 44, 27, 9, 8, 0, 368), (44, 45, 3, 0, 0, 0, 0), (45, 48, 27, 9, 1, 0, 361), (48, 49, 3, 0, 0, 0, 0), (49, 52, 27, 9, 7, 0, 367), (52, 53, 3, 0, 0, 0, 0), (53, 56, 27, 9, 3, 0, 363), (56, 59, 26, 0, 7, 0, 191), (59, 62, 38, 54, 3, 0, 546), (62, 63, 2, 1, 0, 0, 0), (63, 64, 3, 0, 0, 0, 0), (64, 67, 27, 9, 8, 0, 368), (67, 70, 26, 8, 3, 0, 302), (70, 71, 0, 0, 0, (-1), 0), (71, 72, 9, 0, 5, 0, 0), (72, 73, 9, 0, 3, 0, 0), (73, 76, 23, 78, 0, 0, 0), (76, 77, 0, 0, 0, (-1), 0), (77, 78, 43, 0, 0, 0, 0), (78, 79, 3, 0, 0, 0, 0), (79, 80, 2, 1, 0, 0, 0), (80, 83, 38, 99, 1, 0, 599), (83, 84, 3, 0, 0, 0, 0), (84, 87, 27, 9, 9, 0, 369), (87, 88, 2, 1, 0, 0, 0), (88, 91, 38, 26, 1, 0, 811), (91, 92, 2, 2, 0, 0, 0), (92, 95, 23, 107, 1, 0, 0), (95, 96, 3, 0, 0, 0, 0), (96, 99, 27, 9, 9, 0, 369), (99, 102, 27, 5, 1, 0, 321), (102, 103, 2, 1, 0, 0, 0), (103, 104, 31, 0, 0, 0, 0), (104, 107, 22, 115, 0, 0, 0), (107, 108, 3, 0, 0, 0, 0), (108, 111, 27, 9, 9, 0, 369), (111, 112, 2, 1, 0, 0, 0), (112, 115, 37, 28, 1, 0, 822), (115, 116, 43, 0, 0, 0, 0)]
/-- 79: FlagSignals.clear(II)I -/
def fg_c79 : List fg_I := [(0, 1, 2, 1, 0, 0, 0), (1, 4, 23, 20, 2, 0, 0), (4, 5, 2, 1, 0, 0, 0), (5, 7, 0, 0, 0, 60, 0), (7, 10, 24, 20, 4, 0, 0), (10, 11, 2, 2, 0, 0, 0), (11, 14, 23, 20, 2, 0, 0), (14, 15, 2, 2, 0, 0, 0), (15, 17, 0, 0, 0, 100, 0), (17, 20, 24, 23, 5, 0, 0), (20, 22, 0, 0, 0, (-1000000002), 404), (22, 23, 43, 0, 0, 0, 0), (23, 26, 1, 1000000000, 0, 0, 830), (26, 27, 7, 3, 0, 0, 0), (27, 28, 0, 0, 0, 0, 0), (28, 30, 5, 5, 0, 0, 0), (30, 32, 2, 5, 0, 0, 0), (32, 33, 2, 1, 0, 0, 0), (33, 36, 24, 51, 3, 0, 0), (36, 37, 4, 3, 0, 0, 0), (37, 38, 2, 2, 0, 0, 0), (38, 39, 13, 0, 0, 0, 0), (39, 40, 15, 0, 1, 0, 0), (40, 43, 1, 100, 0, 0, 831), (43, 44, 16, 0, 0, 0, 0), (44, 45, 7, 3, 0, 0, 0), (45, 48, 8, 5, 0, 1, 0), (48, 51, 22, 30, 0, 0, 0), (51, 52, 4, 3, 0, 0, 0), (52, 53, 14, 0, 0, 0, 0), (53, 54, 43, 0, 0, 0, 0)]
/-- 80: FlagSignals.read(II)I -/
def fg_c80 : List fg_I := [(0, 1, 3, 0, 0, 0, 0), (1, 4, 27, 9, 1, 0, 361), (4, 5, 2, 1, 0, 0, 0), (5, 8, 37, 33, 1, 0, 678), (8, 11, 23, 22, 0, 0, 0), (11, 12, 3, 0, 0, 0, 0), (12, 15, 27, 9, 1, 0, 361), (15, 16, 2, 2, 0, 0, 0), (16, 19, 37, 33, 1, 0, 678), (19, 22, 23, 25, 1, 0, 0), (22, 24, 0, 0, 0, (-1000000001), 672), (24, 25, 43, 0, 0, 0, 0), (25, 26, 3, 0, 0, 0, 0), (26, 29, 27, 9, 6, 0, 366), (29, 30, 2, 1, 0, 0, 0), (30, 31, 2, 2, 0, 0, 0), (31, 34, 37, 17, 2, 0, 836), (34, 37, 23, 47, 0, 0, 0), (37, 38, 3, 0, 0, 0, 0), (38, 41, 27, 9, 6, 0, 366), (41, 44, 26, 3, 4, 0, 257), (44, 47, 22, 49, 0, 0, 0), (47, 49, 0, 0, 0, (-1000000004), 409), (49, 50, 43, 0, 0, 0, 0)]
/-- 81: FlagSignals.write(II)I -/
def fg_c81 : List fg_I := [(0, 1, 3, 0, 0, 0, 0), (1, 4, 27, 9, 1, 0, 361), (4, 5, 2, 1, 0, 0, 0), (5, 8, 37, 31, 1, 0, 688), (8, 11, 23, 27, 0, 0, 0), (11, 12, 2, 2, 0, 0, 0), (12, 13, 0, 0, 0, (-1), 0), (13, 16, 24, 30, 0, 0, 0), (16, 17, 3, 0, 0, 0, 0), (17, 20, 27, 9, 1, 0, 361), (20, 21, 2, 2, 0, 0, 0), (21, 24, 37, 33, 1, 0, 678), (24, 27, 23, 30, 1, 0, 0), (27, 29, 0, 0, 0, (-1000000001), 672), (29, 30, 43, 0, 0, 0, 0), (30, 31, 3, 0, 0, 0, 0), (31, 34, 27, 9, 6, 0, 366), (34, 35, 2, 1, 0, 0, 0), (35, 36, 2, 2, 0, 0, 0), (36, 39, 37, 18, 2, 0, 844), (39, 42, 23, 52, 0, 0, 0), (42, 43, 3, 0, 0, 0, 0), (43, 46, 27, 9, 6, 0, 366), (46, 49, 26, 3, 5, 0, 259), (49, 52, 22, 54, 0, 0, 0), (52, 54, 0, 0, 0, (-1000000004), 409), (54, 55, 43, 0, 0, 0, 0)]
/-- 82: FlagSignals.tear()I -/
def fg_c82 : List fg_I := [(0, 1, 3, 0, 0, 0, 0), (1, 4, 27, 9, 6, 0, 366), (4, 7, 26, 3, 4, 0, 257), (7, 8, 3, 0, 0, 0, 0), (8, 11, 27, 9, 6, 0, 366), (11, 14, 26, 3, 5, 0, 259), (14, 15, 9, 0, 0, 0, 0), (15, 16, 5, 1, 0, 0, 0), (16, 17, 3, 0, 0, 0, 0), (17, 20, 27, 9, 6, 0, 366), (20, 23, 38, 19, 0, 0, 474), (23, 24, 2, 1, 0, 0, 0), (24, 25, 43, 0, 0, 0, 0)]
/-- 83: FlagSignals.judge()I -/
def fg_c83 : List fg_I := [(0, 1, 3, 0, 0, 0, 0), (1, 4, 27, 9, 6, 0, 366), (4, 5, 3, 0, 0, 0, 0), (5, 8, 27, 9, 3, 0, 363), (8, 11, 37, 21, 1, 0, 856), (11, 12, 43, 0, 0, 0, 0)]
/-- 84: FlagSignals.seed(I)I -/
def fg_c84 : List fg_I := [(0, 1, 2, 1, 0, 0, 0), (1, 4, 23, 7, 3, 0, 0), (4, 6, 0, 0, 0, (-1000000002), 404), (6, 7, 43, 0, 0, 0, 0), (7, 8, 3, 0, 0, 0, 0), (8, 11, 26, 9, 12, 0, 372), (11, 12, 5, 2, 0, 0, 0), (12, 13, 3, 0, 0, 0, 0), (13, 14, 2, 1, 0, 0, 0), (14, 17, 28, 9, 12, 0, 372), (17, 18, 2, 2, 0, 0, 0), (18, 19, 43, 0, 0, 0, 0)]
/-- 85: FlagSignals.keep(I)I -/
def fg_c85 : List fg_I := [(0, 1, 2, 1, 0, 0, 0), (1, 4, 23, 13, 2, 0, 0), (4, 5, 2, 1, 0, 0, 0), (5, 6, 3, 0, 0, 0, 0), (6, 9, 27, 9, 5, 0, 365), (9, 10, 36, 0, 0, 0, 0), (10, 13, 24, 16, 2, 0, 0), (13, 15, 0, 0, 0, (-1000000001), 672), (15, 16, 43, 0, 0, 0, 0), (16, 17, 3, 0, 0, 0, 0), (17, 20, 27, 9, 5, 0, 365), (20, 21, 2, 1, 0, 0, 0), (21, 22, 35, 0, 0, 0, 0), (22, 25, 27, 1, 0, 0, 336), (25, 26, 3, 0, 0, 0, 0), (26, 29, 27, 9, 3, 0, 363), (29, 32, 38, 1, 1, 0, 868), (32, 33, 3, 0, 0, 0, 0), (33, 36, 27, 9, 5, 0, 365), (36, 37, 2, 1, 0, 0, 0), (37, 38, 35, 0, 0, 0, 0), (38, 39, 3, 0, 0, 0, 0), (39, 42, 26, 9, 12, 0, 372), (42, 45, 28, 1, 1, 0, 338), (45, 46, 3, 0, 0, 0, 0), (46, 49, 27, 9, 5, 0, 365), (49, 50, 2, 1, 0, 0, 0), (50, 51, 35, 0, 0, 0, 0), (51, 52, 0, 0, 0, 1, 0), (52, 55, 29, 1, 2, 0, 340), (55, 56, 3, 0, 0, 0, 0), (56, 59, 27, 9, 4, 0, 364), (59, 62, 38, 24, 0, 0, 470), (62, 63, 0, 0, 0, 1, 0), (63, 64, 43, 0, 0, 0, 0)]
/-- 86: FlagSignals.goBack(I)I -/
def fg_c86 : List fg_I := [(0, 1, 2, 1, 0, 0, 0), (1, 4, 23, 13, 2, 0, 0), (4, 5, 2, 1, 0, 0, 0), (5, 6, 3, 0, 0, 0, 0), (6, 9, 27, 9, 5, 0, 365), (9, 10, 36, 0, 0, 0, 0), (10, 13, 24, 16, 2, 0, 0), (13, 15, 0, 0, 0, (-1000000001), 672), (15, 16, 43, 0, 0, 0, 0), (16, 17, 3, 0, 0, 0, 0), (17, 20, 27, 9, 5, 0, 365), (20, 21, 2, 1, 0, 0, 0), (21, 22, 35, 0, 0, 0, 0), (22, 25, 26, 1, 2, 0, 340), (25, 28, 23, 32, 1, 0, 0), (28, 31, 0, 0, 0, (-1000000003), 704), (31, 32, 43, 0, 0, 0, 0), (32, 33, 3, 0, 0, 0, 0), (33, 36, 27, 9, 3, 0, 363), (36, 37, 3, 0, 0, 0, 0), (37, 40, 27, 9, 5, 0, 365), (40, 41, 2, 1, 0, 0, 0), (41, 42, 35, 0, 0, 0, 0), (42, 45, 27, 1, 0, 0, 336), (45, 48, 38, 1, 1, 0, 868), (48, 49, 3, 0, 0, 0, 0), (49, 50, 3, 0, 0, 0, 0), (50, 53, 27, 9, 5, 0, 365), (53, 54, 2, 1, 0, 0, 0), (54, 55, 35, 0, 0, 0, 0), (55, 58, 26, 1, 1, 0, 338), (58, 61, 28, 9, 12, 0, 372), (61, 62, 3, 0, 0, 0, 0), (62, 65, 27, 9, 4, 0, 364), (65, 68, 38, 24, 0, 0, 470), (68, 69, 0, 0, 0, 1, 0), (69, 70, 43, 0, 0, 0, 0)]
/-- 87: FlagSignals.has(II)Z -/
def fg_c87 : List fg_I := [(0, 1, 2, 0, 0, 0, 0), (1, 2, 2, 1, 0, 0, 0), (2, 3, 9, 0, 7, 0, 0), (3, 4, 0, 0, 0, 1, 0), (4, 5, 9, 0, 3, 0, 0), (5, 8, 23, 12, 0, 0, 0), (8, 9, 0, 0, 0, 1, 0), (9, 12, 22, 13, 0, 0, 0), (12, 13, 0, 0, 0, 0, 0), (13, 14, 44, 0, 0, 0, 0)]
/-- 88: FlagSignals.canHoist(II)Z -/
def fg_c88 : List fg_I := [(0, 1, 3, 0, 0, 0, 0), (1, 4, 27, 9, 1, 0, 361), (4, 5, 2, 1, 0, 0, 0), (5, 8, 37, 31, 1, 0, 688), (8, 11, 23, 24, 0, 0, 0), (11, 12, 3, 0, 0, 0, 0), (12, 15, 27, 9, 3, 0, 363), (15, 18, 27, 0, 5, 0, 187), (18, 19, 2, 1, 0, 0, 0), (19, 20, 31, 0, 0, 0, 0), (20, 21, 0, 0, 0, (-1), 0), (21, 24, 24, 26, 0, 0, 0), (24, 25, 0, 0, 0, 0, 0), (25, 26, 44, 0, 0, 0, 0), (26, 27, 3, 0, 0, 0, 0), (27, 30, 27, 9, 7, 0, 367), (30, 31, 3, 0, 0, 0, 0), (31, 34, 27, 9, 3, 0, 363), (34, 35, 3, 0, 0, 0, 0), (35, 38, 27, 9, 1, 0, 361), (38, 41, 37, 3, 1, 0, 486), (41, 42, 3, 0, 0, 0, 0), (42, 45, 27, 9, 3, 0, 363), (45, 46, 3, 0, 0, 0, 0), (46, 49, 27, 9, 1, 0, 361), (49, 52, 37, 4, 1, 0, 498), (52, 55, 38, 13, 2, 0, 506), (55, 56, 3, 0, 0, 0, 0), (56, 59, 27, 9, 7, 0, 367), (59, 60, 3, 0, 0, 0, 0), (60, 63, 27, 9, 1, 0, 361), (63, 64, 2, 2, 0, 0, 0), (64, 67, 37, 14, 2, 0, 510), (67, 68, 44, 0, 0, 0, 0)]
/-- 89: FlagSignals.refusedDays(I)I -/
def fg_c89 : List fg_I := [(0, 1, 2, 1, 0, 0, 0), (1, 2, 0, 0, 0, 1, 0), (2, 5, 24, 11, 2, 0, 0), (5, 6, 2, 1, 0, 0, 0), (6, 8, 0, 0, 0, 60, 0), (8, 11, 24, 14, 5, 0, 0), (11, 13, 0, 0, 0, (-1000000002), 404), (13, 14, 43, 0, 0, 0, 0), (14, 15, 3, 0, 0, 0, 0), (15, 18, 27, 9, 1, 0, 361), (18, 21, 37, 30, 0, 0, 736), (21, 24, 23, 28, 1, 0, 0), (24, 27, 0, 0, 0, (-1000000003), 704), (27, 28, 43, 0, 0, 0, 0), (28, 29, 3, 0, 0, 0, 0), (29, 32, 27, 9, 3, 0, 363), (32, 35, 26, 0, 9, 0, 194), (35, 38, 0, 0, 0, 9000, 0), (38, 41, 24, 46, 5, 0, 0), (41, 43, 0, 0, 0, (-1000000004), 409), (43, 46, 22, 47, 0, 0, 0), (46, 47, 0, 0, 0, 0, 0), (47, 48, 43, 0, 0, 0, 0)]
/-- 90: FlagSignals.draw(I)I -/
def fg_c90 : List fg_I := [(0, 1, 3, 0, 0, 0, 0), (1, 2, 3, 0, 0, 0, 0), (2, 5, 26, 9, 12, 0, 372), (5, 6, 13, 0, 0, 0, 0), (6, 9, 1, 1103515245, 0, 0, 774), (9, 10, 15, 0, 1, 0, 0), (10, 13, 1, 12345, 0, 0, 775), (13, 14, 15, 0, 0, 0, 0), (14, 17, 1, 2147483647, 0, 0, 776), (17, 18, 15, 0, 2, 0, 0), (18, 19, 14, 0, 0, 0, 0), (19, 22, 28, 9, 12, 0, 372), (22, 23, 2, 1, 0, 0, 0), (23, 26, 23, 39, 5, 0, 0), (26, 27, 3, 0, 0, 0, 0), (27, 30, 26, 9, 12, 0, 372), (30, 33, 0, 0, 0, 65536, 777), (33, 34, 10, 0, 0, 0, 0), (34, 35, 2, 1, 0, 0, 0), (35, 36, 11, 0, 0, 0, 0), (36, 39, 22, 40, 0, 0, 0), (39, 40, 0, 0, 0, 0, 0), (40, 41, 43, 0, 0, 0, 0)]
/-- 91: FlagSignals.actByDraws()V -/
def fg_c91 : List fg_I := [(0, 1, 3, 0, 0, 0, 0), (1, 2, 0, 0, 0, 5, 0), (2, 5, 37, 90, 1, 0, 770), (5, 6, 5, 1, 0, 0, 0), (6, 7, 3, 0, 0, 0, 0), (7, 8, 3, 0, 0, 0, 0), (8, 11, 27, 9, 1, 0, 361), (11, 14, 26, 6, 0, 0, 127), (14, 17, 37, 90, 1, 0, 770), (17, 18, 5, 2, 0, 0, 0), (18, 19, 2, 1, 0, 0, 0), (19, 48, 25, 2, 0, 0, 0), (48, 49, 3, 0, 0, 0, 0), (49, 50, 2, 2, 0, 0, 0), (50, 53, 38, 92, 1, 0, 778), (53, 56, 22, 123, 0, 0, 0), (56, 57, 3, 0, 0, 0, 0), (57, 60, 27, 9, 1, 0, 361), (60, 61, 2, 2, 0, 0, 0), (61, 64, 37, 31, 1, 0, 688), (64, 67, 23, 123, 0, 0, 0), (67, 68, 3, 0, 0, 0, 0), (68, 71, 27, 9, 3, 0, 363), (71, 74, 27, 0, 5, 0, 187), (74, 75, 2, 2, 0, 0, 0), (75, 76, 31, 0, 0, 0, 0), (76, 77, 0, 0, 0, (-1), 0), (77, 80, 24, 123, 0, 0, 0), (80, 81, 3, 0, 0, 0, 0), (81, 84, 27, 9, 3, 0, 363), (84, 85, 2, 2, 0, 0, 0), (85, 88, 37, 10, 1, 0, 724), (88, 89, 20, 0, 0, 0, 0), (89, 92, 22, 123, 0, 0, 0), (92, 93, 3, 0, 0, 0, 0), (93, 96, 27, 9, 3, 0, 363), (96, 97, 3, 0, 0, 0, 0), (97, 98, 0, 0, 0, 3, 0), (98, 101, 37, 90, 1, 0, 770), (101, 104, 28, 0, 10, 0, 196), (104, 105, 3, 0, 0, 0, 0), (105, 108, 27, 9, 3, 0, 363), (108, 109, 3, 0, 0, 0, 0), (109, 110, 0, 0, 0, 2, 0), (110, 113, 37, 90, 1, 0, 770), (113, 116, 28, 0, 11, 0, 198), (116, 119, 22, 123, 0, 0, 0), (119, 120, 3, 0, 0, 0, 0), (120, 123, 38, 93, 0, 0, 782), (123, 124, 45, 0, 0, 0, 0)]
/-- 92: FlagSignals.hoistDrawn(I)V -/
def fg_c92 : List fg_I := [(0, 1, 3, 0, 0, 0, 0), (1, 4, 27, 9, 1, 0, 361), (4, 7, 26, 6, 3, 0, 138), (7, 10, 23, 11, 1, 0, 0), (10, 11, 45, 0, 0, 0, 0), (11, 12, 3, 0, 0, 0, 0), (12, 13, 3, 0, 0, 0, 0), (13, 16, 27, 9, 1, 0, 361), (16, 19, 26, 6, 3, 0, 138), (19, 22, 37, 90, 1, 0, 770), (22, 23, 5, 2, 0, 0, 0), (23, 24, 3, 0, 0, 0, 0), (24, 25, 2, 1, 0, 0, 0), (25, 26, 2, 2, 0, 0, 0), (26, 29, 37, 88, 2, 0, 700), (29, 32, 23, 49, 0, 0, 0), (32, 33, 3, 0, 0, 0, 0), (33, 36, 27, 9, 3, 0, 363), (36, 37, 2, 1, 0, 0, 0), (37, 38, 2, 2, 0, 0, 0), (38, 39, 3, 0, 0, 0, 0), (39, 42, 27, 9, 7, 0, 367), (42, 45, 27, 2, 2, 0, 283), (45, 48, 37, 9, 3, 0, 716), (48, 49, 20, 0, 0, 0, 0), (49, 50, 45, 0, 0, 0, 0)]
/-- 93: FlagSignals.sewDrawn()V -/
def fg_c93 : List fg_I := [(0, 1, 3, 0, 0, 0, 0), (1, 4, 27, 9, 1, 0, 361), (4, 7, 26, 6, 2, 0, 133), (7, 10, 23, 11, 1, 0, 0), (10, 11, 45, 0, 0, 0, 0), (11, 12, 3, 0, 0, 0, 0), (12, 13, 3, 0, 0, 0, 0), (13, 16, 27, 9, 1, 0, 361), (16, 19, 26, 6, 2, 0, 133), (19, 22, 37, 90, 1, 0, 770), (22, 23, 5, 1, 0, 0, 0), (23, 24, 3, 0, 0, 0, 0), (24, 27, 27, 9, 3, 0, 363), (27, 28, 2, 1, 0, 0, 0), (28, 31, 37, 7, 1, 0, 746), (31, 34, 23, 42, 0, 0, 0), (34, 35, 3, 0, 0, 0, 0), (35, 38, 27, 9, 3, 0, 363), (38, 39, 2, 1, 0, 0, 0), (39, 42, 38, 8, 1, 0, 750), (42, 43, 45, 0, 0, 0, 0)]
/-- 94: FlagSignals.readySignals()I -/
def fg_c94 : List fg_I := [(0, 1, 0, 0, 0, 0, 0), (1, 2, 5, 1, 0, 0, 0), (2, 3, 0, 0, 0, 0, 0), (3, 4, 5, 2, 0, 0, 0), (4, 5, 2, 2, 0, 0, 0), (5, 6, 3, 0, 0, 0, 0), (6, 9, 27, 9, 1, 0, 361), (9, 12, 26, 6, 3, 0, 138), (12, 15, 24, 71, 3, 0, 0), (15, 16, 3, 0, 0, 0, 0), (16, 19, 27, 9, 7, 0, 367), (19, 20, 3, 0, 0, 0, 0), (20, 23, 27, 9, 3, 0, 363), (23, 24, 3, 0, 0, 0, 0), (24, 27, 27, 9, 1, 0, 361), (27, 30, 37, 3, 1, 0, 486), (30, 31, 3, 0, 0, 0, 0), (31, 34, 27, 9, 3, 0, 363), (34, 35, 3, 0, 0, 0, 0), (35, 38, 27, 9, 1, 0, 361), (38, 41, 37, 4, 1, 0, 498), (41, 44, 38, 13, 2, 0, 506), (44, 45, 3, 0, 0, 0, 0), (45, 48, 27, 9, 7, 0, 367), (48, 49, 3, 0, 0, 0, 0), (49, 52, 27, 9, 1, 0, 361), (52, 53, 2, 2, 0, 0, 0), (53, 56, 37, 14, 2, 0, 510), (56, 59, 23, 65, 0, 0, 0), (59, 60, 2, 1, 0, 0, 0), (60, 61, 0, 0, 0, 1, 0), (61, 62, 2, 2, 0, 0, 0), (62, 63, 9, 0, 6, 0, 0), (63, 64, 9, 0, 4, 0, 0), (64, 65, 5, 1, 0, 0, 0), (65, 68, 8, 2, 0, 1, 0), (68, 71, 22, 4, 0, 0, 0), (71, 72, 2, 1, 0, 0, 0), (72, 73, 43, 0, 0, 0, 0)]
/-- 95: FlagSignals.watchIn(I)V -/
def fg_c95 : List fg_I := [(0, 1, 3, 0, 0, 0, 0), (1, 4, 27, 9, 8, 0, 368), (4, 5, 3, 0, 0, 0, 0), (5, 8, 27, 9, 1, 0, 361), (8, 9, 3, 0, 0, 0, 0), (9, 12, 27, 9, 7, 0, 367), (12, 13, 3, 0, 0, 0, 0), (13, 16, 27, 9, 3, 0, 363), (16, 19, 26, 0, 7, 0, 191), (19, 22, 38, 54, 3, 0, 546), (22, 23, 3, 0, 0, 0, 0), (23, 26, 27, 9, 8, 0, 368), (26, 27, 3, 0, 0, 0, 0), (27, 30, 27, 9, 1, 0, 361), (30, 31, 3, 0, 0, 0, 0), (31, 34, 27, 9, 3, 0, 363), (34, 35, 2, 1, 0, 0, 0), (35, 38, 38, 55, 3, 0, 554), (38, 39, 45, 0, 0, 0, 0)]
/-- 96: FlagSignals.clearNow()I -/
def fg_c96 : List fg_I := [(0, 1, 3, 0, 0, 0, 0), (1, 2, 3, 0, 0, 0, 0), (2, 5, 27, 9, 3, 0, 363), (5, 8, 37, 2, 0, 0, 538), (8, 11, 38, 95, 1, 0, 542), (11, 12, 3, 0, 0, 0, 0), (12, 15, 27, 9, 8, 0, 368), (15, 16, 3, 0, 0, 0, 0), (16, 19, 27, 9, 1, 0, 361), (19, 22, 37, 59, 1, 0, 577), (22, 23, 43, 0, 0, 0, 0)]
/-- 97: FlagSignals.clearest()I -/
def fg_c97 : List fg_I := [(0, 1, 0, 0, 0, 0, 0), (1, 2, 5, 1, 0, 0, 0), (2, 3, 0, 0, 0, (-1), 0), (3, 4, 5, 2, 0, 0, 0), (4, 5, 3, 0, 0, 0, 0), (5, 8, 27, 9, 8, 0, 368), (8, 9, 3, 0, 0, 0, 0), (9, 12, 27, 9, 1, 0, 361), (12, 13, 3, 0, 0, 0, 0), (13, 16, 27, 9, 7, 0, 367), (16, 17, 3, 0, 0, 0, 0), (17, 20, 27, 9, 3, 0, 363), (20, 23, 26, 0, 7, 0, 191), (23, 26, 38, 54, 3, 0, 546), (26, 27, 0, 0, 0, 0, 0), (27, 28, 5, 3, 0, 0, 0), (28, 29, 2, 3, 0, 0, 0), (29, 31, 0, 0, 0, 6, 0), (31, 34, 24, 83, 3, 0, 0), (34, 35, 3, 0, 0, 0, 0), (35, 38, 27, 9, 8, 0, 368), (38, 39, 3, 0, 0, 0, 0), (39, 42, 27, 9, 1, 0, 361), (42, 43, 3, 0, 0, 0, 0), (43, 46, 27, 9, 3, 0, 363), (46, 47, 2, 3, 0, 0, 0), (47, 50, 38, 55, 3, 0, 554), (50, 51, 3, 0, 0, 0, 0), (51, 54, 27, 9, 8, 0, 368), (54, 55, 3, 0, 0, 0, 0), (55, 58, 27, 9, 1, 0, 361), (58, 61, 37, 59, 1, 0, 577), (61, 64, 39, 195, 1, 0, 585), (64, 66, 5, 4, 0, 0, 0), (66, 68, 2, 4, 0, 0, 0), (68, 69, 2, 2, 0, 0, 0), (69, 72, 24, 77, 5, 0, 0), (72, 74, 2, 4, 0, 0, 0), (74, 75, 5, 2, 0, 0, 0), (75, 76, 2, 3, 0, 0, 0), (76, 77, 5, 1, 0, 0, 0), (77, 80, 8, 3, 0, 1, 0), (80, 83, 22, 28, 0, 0, 0), (83, 84, 2, 1, 0, 0, 0), (84, 85, 43, 0, 0, 0, 0)]
/-- 98: FlagSignals.flyTogether(I)Z -/
def fg_c98 : List fg_I := [(0, 1, 2, 1, 0, 0, 0), (1, 4, 39, 195, 1, 0, 585), (4, 5, 3, 0, 0, 0, 0), (5, 8, 27, 9, 1, 0, 361), (8, 11, 26, 6, 0, 0, 127), (11, 14, 24, 16, 5, 0, 0), (14, 15, 0, 0, 0, 0, 0), (15, 16, 44, 0, 0, 0, 0), (16, 17, 3, 0, 0, 0, 0), (17, 20, 27, 9, 7, 0, 367), (20, 21, 3, 0, 0, 0, 0), (21, 24, 27, 9, 1, 0, 361), (24, 27, 37, 36, 0, 0, 607), (27, 28, 3, 0, 0, 0, 0), (28, 31, 27, 9, 3, 0, 363), (31, 34, 26, 0, 7, 0, 191), (34, 35, 0, 0, 0, (-1), 0), (35, 36, 9, 0, 5, 0, 0), (36, 37, 9, 0, 3, 0, 0), (37, 38, 3, 0, 0, 0, 0), (38, 41, 27, 9, 1, 0, 361), (41, 44, 37, 37, 0, 0, 608), (44, 47, 38, 13, 2, 0, 506), (47, 48, 0, 0, 0, 0, 0), (48, 49, 5, 2, 0, 0, 0), (49, 50, 2, 2, 0, 0, 0), (50, 51, 3, 0, 0, 0, 0), (51, 54, 27, 9, 1, 0, 361), (54, 57, 26, 6, 3, 0, 138), (57, 60, 24, 91, 3, 0, 0), (60, 61, 2, 1, 0, 0, 0), (61, 62, 2, 2, 0, 0, 0), (62, 65, 39, 87, 2, 0, 609), (65, 68, 23, 85, 0, 0, 0), (68, 69, 3, 0, 0, 0, 0), (69, 72, 27, 9, 7, 0, 367), (72, 73, 3, 0, 0, 0, 0), (73, 76, 27, 9, 1, 0, 361), (76, 77, 2, 2, 0, 0, 0), (77, 80, 37, 14, 2, 0, 510), (80, 83, 23, 85, 1, 0, 0), (83, 84, 0, 0, 0, 0, 0), (84, 85, 44, 0, 0, 0, 0), (85, 88, 8, 2, 0, 1, 0), (88, 91, 22, 49, 0, 0, 0), (91, 92, 0, 0, 0, 1, 0), (92, 93, 44, 0, 0, 0, 0)]
/-- 99: FlagSignals.groupWithin(I)V -/
def fg_c99 : List fg_I := [(0, 1, 0, 0, 0, 0, 0), (1, 2, 5, 2, 0, 0, 0), (2, 3, 2, 2, 0, 0, 0), (3, 6, 0, 0, 0, 1024, 0), (6, 9, 24, 45, 3, 0, 0), (9, 10, 3, 0, 0, 0, 0), (10, 13, 27, 9, 9, 0, 369), (13, 16, 27, 5, 0, 0, 319), (16, 17, 2, 2, 0, 0, 0), (17, 18, 2, 2, 0, 0, 0), (18, 19, 2, 1, 0, 0, 0), (19, 20, 0, 0, 0, (-1), 0), (20, 21, 9, 0, 5, 0, 0), (21, 22, 9, 0, 3, 0, 0), (22, 25, 23, 37, 1, 0, 0), (25, 26, 3, 0, 0, 0, 0), (26, 27, 2, 2, 0, 0, 0), (27, 30, 37, 98, 1, 0, 603), (30, 33, 23, 37, 0, 0, 0), (33, 34, 0, 0, 0, 1, 0), (34, 37, 22, 38, 0, 0, 0), (37, 38, 0, 0, 0, 0, 0), (38, 39, 34, 0, 0, 0, 0), (39, 42, 8, 2, 0, 1, 0), (42, 45, 22, 2, 0, 0, 0), (45, 46, 45, 0, 0, 0, 0)]
/-- 100: FlagSignals.mostTogether()I -/
def fg_c100 : List fg_I := [(0, 1, 3, 0, 0, 0, 0), (1, 2, 3, 0, 0, 0, 0), (2, 5, 27, 9, 1, 0, 361), (5, 8, 37, 35, 0, 0, 595), (8, 11, 38, 99, 1, 0, 599), (11, 12, 3, 0, 0, 0, 0), (12, 15, 27, 9, 9, 0, 369), (15, 18, 37, 25, 0, 0, 610), (18, 19, 43, 0, 0, 0, 0)]
/-- 101: FlagSignals.neededFlag()I -/
def fg_c101 : List fg_I := [(0, 1, 0, 0, 0, (-1), 0), (1, 2, 5, 1, 0, 0, 0), (2, 3, 0, 0, 0, (-1), 0), (3, 4, 5, 2, 0, 0, 0), (4, 5, 0, 0, 0, 0, 0), (5, 6, 5, 3, 0, 0, 0), (6, 7, 2, 3, 0, 0, 0), (7, 8, 3, 0, 0, 0, 0), (8, 11, 27, 9, 1, 0, 361), (11, 14, 26, 6, 2, 0, 133), (14, 17, 24, 47, 3, 0, 0), (17, 18, 3, 0, 0, 0, 0), (18, 21, 27, 9, 1, 0, 361), (21, 22, 2, 3, 0, 0, 0), (22, 25, 37, 43, 1, 0, 619), (25, 28, 39, 195, 1, 0, 585), (28, 30, 5, 4, 0, 0, 0), (30, 32, 2, 4, 0, 0, 0), (32, 33, 2, 2, 0, 0, 0), (33, 36, 24, 41, 5, 0, 0), (36, 38, 2, 4, 0, 0, 0), (38, 39, 5, 2, 0, 0, 0), (39, 40, 2, 3, 0, 0, 0), (40, 41, 5, 1, 0, 0, 0), (41, 44, 8, 3, 0, 1, 0), (44, 47, 22, 6, 0, 0, 0), (47, 48, 2, 1, 0, 0, 0), (48, 49, 43, 0, 0, 0, 0)]
/-- 102: FlagSignals.betterFlag()I -/
def fg_c102 : List fg_I := [(0, 1, 3, 0, 0, 0, 0), (1, 2, 3, 0, 0, 0, 0), (2, 5, 27, 9, 3, 0, 363), (5, 8, 37, 2, 0, 0, 538), (8, 11, 38, 95, 1, 0, 542), (11, 12, 3, 0, 0, 0, 0), (12, 15, 27, 9, 8, 0, 368), (15, 16, 3, 0, 0, 0, 0), (16, 19, 27, 9, 1, 0, 361), (19, 22, 37, 59, 1, 0, 577), (22, 25, 39, 195, 1, 0, 585), (25, 26, 5, 1, 0, 0, 0), (26, 27, 0, 0, 0, (-1), 0), (27, 28, 5, 2, 0, 0, 0), (28, 29, 0, 0, 0, 0, 0), (29, 30, 5, 3, 0, 0, 0), (30, 31, 2, 3, 0, 0, 0), (31, 32, 3, 0, 0, 0, 0), (32, 35, 27, 9, 1, 0, 361), (35, 38, 26, 6, 2, 0, 133), (38, 41, 24, 195, 3, 0, 0), (41, 42, 2, 3, 0, 0, 0), (42, 44, 0, 0, 0, 10, 0), (44, 47, 24, 195, 3, 0, 0), (47, 48, 3, 0, 0, 0, 0), (48, 51, 27, 9, 1, 0, 361), (51, 52, 2, 3, 0, 0, 0), (52, 55, 37, 43, 1, 0, 619), (55, 57, 5, 4, 0, 0, 0), (57, 58, 3, 0, 0, 0, 0), (58, 61, 27, 9, 8, 0, 368), (61, 62, 3, 0, 0, 0, 0), (62, 65, 27, 9, 1, 0, 361), (65, 66, 3, 0, 0, 0, 0), (66, 69, 27, 9, 7, 0, 367), (69, 70, 3, 0, 0, 0, 0), (70, 73, 27, 9, 3, 0, 363), (73, 76, 26, 0, 7, 0, 191), (76, 77, 0, 0, 0, 1, 0), (77, 78, 2, 3, 0, 0, 0), (78, 79, 9, 0, 6, 0, 0), (79, 80, 0, 0, 0, (-1), 0), (80, 81, 9, 0, 5, 0, 0), (81, 82, 9, 0, 3, 0, 0), (82, 85, 38, 54, 3, 0, 546), (85, 86, 3, 0, 0, 0, 0), (86, 89, 27, 9, 8, 0, 368), (89, 90, 3, 0, 0, 0, 0), (90, 93, 27, 9, 1, 0, 361), (93, 94, 3, 0, 0, 0, 0), (94, 97, 27, 9, 3, 0, 363), (97, 98, 3, 0, 0, 0, 0), (98, 101, 27, 9, 3, 0, 363), (101, 104, 37, 2, 0, 0, 538), (104, 107, 38, 55, 3, 0, 554), (107, 108, 0, 0, 0, 0, 0), (108, 110, 5, 5, 0, 0, 0), (110, 112, 2, 4, 0, 0, 0), (112, 115, 23, 189, 0, 0, 0), (115, 116, 2, 1, 0, 0, 0), (116, 117, 3, 0, 0, 0, 0), (117, 120, 27, 9, 1, 0, 361), (120, 123, 26, 6, 3, 0, 138), (123, 126, 24, 189, 3, 0, 0), (126, 128, 2, 5, 0, 0, 0), (128, 130, 0, 0, 0, 100, 0), (130, 133, 24, 189, 3, 0, 0), (133, 134, 3, 0, 0, 0, 0), (134, 135, 2, 3, 0, 0, 0), (135, 137, 2, 5, 0, 0, 0), (137, 139, 2, 4, 0, 0, 0), (139, 142, 37, 103, 3, 0, 628), (142, 144, 5, 6, 0, 0, 0), (144, 146, 2, 6, 0, 0, 0), (146, 147, 2, 1, 0, 0, 0), (147, 150, 24, 183, 5, 0, 0), (150, 152, 2, 6, 0, 0, 0), (152, 153, 5, 1, 0, 0, 0), (153, 156, 0, 0, 0, 1000, 0), (156, 157, 2, 3, 0, 0, 0), (157, 158, 9, 0, 2, 0, 0), (158, 160, 0, 0, 0, 100, 0), (160, 162, 2, 5, 0, 0, 0), (162, 164, 0, 0, 0, 25, 0), (164, 165, 10, 0, 0, 0, 0), (165, 166, 9, 0, 2, 0, 0), (166, 167, 9, 0, 0, 0, 0), (167, 169, 0, 0, 0, 10, 0), (169, 171, 2, 5, 0, 0, 0), (171, 172, 0, 0, 0, 5, 0), (172, 173, 10, 0, 0, 0, 0), (173, 174, 0, 0, 0, 5, 0), (174, 175, 11, 0, 0, 0, 0), (175, 176, 9, 0, 2, 0, 0), (176, 177, 9, 0, 0, 0, 0), (177, 179, 2, 5, 0, 0, 0), (179, 180, 0, 0, 0, 5, 0), (180, 181, 11, 0, 0, 0, 0), (181, 182, 9, 0, 0, 0, 0), (182, 183, 5, 2, 0, 0, 0), (183, 186, 8, 5, 0, 1, 0), (186, 189, 22, 110, 0, 0, 0), (189, 192, 8, 3, 0, 1, 0), (192, 195, 22, 30, 0, 0, 0), (195, 196, 2, 2, 0, 0, 0), (196, 197, 43, 0, 0, 0, 0)]
/-- 103: FlagSignals.countClearWith(III)I -/
def fg_c103 : List fg_I := [(0, 1, 3, 0, 0, 0, 0), (1, 4, 27, 9, 8, 0, 368), (4, 7, 27, 8, 1, 0, 299), (7, 8, 2, 1, 0, 0, 0), (8, 9, 2, 2, 0, 0, 0), (9, 11, 0, 0, 0, 25, 0), (11, 12, 10, 0, 0, 0, 0), (12, 13, 2, 2, 0, 0, 0), (13, 14, 0, 0, 0, 5, 0), (14, 15, 10, 0, 0, 0, 0), (15, 16, 0, 0, 0, 5, 0), (16, 17, 11, 0, 0, 0, 0), (17, 18, 2, 2, 0, 0, 0), (18, 19, 0, 0, 0, 5, 0), (19, 20, 11, 0, 0, 0, 0), (20, 21, 3, 0, 0, 0, 0), (21, 24, 27, 9, 3, 0, 363), (24, 27, 26, 0, 10, 0, 196), (27, 28, 3, 0, 0, 0, 0), (28, 31, 27, 9, 3, 0, 363), (31, 34, 26, 0, 11, 0, 198), (34, 37, 39, 108, 5, 0, 632), (37, 38, 32, 0, 0, 0, 0), (38, 39, 3, 0, 0, 0, 0), (39, 42, 27, 9, 8, 0, 368), (42, 43, 3, 0, 0, 0, 0), (43, 46, 27, 9, 1, 0, 361), (46, 47, 2, 3, 0, 0, 0), (47, 50, 38, 56, 2, 0, 633), (50, 51, 3, 0, 0, 0, 0), (51, 54, 27, 9, 8, 0, 368), (54, 55, 3, 0, 0, 0, 0), (55, 58, 27, 9, 1, 0, 361), (58, 61, 37, 59, 1, 0, 577), (61, 64, 39, 195, 1, 0, 585), (64, 65, 43, 0, 0, 0, 0)]
/-- 104: FlagSignals.possibleWeathers()I -/
def fg_c104 : List fg_I := [(0, 1, 0, 0, 0, 0, 0), (1, 2, 5, 1, 0, 0, 0), (2, 3, 3, 0, 0, 0, 0), (3, 6, 27, 9, 8, 0, 368), (6, 7, 3, 0, 0, 0, 0), (7, 10, 27, 9, 1, 0, 361), (10, 11, 3, 0, 0, 0, 0), (11, 14, 27, 9, 7, 0, 367), (14, 15, 3, 0, 0, 0, 0), (15, 18, 27, 9, 3, 0, 363), (18, 21, 26, 0, 7, 0, 191), (21, 24, 38, 54, 3, 0, 546), (24, 25, 0, 0, 0, 0, 0), (25, 26, 5, 2, 0, 0, 0), (26, 27, 2, 2, 0, 0, 0), (27, 29, 0, 0, 0, 6, 0), (29, 32, 24, 78, 3, 0, 0), (32, 33, 3, 0, 0, 0, 0), (33, 36, 27, 9, 8, 0, 368), (36, 37, 3, 0, 0, 0, 0), (37, 40, 27, 9, 1, 0, 361), (40, 41, 3, 0, 0, 0, 0), (41, 44, 27, 9, 3, 0, 363), (44, 45, 2, 2, 0, 0, 0), (45, 48, 38, 55, 3, 0, 554), (48, 49, 3, 0, 0, 0, 0), (49, 52, 27, 9, 6, 0, 366), (52, 53, 3, 0, 0, 0, 0), (53, 56, 27, 9, 1, 0, 361), (56, 57, 3, 0, 0, 0, 0), (57, 60, 27, 9, 8, 0, 368), (60, 63, 37, 20, 2, 0, 638), (63, 66, 23, 72, 0, 0, 0), (66, 67, 2, 1, 0, 0, 0), (67, 68, 0, 0, 0, 1, 0), (68, 69, 2, 2, 0, 0, 0), (69, 70, 9, 0, 6, 0, 0), (70, 71, 9, 0, 4, 0, 0), (71, 72, 5, 1, 0, 0, 0), (72, 75, 8, 2, 0, 1, 0), (75, 78, 22, 26, 0, 0, 0), (78, 79, 2, 1, 0, 0, 0), (79, 80, 43, 0, 0, 0, 0)]
/-- 105: FlagSignals.askedSignal()I -/
def fg_c105 : List fg_I := [(0, 1, 3, 0, 0, 0, 0), (1, 4, 37, 104, 0, 0, 634), (4, 5, 5, 1, 0, 0, 0), (5, 6, 3, 0, 0, 0, 0), (6, 9, 38, 106, 0, 0, 652), (9, 10, 0, 0, 0, (-1), 0), (10, 11, 5, 2, 0, 0, 0), (11, 12, 2, 1, 0, 0, 0), (12, 15, 39, 195, 1, 0, 585), (15, 16, 5, 3, 0, 0, 0), (16, 17, 0, 0, 0, 0, 0), (17, 19, 5, 4, 0, 0, 0), (19, 21, 2, 4, 0, 0, 0), (21, 22, 3, 0, 0, 0, 0), (22, 25, 27, 9, 1, 0, 361), (25, 28, 26, 6, 3, 0, 138), (28, 31, 24, 58, 3, 0, 0), (31, 32, 3, 0, 0, 0, 0), (32, 34, 2, 4, 0, 0, 0), (34, 35, 2, 1, 0, 0, 0), (35, 38, 37, 107, 2, 0, 657), (38, 40, 5, 5, 0, 0, 0), (40, 42, 2, 5, 0, 0, 0), (42, 43, 2, 3, 0, 0, 0), (43, 46, 24, 52, 3, 0, 0), (46, 48, 2, 5, 0, 0, 0), (48, 49, 5, 3, 0, 0, 0), (49, 51, 2, 4, 0, 0, 0), (51, 52, 5, 2, 0, 0, 0), (52, 55, 8, 4, 0, 1, 0), (55, 58, 22, 19, 0, 0, 0), (58, 59, 2, 2, 0, 0, 0), (59, 60, 43, 0, 0, 0, 0)]
/-- 106: FlagSignals.fillLikes()V -/
def fg_c106 : List fg_I := [(0, 1, 3, 0, 0, 0, 0), (1, 4, 27, 9, 8, 0, 368), (4, 5, 3, 0, 0, 0, 0), (5, 8, 27, 9, 1, 0, 361), (8, 9, 3, 0, 0, 0, 0), (9, 12, 27, 9, 7, 0, 367), (12, 13, 3, 0, 0, 0, 0), (13, 16, 27, 9, 3, 0, 363), (16, 19, 26, 0, 7, 0, 191), (19, 22, 38, 54, 3, 0, 546), (22, 23, 0, 0, 0, 0, 0), (23, 24, 5, 1, 0, 0, 0), (24, 25, 2, 1, 0, 0, 0), (25, 27, 0, 0, 0, 6, 0), (27, 30, 24, 94, 3, 0, 0), (30, 31, 3, 0, 0, 0, 0), (31, 34, 27, 9, 8, 0, 368), (34, 35, 3, 0, 0, 0, 0), (35, 38, 27, 9, 1, 0, 361), (38, 39, 3, 0, 0, 0, 0), (39, 42, 27, 9, 3, 0, 363), (42, 43, 2, 1, 0, 0, 0), (43, 46, 38, 55, 3, 0, 554), (46, 47, 0, 0, 0, 0, 0), (47, 48, 5, 2, 0, 0, 0), (48, 49, 2, 2, 0, 0, 0), (49, 50, 3, 0, 0, 0, 0), (50, 53, 27, 9, 1, 0, 361), (53, 56, 26, 6, 3, 0, 138), (56, 59, 24, 88, 3, 0, 0), (59, 60, 3, 0, 0, 0, 0), (60, 63, 27, 9, 10, 0, 370), (63, 64, 2, 1, 0, 0, 0), (64, 66, 0, 0, 0, 10, 0), (66, 67, 9, 0, 2, 0, 0), (67, 68, 2, 2, 0, 0, 0), (68, 69, 9, 0, 0, 0, 0), (69, 70, 3, 0, 0, 0, 0), (70, 73, 27, 9, 8, 0, 368), (73, 74, 3, 0, 0, 0, 0), (74, 77, 27, 9, 1, 0, 361), (77, 78, 2, 2, 0, 0, 0), (78, 81, 37, 58, 2, 0, 656), (81, 82, 32, 0, 0, 0, 0), (82, 85, 8, 2, 0, 1, 0), (85, 88, 22, 48, 0, 0, 0), (88, 91, 8, 1, 0, 1, 0), (91, 94, 22, 24, 0, 0, 0), (94, 95, 45, 0, 0, 0, 0)]
/-- 107: FlagSignals.greatestPart(II)I -/
def fg_c107 : List fg_I := [(0, 1, 0, 0, 0, 0, 0), (1, 2, 5, 3, 0, 0, 0), (2, 3, 0, 0, 0, 0, 0), (3, 5, 5, 4, 0, 0, 0), (5, 7, 2, 4, 0, 0, 0), (7, 9, 0, 0, 0, 6, 0), (9, 12, 24, 92, 3, 0, 0), (12, 13, 0, 0, 0, 0, 0), (13, 15, 5, 5, 0, 0, 0), (15, 16, 0, 0, 0, 0, 0), (16, 18, 5, 6, 0, 0, 0), (18, 20, 2, 6, 0, 0, 0), (20, 22, 0, 0, 0, 6, 0), (22, 25, 24, 79, 3, 0, 0), (25, 26, 2, 2, 0, 0, 0), (26, 28, 2, 4, 0, 0, 0), (28, 31, 39, 87, 2, 0, 609), (31, 34, 23, 73, 0, 0, 0), (34, 35, 2, 2, 0, 0, 0), (35, 37, 2, 6, 0, 0, 0), (37, 40, 39, 87, 2, 0, 609), (40, 43, 23, 73, 0, 0, 0), (43, 44, 3, 0, 0, 0, 0), (44, 47, 27, 9, 10, 0, 370), (47, 49, 2, 4, 0, 0, 0), (49, 51, 0, 0, 0, 10, 0), (51, 52, 9, 0, 2, 0, 0), (52, 53, 2, 1, 0, 0, 0), (53, 54, 9, 0, 0, 0, 0), (54, 55, 31, 0, 0, 0, 0), (55, 56, 3, 0, 0, 0, 0), (56, 59, 27, 9, 10, 0, 370), (59, 61, 2, 6, 0, 0, 0), (61, 63, 0, 0, 0, 10, 0), (63, 64, 9, 0, 2, 0, 0), (64, 65, 2, 1, 0, 0, 0), (65, 66, 9, 0, 0, 0, 0), (66, 67, 31, 0, 0, 0, 0), (67, 70, 24, 73, 1, 0, 0), (70, 73, 8, 5, 0, 1, 0), (73, 76, 8, 6, 0, 1, 0), (76, 79, 22, 18, 0, 0, 0), (79, 80, 2, 3, 0, 0, 0), (80, 82, 2, 5, 0, 0, 0), (82, 85, 39, 196, 2, 0, 661), (85, 86, 5, 3, 0, 0, 0), (86, 89, 8, 4, 0, 1, 0), (89, 92, 22, 5, 0, 0, 0), (92, 93, 2, 3, 0, 0, 0), (93, 94, 43, 0, 0, 0, 0)]
/-- 108: FlagSignals.seenPattern(IIIII)I -/
def fg_c108 : List fg_I := [(0, 1, 2, 0, 0, 0, 0), (1, 4, 23, 22, 0, 0, 0), (4, 5, 2, 0, 0, 0, 0), (5, 6, 0, 0, 0, 1, 0), (6, 9, 24, 17, 1, 0, 0), (9, 11, 2, 4, 0, 0, 0), (11, 14, 23, 26, 1, 0, 0), (14, 17, 22, 22, 0, 0, 0), (17, 18, 2, 3, 0, 0, 0), (18, 19, 0, 0, 0, 2, 0), (19, 22, 24, 26, 1, 0, 0), (22, 23, 0, 0, 0, 1, 0), (23, 26, 22, 27, 0, 0, 0), (26, 27, 0, 0, 0, 0, 0), (27, 29, 5, 5, 0, 0, 0), (29, 30, 2, 1, 0, 0, 0), (30, 31, 2, 3, 0, 0, 0), (31, 34, 39, 109, 2, 0, 565), (34, 36, 5, 6, 0, 0, 0), (36, 38, 2, 5, 0, 0, 0), (38, 41, 23, 45, 0, 0, 0), (41, 42, 2, 1, 0, 0, 0), (42, 45, 22, 46, 0, 0, 0), (45, 46, 2, 2, 0, 0, 0), (46, 47, 2, 3, 0, 0, 0), (47, 50, 39, 109, 2, 0, 565), (50, 52, 5, 7, 0, 0, 0), (52, 54, 0, 0, 0, 25, 0), (54, 56, 2, 5, 0, 0, 0), (56, 59, 23, 63, 0, 0, 0), (59, 60, 0, 0, 0, 0, 0), (60, 63, 22, 64, 0, 0, 0), (63, 64, 2, 0, 0, 0, 0), (64, 65, 9, 0, 2, 0, 0), (65, 66, 0, 0, 0, 5, 0), (66, 68, 2, 6, 0, 0, 0), (68, 69, 9, 0, 2, 0, 0), (69, 70, 9, 0, 0, 0, 0), (70, 72, 2, 7, 0, 0, 0), (72, 73, 9, 0, 0, 0, 0), (73, 74, 43, 0, 0, 0, 0)]
/-- 109: FlagSignals.seenColour(II)I -/
def fg_c109 : List fg_I := [(0, 1, 2, 1, 0, 0, 0), (1, 4, 23, 6, 1, 0, 0), (4, 5, 2, 0, 0, 0, 0), (5, 6, 43, 0, 0, 0, 0), (6, 7, 2, 0, 0, 0, 0), (7, 8, 0, 0, 0, 1, 0), (8, 11, 24, 15, 1, 0, 0), (11, 12, 0, 0, 0, 0, 0), (12, 15, 22, 25, 0, 0, 0), (15, 16, 2, 0, 0, 0, 0), (16, 17, 0, 0, 0, 4, 0), (17, 20, 24, 24, 1, 0, 0), (20, 21, 0, 0, 0, 3, 0), (21, 24, 22, 25, 0, 0, 0), (24, 25, 2, 0, 0, 0, 0), (25, 26, 43, 0, 0, 0, 0)]
/-- 110: FlagSignalsModel.in(JJJ)Z -/
def fg_c110 : List fg_I := [(0, 1, 4, 0, 0, 0, 0), (1, 2, 4, 2, 0, 0, 0), (2, 3, 18, 0, 0, 0, 0), (3, 6, 23, 17, 2, 0, 0), (6, 7, 4, 0, 0, 0, 0), (7, 9, 4, 4, 0, 0, 0), (9, 10, 18, 0, 0, 0, 0), (10, 13, 23, 17, 4, 0, 0), (13, 14, 0, 0, 0, 1, 0), (14, 17, 22, 18, 0, 0, 0), (17, 18, 0, 0, 0, 0, 0), (18, 19, 44, 0, 0, 0, 0)]
/-- 111: FlagSignalsModel.has(II)Z -/
def fg_c111 : List fg_I := [(0, 1, 2, 0, 0, 0, 0), (1, 2, 2, 1, 0, 0, 0), (2, 3, 9, 0, 7, 0, 0), (3, 4, 0, 0, 0, 1, 0), (4, 5, 9, 0, 3, 0, 0), (5, 6, 0, 0, 0, 1, 0), (6, 9, 24, 13, 1, 0, 0), (9, 10, 0, 0, 0, 1, 0), (10, 13, 22, 14, 0, 0, 0), (13, 14, 0, 0, 0, 0, 0), (14, 15, 44, 0, 0, 0, 0)]
/-- 112: FlagSignalsModel.bits(I)I -/
def fg_c112 : List fg_I := [(0, 1, 0, 0, 0, 0, 0), (1, 2, 5, 1, 0, 0, 0), (2, 3, 0, 0, 0, 0, 0), (3, 4, 5, 2, 0, 0, 0), (4, 5, 2, 2, 0, 0, 0), (5, 7, 0, 0, 0, 10, 0), (7, 10, 24, 24, 3, 0, 0), (10, 11, 2, 1, 0, 0, 0), (11, 12, 2, 0, 0, 0, 0), (12, 13, 2, 2, 0, 0, 0), (13, 14, 9, 0, 7, 0, 0), (14, 15, 0, 0, 0, 1, 0), (15, 16, 9, 0, 3, 0, 0), (16, 17, 9, 0, 0, 0, 0), (17, 18, 5, 1, 0, 0, 0), (18, 21, 8, 2, 0, 1, 0), (21, 24, 22, 4, 0, 0, 0), (24, 25, 2, 1, 0, 0, 0), (25, 26, 43, 0, 0, 0, 0)]
/-- 113: FlagSignalsModel.isLine(I)Z -/
def fg_c113 : List fg_I := [(0, 1, 2, 1, 0, 0, 0), (1, 2, 13, 0, 0, 0, 0), (2, 3, 1, 0, 0, 0, 0), (3, 4, 3, 0, 0, 0, 0), (4, 7, 26, 10, 0, 0, 879), (7, 8, 0, 0, 0, 1, 0), (8, 9, 9, 0, 1, 0, 0), (9, 10, 13, 0, 0, 0, 0), (10, 13, 39, 110, 3, 0, 996), (13, 14, 44, 0, 0, 0, 0)]
/-- 114: FlagSignalsModel.isFlag(I)Z -/
def fg_c114 : List fg_I := [(0, 1, 2, 1, 0, 0, 0), (1, 2, 13, 0, 0, 0, 0), (2, 3, 1, 0, 0, 0, 0), (3, 4, 3, 0, 0, 0, 0), (4, 7, 26, 10, 2, 0, 881), (7, 8, 0, 0, 0, 1, 0), (8, 9, 9, 0, 1, 0, 0), (9, 10, 13, 0, 0, 0, 0), (10, 13, 39, 110, 3, 0, 996), (13, 14, 44, 0, 0, 0, 0)]
/-- 115: FlagSignalsModel.isSignal(I)Z -/
def fg_c115 : List fg_I := [(0, 1, 2, 1, 0, 0, 0), (1, 2, 13, 0, 0, 0, 0), (2, 3, 1, 0, 0, 0, 0), (3, 4, 3, 0, 0, 0, 0), (4, 7, 26, 10, 4, 0, 883), (7, 8, 0, 0, 0, 1, 0), (8, 9, 9, 0, 1, 0, 0), (9, 10, 13, 0, 0, 0, 0), (10, 13, 39, 110, 3, 0, 996), (13, 14, 44, 0, 0, 0, 0)]
/-- 116: FlagSignalsModel.feed(I)I -/
def fg_c116 : List fg_I := [(0, 1, 2, 1, 0, 0, 0), (1, 2, 13, 0, 0, 0, 0), (2, 3, 1, 0, 0, 0, 0), (3, 6, 1, 255, 0, 0, 995), (6, 9, 39, 110, 3, 0, 996), (9, 12, 23, 15, 1, 0, 0), (12, 14, 0, 0, 0, (-1000000002), 999), (14, 15, 43, 0, 0, 0, 0), (15, 16, 3, 0, 0, 0, 0), (16, 19, 26, 10, 10, 0, 889), (19, 22, 0, 0, 0, 240, 0), (22, 25, 24, 28, 1, 0, 0), (25, 27, 0, 0, 0, (-1000000004), 1000), (27, 28, 43, 0, 0, 0, 0), (28, 29, 3, 0, 0, 0, 0), (29, 32, 27, 10, 9, 0, 888), (32, 33, 3, 0, 0, 0, 0), (33, 36, 26, 10, 10, 0, 889), (36, 37, 2, 1, 0, 0, 0), (37, 38, 32, 0, 0, 0, 0), (38, 39, 3, 0, 0, 0, 0), (39, 40, 19, 0, 0, 0, 0), (40, 43, 26, 10, 10, 0, 889), (43, 44, 0, 0, 0, 1, 0), (44, 45, 9, 0, 0, 0, 0), (45, 48, 28, 10, 10, 0, 889), (48, 49, 3, 0, 0, 0, 0), (49, 52, 26, 10, 10, 0, 889), (52, 53, 43, 0, 0, 0, 0)]
/-- 117: FlagSignalsModel.here()I -/
def fg_c117 : List fg_I := [(0, 1, 3, 0, 0, 0, 0), (1, 4, 26, 10, 12, 0, 891), (4, 5, 3, 0, 0, 0, 0), (5, 8, 26, 10, 10, 0, 889), (8, 11, 24, 38, 3, 0, 0), (11, 12, 3, 0, 0, 0, 0), (12, 15, 27, 10, 9, 0, 888), (15, 16, 3, 0, 0, 0, 0), (16, 19, 26, 10, 12, 0, 891), (19, 20, 31, 0, 0, 0, 0), (20, 22, 0, 0, 0, 32, 0), (22, 25, 24, 38, 1, 0, 0), (25, 26, 3, 0, 0, 0, 0), (26, 27, 19, 0, 0, 0, 0), (27, 30, 26, 10, 12, 0, 891), (30, 31, 0, 0, 0, 1, 0), (31, 32, 9, 0, 0, 0, 0), (32, 35, 28, 10, 12, 0, 891), (35, 38, 22, 0, 0, 0, 0), (38, 39, 3, 0, 0, 0, 0), (39, 42, 26, 10, 12, 0, 891), (42, 43, 3, 0, 0, 0, 0), (43, 46, 26, 10, 10, 0, 889), (46, 49, 24, 61, 3, 0, 0), (49, 50, 3, 0, 0, 0, 0), (50, 53, 27, 10, 9, 0, 888), (53, 54, 3, 0, 0, 0, 0), (54, 57, 26, 10, 12, 0, 891), (57, 58, 31, 0, 0, 0, 0), (58, 61, 22, 62, 0, 0, 0), (61, 62, 0, 0, 0, (-1), 0), (62, 63, 43, 0, 0, 0, 0)]
/-- 118: FlagSignalsModel.fails(II)I -/
def fg_c118 : List fg_I := [(0, 1, 3, 0, 0, 0, 0), (1, 2, 2, 2, 0, 0, 0), (2, 5, 28, 10, 11, 0, 890), (5, 6, 2, 1, 0, 0, 0), (6, 7, 43, 0, 0, 0, 0)]
/-- 119: FlagSignalsModel.takeNumber(II)I -/
def fg_c119 : List fg_I := [(0, 1, 3, 0, 0, 0, 0), (1, 4, 37, 117, 0, 0, 1005), (4, 5, 5, 3, 0, 0, 0), (5, 6, 2, 3, 0, 0, 0), (6, 7, 13, 0, 0, 0, 0), (7, 10, 1, 48, 0, 0, 1025), (10, 13, 1, 57, 0, 0, 1026), (13, 16, 39, 110, 3, 0, 996), (16, 19, 23, 29, 1, 0, 0), (19, 20, 3, 0, 0, 0, 0), (20, 21, 0, 0, 0, 1, 0), (21, 22, 3, 0, 0, 0, 0), (22, 25, 26, 10, 12, 0, 891), (25, 28, 37, 118, 2, 0, 1013), (28, 29, 43, 0, 0, 0, 0), (29, 30, 3, 0, 0, 0, 0), (30, 33, 26, 10, 12, 0, 891), (33, 35, 5, 4, 0, 0, 0), (35, 36, 3, 0, 0, 0, 0), (36, 37, 0, 0, 0, 0, 0), (37, 40, 28, 10, 13, 0, 892), (40, 41, 3, 0, 0, 0, 0), (41, 44, 26, 10, 12, 0, 891), (44, 45, 3, 0, 0, 0, 0), (45, 48, 26, 10, 10, 0, 889), (48, 51, 24, 127, 3, 0, 0), (51, 52, 3, 0, 0, 0, 0), (52, 55, 27, 10, 9, 0, 888), (55, 56, 3, 0, 0, 0, 0), (56, 59, 26, 10, 12, 0, 891), (59, 60, 31, 0, 0, 0, 0), (60, 61, 13, 0, 0, 0, 0), (61, 64, 1, 48, 0, 0, 1025), (64, 67, 1, 57, 0, 0, 1026), (67, 70, 39, 110, 3, 0, 996), (70, 73, 23, 127, 0, 0, 0), (73, 74, 3, 0, 0, 0, 0), (74, 75, 3, 0, 0, 0, 0), (75, 78, 26, 10, 13, 0, 892), (78, 81, 0, 0, 0, 10000, 0), (81, 84, 24, 91, 5, 0, 0), (84, 85, 3, 0, 0, 0, 0), (85, 88, 26, 10, 13, 0, 892), (88, 91, 22, 111, 0, 0, 0), (91, 93, 0, 0, 0, 10, 0), (93, 94, 3, 0, 0, 0, 0), (94, 97, 26, 10, 13, 0, 892), (97, 98, 9, 0, 2, 0, 0), (98, 99, 3, 0, 0, 0, 0), (99, 102, 27, 10, 9, 0, 888), (102, 103, 3, 0, 0, 0, 0), (103, 106, 26, 10, 12, 0, 891), (106, 107, 31, 0, 0, 0, 0), (107, 108, 9, 0, 0, 0, 0), (108, 110, 0, 0, 0, 48, 0), (110, 111, 9, 0, 1, 0, 0), (111, 114, 28, 10, 13, 0, 892), (114, 115, 3, 0, 0, 0, 0), (115, 116, 19, 0, 0, 0, 0), (116, 119, 26, 10, 12, 0, 891), (119, 120, 0, 0, 0, 1, 0), (120, 121, 9, 0, 0, 0, 0), (121, 124, 28, 10, 12, 0, 891), (124, 127, 22, 40, 0, 0, 0), (127, 128, 3, 0, 0, 0, 0), (128, 131, 26, 10, 12, 0, 891), (131, 133, 2, 4, 0, 0, 0), (133, 134, 9, 0, 1, 0, 0), (134, 135, 0, 0, 0, 3, 0), (135, 138, 24, 153, 4, 0, 0), (138, 139, 3, 0, 0, 0, 0), (139, 142, 26, 10, 13, 0, 892), (142, 143, 13, 0, 0, 0, 0), (143, 144, 2, 1, 0, 0, 0), (144, 145, 13, 0, 0, 0, 0), (145, 146, 2, 2, 0, 0, 0), (146, 147, 13, 0, 0, 0, 0), (147, 150, 39, 110, 3, 0, 996), (150, 153, 23, 163, 1, 0, 0), (153, 154, 3, 0, 0, 0, 0), (154, 155, 0, 0, 0, 2, 0), (155, 157, 2, 4, 0, 0, 0), (157, 160, 37, 118, 2, 0, 1013), (160, 163, 22, 164, 0, 0, 0), (163, 164, 0, 0, 0, 0, 0), (164, 165, 43, 0, 0, 0, 0)]
/-- 120: FlagSignalsModel.takeLines()I -/
def fg_c120 : List fg_I := [(0, 1, 3, 0, 0, 0, 0), (1, 2, 0, 0, 0, 1, 0), (2, 3, 0, 0, 0, 3, 0), (3, 6, 37, 119, 2, 0, 1021), (6, 7, 5, 1, 0, 0, 0), (7, 8, 3, 0, 0, 0, 0), (8, 9, 3, 0, 0, 0, 0), (9, 12, 26, 10, 13, 0, 892), (12, 15, 28, 10, 14, 0, 893), (15, 16, 2, 1, 0, 0, 0), (16, 19, 23, 23, 5, 0, 0), (19, 20, 2, 1, 0, 0, 0), (20, 23, 22, 29, 0, 0, 0), (23, 24, 3, 0, 0, 0, 0), (24, 25, 0, 0, 0, 0, 0), (25, 26, 0, 0, 0, 3, 0), (26, 29, 37, 119, 2, 0, 1021), (29, 30, 5, 1, 0, 0, 0), (30, 31, 3, 0, 0, 0, 0), (31, 32, 3, 0, 0, 0, 0), (32, 35, 26, 10, 13, 0, 892), (35, 38, 28, 10, 15, 0, 894), (38, 39, 2, 1, 0, 0, 0), (39, 40, 43, 0, 0, 0, 0)]
/-- 121: FlagSignalsModel.takeFlag()I -/
def fg_c121 : List fg_I := [(0, 1, 3, 0, 0, 0, 0), (1, 2, 0, 0, 0, 0, 0), (2, 3, 0, 0, 0, 3, 0), (3, 6, 37, 119, 2, 0, 1021), (6, 7, 5, 1, 0, 0, 0), (7, 8, 3, 0, 0, 0, 0), (8, 11, 26, 10, 13, 0, 892), (11, 12, 5, 2, 0, 0, 0), (12, 13, 2, 1, 0, 0, 0), (13, 16, 23, 20, 5, 0, 0), (16, 17, 2, 1, 0, 0, 0), (17, 20, 22, 26, 0, 0, 0), (20, 21, 3, 0, 0, 0, 0), (21, 22, 0, 0, 0, 0, 0), (22, 23, 0, 0, 0, 4, 0), (23, 26, 37, 119, 2, 0, 1021), (26, 27, 5, 1, 0, 0, 0), (27, 28, 3, 0, 0, 0, 0), (28, 31, 26, 10, 13, 0, 892), (31, 32, 5, 3, 0, 0, 0), (32, 33, 2, 1, 0, 0, 0), (33, 36, 23, 40, 5, 0, 0), (36, 37, 2, 1, 0, 0, 0), (37, 40, 22, 46, 0, 0, 0), (40, 41, 3, 0, 0, 0, 0), (41, 42, 0, 0, 0, 0, 0), (42, 43, 0, 0, 0, 4, 0), (43, 46, 37, 119, 2, 0, 1021), (46, 47, 5, 1, 0, 0, 0), (47, 48, 3, 0, 0, 0, 0), (48, 51, 27, 10, 17, 0, 896), (51, 52, 3, 0, 0, 0, 0), (52, 55, 26, 10, 16, 0, 895), (55, 57, 0, 0, 0, 100, 0), (57, 58, 2, 2, 0, 0, 0), (58, 59, 9, 0, 2, 0, 0), (59, 61, 0, 0, 0, 10, 0), (61, 62, 2, 3, 0, 0, 0), (62, 63, 9, 0, 2, 0, 0), (63, 64, 9, 0, 0, 0, 0), (64, 65, 3, 0, 0, 0, 0), (65, 68, 26, 10, 13, 0, 892), (68, 69, 9, 0, 0, 0, 0), (69, 70, 32, 0, 0, 0, 0), (70, 71, 3, 0, 0, 0, 0), (71, 72, 19, 0, 0, 0, 0), (72, 75, 26, 10, 16, 0, 895), (75, 76, 0, 0, 0, 1, 0), (76, 77, 9, 0, 0, 0, 0), (77, 80, 28, 10, 16, 0, 895), (80, 81, 2, 1, 0, 0, 0), (81, 82, 43, 0, 0, 0, 0)]
/-- 122: FlagSignalsModel.takeSignal()I -/
def fg_c122 : List fg_I := [(0, 1, 3, 0, 0, 0, 0), (1, 2, 0, 0, 0, 0, 0), (2, 3, 3, 0, 0, 0, 0), (3, 6, 26, 10, 16, 0, 895), (6, 7, 0, 0, 0, 1, 0), (7, 8, 9, 0, 1, 0, 0), (8, 11, 37, 119, 2, 0, 1021), (11, 12, 5, 1, 0, 0, 0), (12, 13, 3, 0, 0, 0, 0), (13, 16, 27, 10, 20, 0, 899), (16, 17, 0, 0, 0, 4, 0), (17, 18, 3, 0, 0, 0, 0), (18, 21, 26, 10, 18, 0, 897), (21, 22, 9, 0, 2, 0, 0), (22, 23, 3, 0, 0, 0, 0), (23, 26, 26, 10, 13, 0, 892), (26, 27, 32, 0, 0, 0, 0), (27, 28, 0, 0, 0, 1, 0), (28, 29, 5, 2, 0, 0, 0), (29, 30, 2, 1, 0, 0, 0), (30, 33, 23, 102, 1, 0, 0), (33, 34, 3, 0, 0, 0, 0), (34, 37, 37, 117, 0, 0, 1005), (37, 39, 0, 0, 0, 44, 0), (39, 42, 24, 102, 1, 0, 0), (42, 43, 2, 2, 0, 0, 0), (43, 44, 0, 0, 0, 4, 0), (44, 47, 24, 57, 1, 0, 0), (47, 48, 3, 0, 0, 0, 0), (48, 49, 0, 0, 0, 1, 0), (49, 50, 3, 0, 0, 0, 0), (50, 53, 26, 10, 12, 0, 891), (53, 56, 37, 118, 2, 0, 1013), (56, 57, 43, 0, 0, 0, 0), (57, 58, 3, 0, 0, 0, 0), (58, 59, 19, 0, 0, 0, 0), (59, 62, 26, 10, 12, 0, 891), (62, 63, 0, 0, 0, 1, 0), (63, 64, 9, 0, 0, 0, 0), (64, 67, 28, 10, 12, 0, 891), (67, 68, 3, 0, 0, 0, 0), (68, 69, 0, 0, 0, 0, 0), (69, 70, 3, 0, 0, 0, 0), (70, 73, 26, 10, 16, 0, 895), (73, 74, 0, 0, 0, 1, 0), (74, 75, 9, 0, 1, 0, 0), (75, 78, 37, 119, 2, 0, 1021), (78, 79, 5, 1, 0, 0, 0), (79, 80, 3, 0, 0, 0, 0), (80, 83, 27, 10, 20, 0, 899), (83, 84, 0, 0, 0, 4, 0), (84, 85, 3, 0, 0, 0, 0), (85, 88, 26, 10, 18, 0, 897), (88, 89, 9, 0, 2, 0, 0), (89, 90, 2, 2, 0, 0, 0), (90, 91, 9, 0, 0, 0, 0), (91, 92, 3, 0, 0, 0, 0), (92, 95, 26, 10, 13, 0, 892), (95, 96, 32, 0, 0, 0, 0), (96, 99, 8, 2, 0, 1, 0), (99, 102, 22, 29, 0, 0, 0), (102, 103, 3, 0, 0, 0, 0), (103, 106, 27, 10, 19, 0, 898), (106, 107, 3, 0, 0, 0, 0), (107, 110, 26, 10, 18, 0, 897), (110, 111, 2, 2, 0, 0, 0), (111, 112, 32, 0, 0, 0, 0), (112, 113, 3, 0, 0, 0, 0), (113, 114, 19, 0, 0, 0, 0), (114, 117, 26, 10, 18, 0, 897), (117, 118, 0, 0, 0, 1, 0), (118, 119, 9, 0, 0, 0, 0), (119, 122, 28, 10, 18, 0, 897), (122, 123, 2, 1, 0, 0, 0), (123, 124, 43, 0, 0, 0, 0)]
/-- 123: FlagSignalsModel.takeClause()I -/
def fg_c123 : List fg_I := [(0, 1, 3, 0, 0, 0, 0), (1, 4, 37, 117, 0, 0, 1005), (4, 5, 5, 1, 0, 0, 0), (5, 6, 2, 1, 0, 0, 0), (6, 8, 0, 0, 0, 108, 0), (8, 11, 24, 15, 1, 0, 0), (11, 12, 0, 0, 0, 0, 0), (12, 15, 22, 36, 0, 0, 0), (15, 16, 2, 1, 0, 0, 0), (16, 18, 0, 0, 0, 102, 0), (18, 21, 24, 25, 1, 0, 0), (21, 22, 0, 0, 0, 1, 0), (22, 25, 22, 36, 0, 0, 0), (25, 26, 2, 1, 0, 0, 0), (26, 28, 0, 0, 0, 101, 0), (28, 31, 24, 35, 1, 0, 0), (31, 32, 0, 0, 0, 2, 0), (32, 35, 22, 36, 0, 0, 0), (35, 36, 0, 0, 0, (-1), 0), (36, 37, 5, 2, 0, 0, 0), (37, 38, 2, 2, 0, 0, 0), (38, 41, 23, 52, 2, 0, 0), (41, 42, 2, 2, 0, 0, 0), (42, 45, 23, 62, 5, 0, 0), (45, 46, 3, 0, 0, 0, 0), (46, 49, 26, 10, 14, 0, 893), (49, 52, 23, 62, 1, 0, 0), (52, 53, 3, 0, 0, 0, 0), (53, 54, 0, 0, 0, 1, 0), (54, 55, 3, 0, 0, 0, 0), (55, 58, 26, 10, 12, 0, 891), (58, 61, 37, 118, 2, 0, 1013), (61, 62, 43, 0, 0, 0, 0), (62, 63, 2, 2, 0, 0, 0), (63, 66, 23, 81, 1, 0, 0), (66, 67, 3, 0, 0, 0, 0), (67, 70, 26, 10, 14, 0, 893), (70, 73, 23, 77, 5, 0, 0), (73, 74, 0, 0, 0, 1, 0), (74, 77, 22, 117, 0, 0, 0), (77, 78, 0, 0, 0, 0, 0), (78, 81, 22, 117, 0, 0, 0), (81, 82, 2, 2, 0, 0, 0), (82, 83, 0, 0, 0, 1, 0), (83, 86, 24, 103, 1, 0, 0), (86, 87, 3, 0, 0, 0, 0), (87, 90, 26, 10, 16, 0, 895), (90, 92, 0, 0, 0, 10, 0), (92, 95, 24, 99, 1, 0, 0), (95, 96, 0, 0, 0, 1, 0), (96, 99, 22, 117, 0, 0, 0), (99, 100, 0, 0, 0, 0, 0), (100, 103, 22, 117, 0, 0, 0), (103, 104, 3, 0, 0, 0, 0), (104, 107, 26, 10, 18, 0, 897), (107, 109, 0, 0, 0, 10, 0), (109, 112, 24, 116, 1, 0, 0), (112, 113, 0, 0, 0, 1, 0), (113, 116, 22, 117, 0, 0, 0), (116, 117, 0, 0, 0, 0, 0), (117, 118, 5, 3, 0, 0, 0), (118, 119, 2, 3, 0, 0, 0), (119, 122, 23, 132, 0, 0, 0), (122, 123, 3, 0, 0, 0, 0), (123, 124, 0, 0, 0, 3, 0), (124, 125, 3, 0, 0, 0, 0), (125, 128, 26, 10, 12, 0, 891), (128, 131, 37, 118, 2, 0, 1013), (131, 132, 43, 0, 0, 0, 0), (132, 133, 3, 0, 0, 0, 0), (133, 134, 19, 0, 0, 0, 0), (134, 137, 26, 10, 12, 0, 891), (137, 138, 0, 0, 0, 1, 0), (138, 139, 9, 0, 0, 0, 0), (139, 142, 28, 10, 12, 0, 891), (142, 143, 2, 2, 0, 0, 0), (143, 146, 23, 153, 1, 0, 0), (146, 147, 3, 0, 0, 0, 0), (147, 150, 37, 120, 0, 0, 1017), (150, 153, 22, 169, 0, 0, 0), (153, 154, 2, 2, 0, 0, 0), (154, 155, 0, 0, 0, 1, 0), (155, 158, 24, 165, 1, 0, 0), (158, 159, 3, 0, 0, 0, 0), (159, 162, 37, 121, 0, 0, 1027), (162, 165, 22, 169, 0, 0, 0), (165, 166, 3, 0, 0, 0, 0), (166, 169, 37, 122, 0, 0, 1031), (169, 171, 5, 4, 0, 0, 0), (171, 173, 2, 4, 0, 0, 0), (173, 176, 23, 195, 1, 0, 0), (176, 177, 3, 0, 0, 0, 0), (177, 180, 37, 117, 0, 0, 1005), (180, 182, 0, 0, 0, 59, 0), (182, 185, 24, 195, 0, 0, 0), (185, 186, 3, 0, 0, 0, 0), (186, 187, 0, 0, 0, 1, 0), (187, 188, 3, 0, 0, 0, 0), (188, 191, 26, 10, 12, 0, 891), (191, 194, 37, 118, 2, 0, 1013), (194, 195, 43, 0, 0, 0, 0), (195, 196, 3, 0, 0, 0, 0), (196, 197, 19, 0, 0, 0, 0), (197, 200, 26, 10, 12, 0, 891), (200, 201, 0, 0, 0, 1, 0), (201, 202, 9, 0, 0, 0, 0), (202, 205, 28, 10, 12, 0, 891), (205, 207, 2, 4, 0, 0, 0), (207, 208, 43, 0, 0, 0, 0)]
/-- 124: FlagSignalsModel.copyRow([I[II)V -/
def fg_c124 : List fg_I := [(0, 1, 0, 0, 0, 0, 0), (1, 2, 5, 3, 0, 0, 0), (2, 3, 2, 3, 0, 0, 0), (3, 4, 2, 2, 0, 0, 0), (4, 7, 24, 19, 3, 0, 0), (7, 8, 3, 1, 0, 0, 0), (8, 9, 2, 3, 0, 0, 0), (9, 10, 3, 0, 0, 0, 0), (10, 11, 2, 3, 0, 0, 0), (11, 12, 31, 0, 0, 0, 0), (12, 13, 32, 0, 0, 0, 0), (13, 16, 8, 3, 0, 1, 0), (16, 19, 22, 2, 0, 0, 0), (19, 20, 45, 0, 0, 0, 0)]
/-- 125: FlagSignalsModel.beginAll()V -/
def fg_c125 : List fg_I := [(0, 1, 0, 0, 0, 0, 0), (1, 2, 5, 1, 0, 0, 0), (2, 3, 2, 1, 0, 0, 0), (3, 5, 0, 0, 0, 61, 0), (5, 8, 24, 53, 3, 0, 0), (8, 9, 3, 0, 0, 0, 0), (9, 12, 27, 10, 7, 0, 886), (12, 13, 2, 1, 0, 0, 0), (13, 14, 2, 1, 0, 0, 0), (14, 15, 13, 0, 0, 0, 0), (15, 18, 1, 20, 0, 0, 1042), (18, 21, 1, 29, 0, 0, 1043), (21, 24, 39, 110, 3, 0, 996), (24, 27, 23, 41, 1, 0, 0), (27, 28, 2, 1, 0, 0, 0), (28, 29, 13, 0, 0, 0, 0), (29, 32, 1, 40, 0, 0, 1044), (32, 35, 1, 57, 0, 0, 1026), (35, 38, 39, 110, 3, 0, 996), (38, 41, 23, 45, 0, 0, 0), (41, 42, 0, 0, 0, (-1), 0), (42, 45, 22, 46, 0, 0, 0), (45, 46, 0, 0, 0, 0, 0), (46, 47, 32, 0, 0, 0, 0), (47, 50, 8, 1, 0, 1, 0), (50, 53, 22, 2, 0, 0, 0), (53, 54, 3, 0, 0, 0, 0), (54, 57, 27, 10, 3, 0, 882), (57, 58, 3, 0, 0, 0, 0), (58, 61, 27, 10, 7, 0, 886), (61, 62, 3, 0, 0, 0, 0), (62, 65, 26, 10, 2, 0, 881), (65, 68, 40, 124, 3, 0, 1035), (68, 69, 3, 0, 0, 0, 0), (69, 72, 27, 10, 7, 0, 886), (72, 74, 0, 0, 0, 59, 0), (74, 75, 3, 0, 0, 0, 0), (75, 78, 26, 10, 0, 0, 879), (78, 81, 23, 85, 5, 0, 0), (81, 82, 0, 0, 0, 1, 0), (82, 85, 22, 86, 0, 0, 0), (85, 86, 0, 0, 0, 0, 0), (86, 87, 32, 0, 0, 0, 0), (87, 88, 45, 0, 0, 0, 0)]
/-- 126: FlagSignalsModel.ship()I -/
def fg_c126 : List fg_I := [(0, 1, 3, 0, 0, 0, 0), (1, 2, 0, 0, 0, (-1), 0), (2, 5, 28, 10, 11, 0, 890), (5, 6, 3, 0, 0, 0, 0), (6, 7, 0, 0, 0, 0, 0), (7, 10, 28, 10, 12, 0, 891), (10, 11, 3, 0, 0, 0, 0), (11, 12, 0, 0, 0, 0, 0), (12, 15, 28, 10, 14, 0, 893), (15, 16, 3, 0, 0, 0, 0), (16, 17, 0, 0, 0, 0, 0), (17, 20, 28, 10, 15, 0, 894), (20, 21, 3, 0, 0, 0, 0), (21, 22, 0, 0, 0, 0, 0), (22, 25, 28, 10, 16, 0, 895), (25, 26, 3, 0, 0, 0, 0), (26, 27, 0, 0, 0, 0, 0), (27, 30, 28, 10, 18, 0, 897), (30, 31, 0, 0, 0, 0, 0), (31, 32, 5, 1, 0, 0, 0), (32, 33, 2, 1, 0, 0, 0), (33, 36, 23, 51, 1, 0, 0), (36, 37, 3, 0, 0, 0, 0), (37, 40, 37, 117, 0, 0, 1005), (40, 43, 23, 51, 2, 0, 0), (43, 44, 3, 0, 0, 0, 0), (44, 47, 37, 123, 0, 0, 1009), (47, 48, 5, 1, 0, 0, 0), (48, 51, 22, 32, 0, 0, 0), (51, 52, 3, 0, 0, 0, 0), (52, 53, 0, 0, 0, 0, 0), (53, 56, 28, 10, 10, 0, 889), (56, 57, 2, 1, 0, 0, 0), (57, 60, 23, 65, 5, 0, 0), (60, 62, 0, 0, 0, (-10), 0), (62, 63, 2, 1, 0, 0, 0), (63, 64, 9, 0, 1, 0, 0), (64, 65, 43, 0, 0, 0, 0), (65, 66, 3, 0, 0, 0, 0), (66, 67, 3, 0, 0, 0, 0), (67, 70, 26, 10, 14, 0, 893), (70, 73, 28, 10, 0, 0, 879), (73, 74, 3, 0, 0, 0, 0), (74, 75, 3, 0, 0, 0, 0), (75, 78, 26, 10, 15, 0, 894), (78, 81, 28, 10, 1, 0, 880), (81, 82, 3, 0, 0, 0, 0), (82, 83, 3, 0, 0, 0, 0), (83, 86, 26, 10, 16, 0, 895), (86, 89, 28, 10, 2, 0, 881), (89, 90, 3, 0, 0, 0, 0), (90, 91, 3, 0, 0, 0, 0), (91, 94, 26, 10, 18, 0, 897), (94, 97, 28, 10, 4, 0, 883), (97, 98, 3, 0, 0, 0, 0), (98, 101, 27, 10, 17, 0, 896), (101, 102, 3, 0, 0, 0, 0), (102, 105, 27, 10, 3, 0, 882), (105, 106, 3, 0, 0, 0, 0), (106, 109, 26, 10, 2, 0, 881), (109, 112, 40, 124, 3, 0, 1035), (112, 113, 3, 0, 0, 0, 0), (113, 116, 27, 10, 19, 0, 898), (116, 117, 3, 0, 0, 0, 0), (117, 120, 27, 10, 5, 0, 884), (120, 121, 3, 0, 0, 0, 0), (121, 124, 26, 10, 4, 0, 883), (124, 127, 40, 124, 3, 0, 1035), (127, 128, 3, 0, 0, 0, 0), (128, 131, 27, 10, 20, 0, 899), (131, 132, 3, 0, 0, 0, 0), (132, 135, 27, 10, 6, 0, 885), (135, 136, 0, 0, 0, 4, 0), (136, 137, 3, 0, 0, 0, 0), (137, 140, 26, 10, 4, 0, 883), (140, 141, 9, 0, 2, 0, 0), (141, 144, 40, 124, 3, 0, 1035), (144, 145, 3, 0, 0, 0, 0), (145, 148, 38, 125, 0, 0, 1038), (148, 149, 3, 0, 0, 0, 0), (149, 150, 0, 0, 0, 0, 0), (150, 153, 28, 10, 26, 0, 905), (153, 154, 3, 0, 0, 0, 0), (154, 155, 0, 0, 0, 0, 0), (155, 158, 28, 10, 32, 0, 911), (158, 159, 3, 0, 0, 0, 0), (159, 160, 0, 0, 0, 0, 0), (160, 163, 28, 10, 30, 0, 909), (163, 164, 3, 0, 0, 0, 0), (164, 167, 27, 10, 36, 0, 915), (167, 168, 0, 0, 0, 0, 0), (168, 169, 0, 0, 0, 0, 0), (169, 170, 34, 0, 0, 0, 0), (170, 171, 3, 0, 0, 0, 0), (171, 174, 27, 10, 36, 0, 915), (174, 175, 0, 0, 0, 1, 0), (175, 176, 0, 0, 0, 0, 0), (176, 177, 34, 0, 0, 0, 0), (177, 178, 3, 0, 0, 0, 0), (178, 181, 26, 10, 4, 0, 883), (181, 182, 43, 0, 0, 0, 0)]
/-- 127: FlagSignalsModel.fault()I -/
def fg_c127 : List fg_I := [(0, 1, 3, 0, 0, 0, 0), (1, 4, 26, 10, 11, 0, 890), (4, 5, 43, 0, 0, 0, 0)]
/-- 128: FlagSignalsModel.freeFlags()I -/
def fg_c128 : List fg_I := [(0, 1, 0, 0, 0, 0, 0), (1, 2, 5, 1, 0, 0, 0), (2, 3, 0, 0, 0, 0, 0), (3, 4, 5, 2, 0, 0, 0), (4, 5, 2, 2, 0, 0, 0), (5, 6, 3, 0, 0, 0, 0), (6, 9, 26, 10, 2, 0, 881), (9, 12, 24, 53, 3, 0, 0), (12, 13, 2, 1, 0, 0, 0), (13, 14, 3, 0, 0, 0, 0), (14, 17, 27, 10, 7, 0, 886), (17, 19, 0, 0, 0, 20, 0), (19, 20, 2, 2, 0, 0, 0), (20, 21, 9, 0, 0, 0, 0), (21, 22, 31, 0, 0, 0, 0), (22, 23, 0, 0, 0, (-1), 0), (23, 26, 24, 44, 1, 0, 0), (26, 27, 3, 0, 0, 0, 0), (27, 30, 27, 10, 7, 0, 886), (30, 32, 0, 0, 0, 30, 0), (32, 33, 2, 2, 0, 0, 0), (33, 34, 9, 0, 0, 0, 0), (34, 35, 31, 0, 0, 0, 0), (35, 38, 23, 44, 1, 0, 0), (38, 39, 0, 0, 0, 1, 0), (39, 40, 2, 2, 0, 0, 0), (40, 41, 9, 0, 6, 0, 0), (41, 44, 22, 45, 0, 0, 0), (44, 45, 0, 0, 0, 0, 0), (45, 46, 9, 0, 4, 0, 0), (46, 47, 5, 1, 0, 0, 0), (47, 50, 8, 2, 0, 1, 0), (50, 53, 22, 4, 0, 0, 0), (53, 54, 2, 1, 0, 0, 0), (54, 55, 43, 0, 0, 0, 0)]
/-- 129: FlagSignalsModel.tornFlags()I -/
def fg_c129 : List fg_I := [(0, 1, 0, 0, 0, 0, 0), (1, 2, 5, 1, 0, 0, 0), (2, 3, 0, 0, 0, 0, 0), (3, 4, 5, 2, 0, 0, 0), (4, 5, 2, 2, 0, 0, 0), (5, 6, 3, 0, 0, 0, 0), (6, 9, 26, 10, 2, 0, 881), (9, 12, 24, 41, 3, 0, 0), (12, 13, 2, 1, 0, 0, 0), (13, 14, 3, 0, 0, 0, 0), (14, 17, 27, 10, 7, 0, 886), (17, 19, 0, 0, 0, 30, 0), (19, 20, 2, 2, 0, 0, 0), (20, 21, 9, 0, 0, 0, 0), (21, 22, 31, 0, 0, 0, 0), (22, 23, 0, 0, 0, 1, 0), (23, 26, 24, 32, 1, 0, 0), (26, 27, 0, 0, 0, 1, 0), (27, 28, 2, 2, 0, 0, 0), (28, 29, 9, 0, 6, 0, 0), (29, 32, 22, 33, 0, 0, 0), (32, 33, 0, 0, 0, 0, 0), (33, 34, 9, 0, 4, 0, 0), (34, 35, 5, 1, 0, 0, 0), (35, 38, 8, 2, 0, 1, 0), (38, 41, 22, 4, 0, 0, 0), (41, 42, 2, 1, 0, 0, 0), (42, 43, 43, 0, 0, 0, 0)]
/-- 130: FlagSignalsModel.freeSubs()I -/
def fg_c130 : List fg_I := [(0, 1, 0, 0, 0, 0, 0), (1, 2, 5, 1, 0, 0, 0), (2, 3, 0, 0, 0, 1, 0), (3, 4, 5, 2, 0, 0, 0), (4, 5, 2, 2, 0, 0, 0), (5, 6, 3, 0, 0, 0, 0), (6, 9, 26, 10, 1, 0, 880), (9, 12, 24, 43, 4, 0, 0), (12, 13, 2, 1, 0, 0, 0), (13, 14, 3, 0, 0, 0, 0), (14, 17, 27, 10, 7, 0, 886), (17, 19, 0, 0, 0, 40, 0), (19, 20, 2, 2, 0, 0, 0), (20, 21, 9, 0, 0, 0, 0), (21, 22, 0, 0, 0, 1, 0), (22, 23, 9, 0, 1, 0, 0), (23, 24, 31, 0, 0, 0, 0), (24, 25, 0, 0, 0, (-1), 0), (25, 28, 24, 34, 1, 0, 0), (28, 29, 0, 0, 0, 1, 0), (29, 30, 2, 2, 0, 0, 0), (30, 31, 9, 0, 6, 0, 0), (31, 34, 22, 35, 0, 0, 0), (34, 35, 0, 0, 0, 0, 0), (35, 36, 9, 0, 4, 0, 0), (36, 37, 5, 1, 0, 0, 0), (37, 40, 8, 2, 0, 1, 0), (40, 43, 22, 4, 0, 0, 0), (43, 44, 2, 1, 0, 0, 0), (44, 45, 43, 0, 0, 0, 0)]
/-- 131: FlagSignalsModel.allSubs()I -/
def fg_c131 : List fg_I := [(0, 1, 0, 0, 0, 0, 0), (1, 2, 5, 1, 0, 0, 0), (2, 3, 0, 0, 0, 1, 0), (3, 4, 5, 2, 0, 0, 0), (4, 5, 2, 2, 0, 0, 0), (5, 6, 3, 0, 0, 0, 0), (6, 9, 26, 10, 1, 0, 880), (9, 12, 24, 24, 4, 0, 0), (12, 13, 2, 1, 0, 0, 0), (13, 14, 0, 0, 0, 1, 0), (14, 15, 2, 2, 0, 0, 0), (15, 16, 9, 0, 6, 0, 0), (16, 17, 9, 0, 4, 0, 0), (17, 18, 5, 1, 0, 0, 0), (18, 21, 8, 2, 0, 1, 0), (21, 24, 22, 4, 0, 0, 0), (24, 25, 2, 1, 0, 0, 0), (25, 26, 43, 0, 0, 0, 0)]
/-- 132: FlagSignalsModel.isUsed(II)Z -/
def fg_c132 : List fg_I := [(0, 1, 0, 0, 0, 0, 0), (1, 2, 5, 3, 0, 0, 0), (2, 3, 0, 0, 0, 0, 0), (3, 5, 5, 4, 0, 0, 0), (5, 7, 2, 4, 0, 0, 0), (7, 8, 2, 2, 0, 0, 0), (8, 11, 24, 38, 3, 0, 0), (11, 12, 2, 3, 0, 0, 0), (12, 15, 23, 26, 1, 0, 0), (15, 16, 3, 0, 0, 0, 0), (16, 19, 27, 10, 21, 0, 900), (19, 21, 2, 4, 0, 0, 0), (21, 22, 31, 0, 0, 0, 0), (22, 23, 2, 1, 0, 0, 0), (23, 26, 24, 30, 1, 0, 0), (26, 27, 0, 0, 0, 1, 0), (27, 30, 22, 31, 0, 0, 0), (30, 31, 0, 0, 0, 0, 0), (31, 32, 5, 3, 0, 0, 0), (32, 35, 8, 4, 0, 1, 0), (35, 38, 22, 5, 0, 0, 0), (38, 39, 2, 3, 0, 0, 0), (39, 40, 44, 0, 0, 0, 0)]
/-- 133: FlagSignalsModel.itemFor(IIII)I -/
def fg_c133 : List fg_I := [(0, 1, 3, 0, 0, 0, 0), (1, 4, 27, 10, 6, 0, 885), (4, 5, 0, 0, 0, 4, 0), (5, 6, 2, 1, 0, 0, 0), (6, 7, 9, 0, 2, 0, 0), (7, 8, 2, 2, 0, 0, 0), (8, 9, 9, 0, 0, 0, 0), (9, 10, 31, 0, 0, 0, 0), (10, 12, 5, 5, 0, 0, 0), (12, 13, 2, 3, 0, 0, 0), (13, 15, 2, 5, 0, 0, 0), (15, 18, 39, 111, 2, 0, 1073), (18, 21, 23, 34, 0, 0, 0), (21, 22, 3, 0, 0, 0, 0), (22, 24, 2, 5, 0, 0, 0), (24, 25, 2, 2, 0, 0, 0), (25, 28, 37, 132, 2, 0, 1084), (28, 31, 23, 34, 1, 0, 0), (31, 33, 2, 5, 0, 0, 0), (33, 34, 43, 0, 0, 0, 0), (34, 35, 0, 0, 0, 1, 0), (35, 37, 5, 6, 0, 0, 0), (37, 39, 2, 6, 0, 0, 0), (39, 40, 2, 2, 0, 0, 0), (40, 43, 24, 96, 4, 0, 0), (43, 45, 2, 4, 0, 0, 0), (45, 47, 2, 6, 0, 0, 0), (47, 50, 39, 111, 2, 0, 1073), (50, 53, 23, 90, 0, 0, 0), (53, 54, 3, 0, 0, 0, 0), (54, 56, 0, 0, 0, 20, 0), (56, 58, 2, 6, 0, 0, 0), (58, 59, 9, 0, 0, 0, 0), (59, 60, 2, 2, 0, 0, 0), (60, 63, 37, 132, 2, 0, 1084), (63, 66, 23, 90, 1, 0, 0), (66, 67, 3, 0, 0, 0, 0), (67, 70, 27, 10, 6, 0, 885), (70, 71, 0, 0, 0, 4, 0), (71, 72, 2, 1, 0, 0, 0), (72, 73, 9, 0, 2, 0, 0), (73, 75, 2, 6, 0, 0, 0), (75, 76, 9, 0, 0, 0, 0), (76, 77, 0, 0, 0, 1, 0), (77, 78, 9, 0, 1, 0, 0), (78, 79, 31, 0, 0, 0, 0), (79, 81, 2, 5, 0, 0, 0), (81, 84, 24, 90, 1, 0, 0), (84, 86, 0, 0, 0, 20, 0), (86, 88, 2, 6, 0, 0, 0), (88, 89, 9, 0, 0, 0, 0), (89, 90, 43, 0, 0, 0, 0), (90, 93, 8, 6, 0, 1, 0), (93, 96, 22, 37, 0, 0, 0), (96, 97, 0, 0, 0, (-1), 0), (97, 98, 43, 0, 0, 0, 0)]
/-- 134: FlagSignalsModel.goesUp(III)Z -/
def fg_c134 : List fg_I := [(0, 1, 0, 0, 0, 0, 0), (1, 3, 5, 4, 0, 0, 0), (3, 5, 2, 4, 0, 0, 0), (5, 6, 0, 0, 0, 4, 0), (6, 9, 24, 23, 3, 0, 0), (9, 10, 3, 0, 0, 0, 0), (10, 13, 27, 10, 21, 0, 900), (13, 15, 2, 4, 0, 0, 0), (15, 16, 0, 0, 0, (-1), 0), (16, 17, 32, 0, 0, 0, 0), (17, 20, 8, 4, 0, 1, 0), (20, 23, 22, 3, 0, 0, 0), (23, 24, 0, 0, 0, 0, 0), (24, 26, 5, 4, 0, 0, 0), (26, 28, 2, 4, 0, 0, 0), (28, 29, 3, 0, 0, 0, 0), (29, 32, 27, 10, 5, 0, 884), (32, 33, 2, 1, 0, 0, 0), (33, 34, 31, 0, 0, 0, 0), (34, 37, 24, 72, 3, 0, 0), (37, 38, 3, 0, 0, 0, 0), (38, 41, 27, 10, 21, 0, 900), (41, 43, 2, 4, 0, 0, 0), (43, 44, 3, 0, 0, 0, 0), (44, 45, 2, 1, 0, 0, 0), (45, 47, 2, 4, 0, 0, 0), (47, 48, 2, 2, 0, 0, 0), (48, 49, 2, 3, 0, 0, 0), (49, 52, 37, 133, 4, 0, 1080), (52, 53, 32, 0, 0, 0, 0), (53, 54, 3, 0, 0, 0, 0), (54, 57, 27, 10, 21, 0, 900), (57, 59, 2, 4, 0, 0, 0), (59, 60, 31, 0, 0, 0, 0), (60, 61, 0, 0, 0, (-1), 0), (61, 64, 24, 66, 1, 0, 0), (64, 65, 0, 0, 0, 0, 0), (65, 66, 44, 0, 0, 0, 0), (66, 69, 8, 4, 0, 1, 0), (69, 72, 22, 26, 0, 0, 0), (72, 73, 0, 0, 0, 1, 0), (73, 74, 44, 0, 0, 0, 0)]
/-- 135: FlagSignalsModel.canGoUp()I -/
def fg_c135 : List fg_I := [(0, 1, 0, 0, 0, 0, 0), (1, 2, 5, 1, 0, 0, 0), (2, 3, 0, 0, 0, 0, 0), (3, 4, 5, 2, 0, 0, 0), (4, 5, 2, 2, 0, 0, 0), (5, 6, 3, 0, 0, 0, 0), (6, 9, 26, 10, 4, 0, 883), (9, 12, 24, 44, 3, 0, 0), (12, 13, 2, 1, 0, 0, 0), (13, 14, 3, 0, 0, 0, 0), (14, 15, 2, 2, 0, 0, 0), (15, 16, 3, 0, 0, 0, 0), (16, 19, 37, 128, 0, 0, 1109), (19, 20, 3, 0, 0, 0, 0), (20, 23, 37, 130, 0, 0, 1117), (23, 26, 37, 134, 3, 0, 1076), (26, 29, 23, 35, 0, 0, 0), (29, 30, 0, 0, 0, 1, 0), (30, 31, 2, 2, 0, 0, 0), (31, 32, 9, 0, 6, 0, 0), (32, 35, 22, 36, 0, 0, 0), (35, 36, 0, 0, 0, 0, 0), (36, 37, 9, 0, 4, 0, 0), (37, 38, 5, 1, 0, 0, 0), (38, 41, 8, 2, 0, 1, 0), (41, 44, 22, 4, 0, 0, 0), (44, 45, 2, 1, 0, 0, 0), (45, 46, 43, 0, 0, 0, 0)]
/-- 136: FlagSignalsModel.seenColour(II)I -/
def fg_c136 : List fg_I := [(0, 1, 2, 1, 0, 0, 0), (1, 4, 23, 8, 1, 0, 0), (4, 5, 2, 0, 0, 0, 0), (5, 8, 22, 27, 0, 0, 0), (8, 9, 2, 0, 0, 0, 0), (9, 10, 0, 0, 0, 1, 0), (10, 13, 24, 17, 1, 0, 0), (13, 14, 0, 0, 0, 0, 0), (14, 17, 22, 27, 0, 0, 0), (17, 18, 2, 0, 0, 0, 0), (18, 19, 0, 0, 0, 4, 0), (19, 22, 24, 26, 1, 0, 0), (22, 23, 0, 0, 0, 3, 0), (23, 26, 22, 27, 0, 0, 0), (26, 27, 2, 0, 0, 0, 0), (27, 28, 43, 0, 0, 0, 0)]
/-- 137: FlagSignalsModel.lookOf(III)I -/
def fg_c137 : List fg_I := [(0, 1, 2, 0, 0, 0, 0), (1, 3, 0, 0, 0, 100, 0), (3, 4, 10, 0, 0, 0, 0), (4, 5, 5, 3, 0, 0, 0), (5, 6, 2, 0, 0, 0, 0), (6, 8, 0, 0, 0, 10, 0), (8, 9, 10, 0, 0, 0, 0), (9, 11, 0, 0, 0, 10, 0), (11, 12, 11, 0, 0, 0, 0), (12, 14, 5, 4, 0, 0, 0), (14, 15, 2, 3, 0, 0, 0), (15, 18, 23, 37, 0, 0, 0), (18, 19, 2, 3, 0, 0, 0), (19, 20, 0, 0, 0, 1, 0), (20, 23, 24, 27, 1, 0, 0), (23, 24, 2, 2, 0, 0, 0), (24, 27, 23, 37, 0, 0, 0), (27, 28, 2, 3, 0, 0, 0), (28, 29, 0, 0, 0, 1, 0), (29, 32, 24, 41, 5, 0, 0), (32, 33, 2, 1, 0, 0, 0), (33, 34, 0, 0, 0, 2, 0), (34, 37, 24, 41, 1, 0, 0), (37, 38, 0, 0, 0, 1, 0), (38, 41, 22, 42, 0, 0, 0), (41, 42, 0, 0, 0, 0, 0), (42, 44, 5, 5, 0, 0, 0), (44, 46, 2, 5, 0, 0, 0), (46, 49, 23, 54, 0, 0, 0), (49, 51, 2, 4, 0, 0, 0), (51, 54, 22, 58, 0, 0, 0), (54, 55, 2, 0, 0, 0, 0), (55, 57, 0, 0, 0, 10, 0), (57, 58, 11, 0, 0, 0, 0), (58, 60, 5, 6, 0, 0, 0), (60, 62, 2, 5, 0, 0, 0), (62, 65, 23, 69, 0, 0, 0), (65, 66, 0, 0, 0, 0, 0), (66, 69, 22, 70, 0, 0, 0), (69, 70, 2, 3, 0, 0, 0), (70, 71, 5, 3, 0, 0, 0), (71, 73, 0, 0, 0, 25, 0), (73, 74, 2, 3, 0, 0, 0), (74, 75, 9, 0, 2, 0, 0), (75, 76, 0, 0, 0, 5, 0), (76, 78, 2, 4, 0, 0, 0), (78, 79, 2, 1, 0, 0, 0), (79, 82, 39, 136, 2, 0, 1136), (82, 83, 9, 0, 2, 0, 0), (83, 84, 9, 0, 0, 0, 0), (84, 86, 2, 6, 0, 0, 0), (86, 87, 2, 1, 0, 0, 0), (87, 90, 39, 136, 2, 0, 1136), (90, 91, 9, 0, 0, 0, 0), (91, 92, 43, 0, 0, 0, 0)]
/-- 138: FlagSignalsModel.layLooks(II)V -/
def fg_c138 : List fg_I := [(0, 1, 0, 0, 0, 1, 0), (1, 2, 3, 0, 0, 0, 0), (2, 5, 26, 10, 2, 0, 881), (5, 6, 9, 0, 6, 0, 0), (6, 7, 0, 0, 0, 1, 0), (7, 8, 9, 0, 1, 0, 0), (8, 9, 3, 0, 0, 0, 0), (9, 12, 37, 129, 0, 0, 1062), (12, 13, 0, 0, 0, (-1), 0), (13, 14, 9, 0, 5, 0, 0), (14, 15, 9, 0, 3, 0, 0), (15, 16, 5, 3, 0, 0, 0), (16, 17, 0, 0, 0, 0, 0), (17, 19, 5, 4, 0, 0, 0), (19, 21, 2, 4, 0, 0, 0), (21, 22, 3, 0, 0, 0, 0), (22, 25, 26, 10, 4, 0, 883), (25, 28, 24, 137, 3, 0, 0), (28, 29, 3, 0, 0, 0, 0), (29, 32, 27, 10, 22, 0, 901), (32, 34, 2, 4, 0, 0, 0), (34, 35, 3, 0, 0, 0, 0), (35, 37, 2, 4, 0, 0, 0), (37, 38, 2, 3, 0, 0, 0), (38, 39, 3, 0, 0, 0, 0), (39, 42, 37, 131, 0, 0, 1066), (42, 45, 37, 134, 3, 0, 1076), (45, 46, 34, 0, 0, 0, 0), (46, 47, 0, 0, 0, 0, 0), (47, 49, 5, 5, 0, 0, 0), (49, 51, 2, 5, 0, 0, 0), (51, 52, 0, 0, 0, 4, 0), (52, 55, 24, 131, 3, 0, 0), (55, 56, 3, 0, 0, 0, 0), (56, 59, 27, 10, 23, 0, 902), (59, 60, 0, 0, 0, 4, 0), (60, 62, 2, 4, 0, 0, 0), (62, 63, 9, 0, 2, 0, 0), (63, 65, 2, 5, 0, 0, 0), (65, 66, 9, 0, 0, 0, 0), (66, 67, 3, 0, 0, 0, 0), (67, 70, 27, 10, 21, 0, 900), (70, 72, 2, 5, 0, 0, 0), (72, 73, 31, 0, 0, 0, 0), (73, 74, 0, 0, 0, (-1), 0), (74, 77, 24, 81, 1, 0, 0), (77, 78, 0, 0, 0, (-1), 0), (78, 81, 22, 124, 0, 0, 0), (81, 82, 3, 0, 0, 0, 0), (82, 85, 27, 10, 21, 0, 900), (85, 87, 2, 5, 0, 0, 0), (87, 88, 31, 0, 0, 0, 0), (88, 90, 0, 0, 0, 20, 0), (90, 93, 24, 107, 5, 0, 0), (93, 96, 0, 0, 0, 180, 0), (96, 97, 3, 0, 0, 0, 0), (97, 100, 27, 10, 21, 0, 900), (100, 102, 2, 5, 0, 0, 0), (102, 103, 31, 0, 0, 0, 0), (103, 104, 9, 0, 0, 0, 0), (104, 107, 22, 124, 0, 0, 0), (107, 108, 3, 0, 0, 0, 0), (108, 111, 27, 10, 7, 0, 886), (111, 112, 3, 0, 0, 0, 0), (112, 115, 27, 10, 21, 0, 900), (115, 117, 2, 5, 0, 0, 0), (117, 118, 31, 0, 0, 0, 0), (118, 119, 31, 0, 0, 0, 0), (119, 120, 2, 1, 0, 0, 0), (120, 121, 2, 2, 0, 0, 0), (121, 124, 39, 137, 3, 0, 1133), (124, 125, 32, 0, 0, 0, 0), (125, 128, 8, 5, 0, 1, 0), (128, 131, 22, 49, 0, 0, 0), (131, 134, 8, 4, 0, 1, 0), (134, 137, 22, 19, 0, 0, 0), (137, 138, 45, 0, 0, 0, 0)]
/-- 139: FlagSignalsModel.isLike(II)Z -/
def fg_c139 : List fg_I := [(0, 1, 3, 0, 0, 0, 0), (1, 4, 27, 10, 22, 0, 901), (4, 5, 2, 1, 0, 0, 0), (5, 6, 33, 0, 0, 0, 0), (6, 9, 23, 22, 0, 0, 0), (9, 10, 3, 0, 0, 0, 0), (10, 13, 27, 10, 22, 0, 901), (13, 14, 2, 2, 0, 0, 0), (14, 15, 33, 0, 0, 0, 0), (15, 18, 23, 22, 0, 0, 0), (18, 19, 0, 0, 0, 1, 0), (19, 22, 22, 23, 0, 0, 0), (22, 23, 0, 0, 0, 0, 0), (23, 24, 5, 3, 0, 0, 0), (24, 25, 0, 0, 0, 0, 0), (25, 27, 5, 4, 0, 0, 0), (27, 29, 2, 4, 0, 0, 0), (29, 30, 0, 0, 0, 4, 0), (30, 33, 24, 74, 3, 0, 0), (33, 34, 2, 3, 0, 0, 0), (34, 37, 23, 66, 0, 0, 0), (37, 38, 3, 0, 0, 0, 0), (38, 41, 27, 10, 23, 0, 902), (41, 42, 0, 0, 0, 4, 0), (42, 43, 2, 1, 0, 0, 0), (43, 44, 9, 0, 2, 0, 0), (44, 46, 2, 4, 0, 0, 0), (46, 47, 9, 0, 0, 0, 0), (47, 48, 31, 0, 0, 0, 0), (48, 49, 3, 0, 0, 0, 0), (49, 52, 27, 10, 23, 0, 902), (52, 53, 0, 0, 0, 4, 0), (53, 54, 2, 2, 0, 0, 0), (54, 55, 9, 0, 2, 0, 0), (55, 57, 2, 4, 0, 0, 0), (57, 58, 9, 0, 0, 0, 0), (58, 59, 31, 0, 0, 0, 0), (59, 62, 24, 66, 1, 0, 0), (62, 63, 0, 0, 0, 1, 0), (63, 66, 22, 67, 0, 0, 0), (66, 67, 0, 0, 0, 0, 0), (67, 68, 5, 3, 0, 0, 0), (68, 71, 8, 4, 0, 1, 0), (71, 74, 22, 27, 0, 0, 0), (74, 75, 2, 3, 0, 0, 0), (75, 76, 44, 0, 0, 0, 0)]
/-- 140: FlagSignalsModel.likeOf(I)I -/
def fg_c140 : List fg_I := [(0, 1, 0, 0, 0, 0, 0), (1, 2, 5, 2, 0, 0, 0), (2, 3, 0, 0, 0, 0, 0), (3, 4, 5, 3, 0, 0, 0), (4, 5, 2, 3, 0, 0, 0), (5, 6, 3, 0, 0, 0, 0), (6, 9, 26, 10, 4, 0, 883), (9, 12, 24, 37, 3, 0, 0), (12, 13, 2, 2, 0, 0, 0), (13, 14, 3, 0, 0, 0, 0), (14, 15, 2, 1, 0, 0, 0), (15, 16, 2, 3, 0, 0, 0), (16, 19, 37, 139, 2, 0, 1143), (19, 22, 23, 28, 0, 0, 0), (22, 23, 0, 0, 0, 1, 0), (23, 24, 2, 3, 0, 0, 0), (24, 25, 9, 0, 6, 0, 0), (25, 28, 22, 29, 0, 0, 0), (28, 29, 0, 0, 0, 0, 0), (29, 30, 9, 0, 4, 0, 0), (30, 31, 5, 2, 0, 0, 0), (31, 34, 8, 3, 0, 1, 0), (34, 37, 22, 4, 0, 0, 0), (37, 38, 2, 2, 0, 0, 0), (38, 39, 43, 0, 0, 0, 0)]
/-- 141: FlagSignalsModel.clearIn(II)I -/
def fg_c141 : List fg_I := [(0, 1, 3, 0, 0, 0, 0), (1, 2, 2, 1, 0, 0, 0), (2, 3, 2, 2, 0, 0, 0), (3, 6, 38, 138, 2, 0, 1129), (6, 7, 0, 0, 0, 0, 0), (7, 8, 5, 3, 0, 0, 0), (8, 9, 0, 0, 0, 0, 0), (9, 11, 5, 4, 0, 0, 0), (11, 13, 2, 4, 0, 0, 0), (13, 14, 3, 0, 0, 0, 0), (14, 17, 26, 10, 4, 0, 883), (17, 20, 24, 50, 3, 0, 0), (20, 21, 2, 3, 0, 0, 0), (21, 22, 3, 0, 0, 0, 0), (22, 24, 2, 4, 0, 0, 0), (24, 27, 37, 140, 1, 0, 1139), (27, 28, 0, 0, 0, 1, 0), (28, 30, 2, 4, 0, 0, 0), (30, 31, 9, 0, 6, 0, 0), (31, 34, 24, 41, 1, 0, 0), (34, 35, 0, 0, 0, 1, 0), (35, 37, 2, 4, 0, 0, 0), (37, 38, 9, 0, 6, 0, 0), (38, 41, 22, 42, 0, 0, 0), (41, 42, 0, 0, 0, 0, 0), (42, 43, 9, 0, 4, 0, 0), (43, 44, 5, 3, 0, 0, 0), (44, 47, 8, 4, 0, 1, 0), (47, 50, 22, 11, 0, 0, 0), (50, 51, 2, 3, 0, 0, 0), (51, 52, 43, 0, 0, 0, 0)]
/-- 142: FlagSignalsModel.clearNow()I -/
def fg_c142 : List fg_I := [(0, 1, 3, 0, 0, 0, 0), (1, 2, 3, 0, 0, 0, 0), (2, 5, 27, 10, 7, 0, 886), (5, 7, 0, 0, 0, 58, 0), (7, 8, 31, 0, 0, 0, 0), (8, 9, 3, 0, 0, 0, 0), (9, 12, 27, 10, 7, 0, 886), (12, 14, 0, 0, 0, 59, 0), (14, 15, 31, 0, 0, 0, 0), (15, 18, 37, 141, 2, 0, 1125), (18, 19, 43, 0, 0, 0, 0)]
/-- 143: FlagSignalsModel.clearest()I -/
def fg_c143 : List fg_I := [(0, 1, 0, 0, 0, 0, 0), (1, 2, 5, 1, 0, 0, 0), (2, 3, 0, 0, 0, 0, 0), (3, 4, 5, 2, 0, 0, 0), (4, 5, 0, 0, 0, 0, 0), (5, 6, 5, 3, 0, 0, 0), (6, 7, 2, 3, 0, 0, 0), (7, 9, 0, 0, 0, 6, 0), (9, 12, 24, 58, 3, 0, 0), (12, 13, 3, 0, 0, 0, 0), (13, 14, 2, 3, 0, 0, 0), (14, 15, 0, 0, 0, 2, 0), (15, 16, 10, 0, 0, 0, 0), (16, 17, 2, 3, 0, 0, 0), (17, 18, 0, 0, 0, 2, 0), (18, 19, 11, 0, 0, 0, 0), (19, 22, 37, 141, 2, 0, 1125), (22, 25, 39, 112, 1, 0, 1070), (25, 27, 5, 4, 0, 0, 0), (27, 29, 2, 4, 0, 0, 0), (29, 30, 2, 2, 0, 0, 0), (30, 33, 24, 37, 5, 0, 0), (33, 34, 2, 3, 0, 0, 0), (34, 37, 22, 38, 0, 0, 0), (37, 38, 2, 1, 0, 0, 0), (38, 39, 5, 1, 0, 0, 0), (39, 41, 2, 4, 0, 0, 0), (41, 42, 2, 2, 0, 0, 0), (42, 45, 24, 50, 5, 0, 0), (45, 47, 2, 4, 0, 0, 0), (47, 50, 22, 51, 0, 0, 0), (50, 51, 2, 2, 0, 0, 0), (51, 52, 5, 2, 0, 0, 0), (52, 55, 8, 3, 0, 1, 0), (55, 58, 22, 6, 0, 0, 0), (58, 59, 2, 1, 0, 0, 0), (59, 60, 43, 0, 0, 0, 0)]
/-- 144: FlagSignalsModel.isToldIn(II)Z -/
def fg_c144 : List fg_I := [(0, 1, 0, 0, 0, 0, 0), (1, 2, 5, 3, 0, 0, 0), (2, 3, 0, 0, 0, 0, 0), (3, 5, 5, 4, 0, 0, 0), (5, 7, 2, 4, 0, 0, 0), (7, 8, 3, 0, 0, 0, 0), (8, 11, 27, 10, 5, 0, 884), (11, 12, 2, 2, 0, 0, 0), (12, 13, 31, 0, 0, 0, 0), (13, 16, 24, 47, 3, 0, 0), (16, 17, 2, 3, 0, 0, 0), (17, 20, 23, 35, 1, 0, 0), (20, 21, 3, 0, 0, 0, 0), (21, 24, 27, 10, 6, 0, 885), (24, 25, 0, 0, 0, 4, 0), (25, 26, 2, 2, 0, 0, 0), (26, 27, 9, 0, 2, 0, 0), (27, 29, 2, 4, 0, 0, 0), (29, 30, 9, 0, 0, 0, 0), (30, 31, 31, 0, 0, 0, 0), (31, 32, 2, 1, 0, 0, 0), (32, 35, 24, 39, 1, 0, 0), (35, 36, 0, 0, 0, 1, 0), (36, 39, 22, 40, 0, 0, 0), (39, 40, 0, 0, 0, 0, 0), (40, 41, 5, 3, 0, 0, 0), (41, 44, 8, 4, 0, 1, 0), (44, 47, 22, 5, 0, 0, 0), (47, 48, 2, 3, 0, 0, 0), (48, 49, 44, 0, 0, 0, 0)]
/-- 145: FlagSignalsModel.needed()I -/
def fg_c145 : List fg_I := [(0, 1, 0, 0, 0, (-1), 0), (1, 2, 5, 1, 0, 0, 0), (2, 3, 0, 0, 0, (-1), 0), (3, 4, 5, 2, 0, 0, 0), (4, 5, 0, 0, 0, 0, 0), (5, 6, 5, 3, 0, 0, 0), (6, 7, 2, 3, 0, 0, 0), (7, 8, 3, 0, 0, 0, 0), (8, 11, 26, 10, 2, 0, 881), (11, 14, 24, 86, 3, 0, 0), (14, 15, 0, 0, 0, 0, 0), (15, 17, 5, 4, 0, 0, 0), (17, 18, 0, 0, 0, 0, 0), (18, 20, 5, 5, 0, 0, 0), (20, 22, 2, 5, 0, 0, 0), (22, 23, 3, 0, 0, 0, 0), (23, 26, 26, 10, 4, 0, 883), (26, 29, 24, 55, 3, 0, 0), (29, 31, 2, 4, 0, 0, 0), (31, 32, 3, 0, 0, 0, 0), (32, 33, 2, 3, 0, 0, 0), (33, 35, 2, 5, 0, 0, 0), (35, 38, 37, 144, 2, 0, 1159), (38, 41, 23, 45, 0, 0, 0), (41, 42, 0, 0, 0, 1, 0), (42, 45, 22, 46, 0, 0, 0), (45, 46, 0, 0, 0, 0, 0), (46, 47, 9, 0, 0, 0, 0), (47, 49, 5, 4, 0, 0, 0), (49, 52, 8, 5, 0, 1, 0), (52, 55, 22, 20, 0, 0, 0), (55, 57, 2, 4, 0, 0, 0), (57, 58, 2, 2, 0, 0, 0), (58, 61, 24, 65, 5, 0, 0), (61, 62, 2, 3, 0, 0, 0), (62, 65, 22, 66, 0, 0, 0), (65, 66, 2, 1, 0, 0, 0), (66, 67, 5, 1, 0, 0, 0), (67, 69, 2, 4, 0, 0, 0), (69, 70, 2, 2, 0, 0, 0), (70, 73, 24, 78, 5, 0, 0), (73, 75, 2, 4, 0, 0, 0), (75, 78, 22, 79, 0, 0, 0), (78, 79, 2, 2, 0, 0, 0), (79, 80, 5, 2, 0, 0, 0), (80, 83, 8, 3, 0, 1, 0), (83, 86, 22, 6, 0, 0, 0), (86, 87, 2, 1, 0, 0, 0), (87, 88, 43, 0, 0, 0, 0)]
/-- 146: FlagSignalsModel.better()I -/
def fg_c146 : List fg_I := [(0, 1, 0, 0, 0, (-1), 0), (1, 2, 5, 1, 0, 0, 0), (2, 3, 3, 0, 0, 0, 0), (3, 6, 37, 142, 0, 0, 1121), (6, 9, 39, 112, 1, 0, 1070), (9, 10, 5, 2, 0, 0, 0), (10, 11, 0, 0, 0, 0, 0), (11, 12, 5, 3, 0, 0, 0), (12, 13, 2, 3, 0, 0, 0), (13, 14, 3, 0, 0, 0, 0), (14, 17, 26, 10, 2, 0, 881), (17, 20, 24, 164, 3, 0, 0), (20, 21, 3, 0, 0, 0, 0), (21, 24, 27, 10, 7, 0, 886), (24, 25, 2, 3, 0, 0, 0), (25, 26, 31, 0, 0, 0, 0), (26, 28, 5, 4, 0, 0, 0), (28, 29, 3, 0, 0, 0, 0), (29, 32, 27, 10, 7, 0, 886), (32, 34, 0, 0, 0, 30, 0), (34, 35, 2, 3, 0, 0, 0), (35, 36, 9, 0, 0, 0, 0), (36, 37, 31, 0, 0, 0, 0), (37, 39, 5, 5, 0, 0, 0), (39, 40, 3, 0, 0, 0, 0), (40, 43, 27, 10, 7, 0, 886), (43, 45, 0, 0, 0, 30, 0), (45, 46, 2, 3, 0, 0, 0), (46, 47, 9, 0, 0, 0, 0), (47, 48, 0, 0, 0, 0, 0), (48, 49, 32, 0, 0, 0, 0), (49, 50, 0, 0, 0, 0, 0), (50, 52, 5, 6, 0, 0, 0), (52, 54, 2, 6, 0, 0, 0), (54, 56, 0, 0, 0, 100, 0), (56, 59, 24, 139, 3, 0, 0), (59, 60, 3, 0, 0, 0, 0), (60, 63, 27, 10, 7, 0, 886), (63, 64, 2, 3, 0, 0, 0), (64, 66, 2, 6, 0, 0, 0), (66, 68, 0, 0, 0, 25, 0), (68, 69, 10, 0, 0, 0, 0), (69, 71, 0, 0, 0, 100, 0), (71, 72, 9, 0, 2, 0, 0), (72, 74, 2, 6, 0, 0, 0), (74, 75, 0, 0, 0, 5, 0), (75, 76, 10, 0, 0, 0, 0), (76, 77, 0, 0, 0, 5, 0), (77, 78, 11, 0, 0, 0, 0), (78, 80, 0, 0, 0, 10, 0), (80, 81, 9, 0, 2, 0, 0), (81, 82, 9, 0, 0, 0, 0), (82, 84, 2, 6, 0, 0, 0), (84, 85, 0, 0, 0, 5, 0), (85, 86, 11, 0, 0, 0, 0), (86, 87, 9, 0, 0, 0, 0), (87, 88, 32, 0, 0, 0, 0), (88, 89, 3, 0, 0, 0, 0), (89, 92, 37, 142, 0, 0, 1121), (92, 95, 39, 112, 1, 0, 1070), (95, 97, 5, 7, 0, 0, 0), (97, 99, 2, 7, 0, 0, 0), (99, 100, 2, 2, 0, 0, 0), (100, 103, 24, 118, 5, 0, 0), (103, 106, 0, 0, 0, 1000, 0), (106, 107, 2, 3, 0, 0, 0), (107, 108, 9, 0, 2, 0, 0), (108, 109, 3, 0, 0, 0, 0), (109, 112, 27, 10, 7, 0, 886), (112, 113, 2, 3, 0, 0, 0), (113, 114, 31, 0, 0, 0, 0), (114, 115, 9, 0, 0, 0, 0), (115, 118, 22, 119, 0, 0, 0), (118, 119, 2, 1, 0, 0, 0), (119, 120, 5, 1, 0, 0, 0), (120, 122, 2, 7, 0, 0, 0), (122, 123, 2, 2, 0, 0, 0), (123, 126, 24, 131, 5, 0, 0), (126, 128, 2, 7, 0, 0, 0), (128, 131, 22, 132, 0, 0, 0), (131, 132, 2, 2, 0, 0, 0), (132, 133, 5, 2, 0, 0, 0), (133, 136, 8, 6, 0, 1, 0), (136, 139, 22, 52, 0, 0, 0), (139, 140, 3, 0, 0, 0, 0), (140, 143, 27, 10, 7, 0, 886), (143, 144, 2, 3, 0, 0, 0), (144, 146, 2, 4, 0, 0, 0), (146, 147, 32, 0, 0, 0, 0), (147, 148, 3, 0, 0, 0, 0), (148, 151, 27, 10, 7, 0, 886), (151, 153, 0, 0, 0, 30, 0), (153, 154, 2, 3, 0, 0, 0), (154, 155, 9, 0, 0, 0, 0), (155, 157, 2, 5, 0, 0, 0), (157, 158, 32, 0, 0, 0, 0), (158, 161, 8, 3, 0, 1, 0), (161, 164, 22, 12, 0, 0, 0), (164, 165, 2, 1, 0, 0, 0), (165, 166, 43, 0, 0, 0, 0)]
/-- 147: FlagSignalsModel.rowFlags()I -/
def fg_c147 : List fg_I := [(0, 1, 0, 0, 0, 0, 0), (1, 2, 5, 1, 0, 0, 0), (2, 3, 0, 0, 0, 0, 0), (3, 4, 5, 2, 0, 0, 0), (4, 5, 2, 2, 0, 0, 0), (5, 6, 0, 0, 0, 4, 0), (6, 9, 24, 51, 3, 0, 0), (9, 10, 2, 1, 0, 0, 0), (10, 11, 3, 0, 0, 0, 0), (11, 14, 27, 10, 21, 0, 900), (14, 15, 2, 2, 0, 0, 0), (15, 16, 31, 0, 0, 0, 0), (16, 17, 0, 0, 0, (-1), 0), (17, 20, 24, 42, 0, 0, 0), (20, 21, 3, 0, 0, 0, 0), (21, 24, 27, 10, 21, 0, 900), (24, 25, 2, 2, 0, 0, 0), (25, 26, 31, 0, 0, 0, 0), (26, 28, 0, 0, 0, 20, 0), (28, 31, 24, 42, 3, 0, 0), (31, 32, 0, 0, 0, 1, 0), (32, 33, 3, 0, 0, 0, 0), (33, 36, 27, 10, 21, 0, 900), (36, 37, 2, 2, 0, 0, 0), (37, 38, 31, 0, 0, 0, 0), (38, 39, 9, 0, 6, 0, 0), (39, 42, 22, 43, 0, 0, 0), (42, 43, 0, 0, 0, 0, 0), (43, 44, 9, 0, 4, 0, 0), (44, 45, 5, 1, 0, 0, 0), (45, 48, 8, 2, 0, 1, 0), (48, 51, 22, 4, 0, 0, 0), (51, 52, 2, 1, 0, 0, 0), (52, 53, 43, 0, 0, 0, 0)]
/-- 148: FlagSignalsModel.rowSubs()I -/
def fg_c148 : List fg_I := [(0, 1, 0, 0, 0, 0, 0), (1, 2, 5, 1, 0, 0, 0), (2, 3, 0, 0, 0, 0, 0), (3, 4, 5, 2, 0, 0, 0), (4, 5, 2, 2, 0, 0, 0), (5, 6, 0, 0, 0, 4, 0), (6, 9, 24, 44, 3, 0, 0), (9, 10, 2, 1, 0, 0, 0), (10, 11, 3, 0, 0, 0, 0), (11, 14, 27, 10, 21, 0, 900), (14, 15, 2, 2, 0, 0, 0), (15, 16, 31, 0, 0, 0, 0), (16, 18, 0, 0, 0, 20, 0), (18, 21, 24, 35, 5, 0, 0), (21, 22, 0, 0, 0, 1, 0), (22, 23, 3, 0, 0, 0, 0), (23, 26, 27, 10, 21, 0, 900), (26, 27, 2, 2, 0, 0, 0), (27, 28, 31, 0, 0, 0, 0), (28, 30, 0, 0, 0, 20, 0), (30, 31, 9, 0, 1, 0, 0), (31, 32, 9, 0, 6, 0, 0), (32, 35, 22, 36, 0, 0, 0), (35, 36, 0, 0, 0, 0, 0), (36, 37, 9, 0, 4, 0, 0), (37, 38, 5, 1, 0, 0, 0), (38, 41, 8, 2, 0, 1, 0), (41, 44, 22, 4, 0, 0, 0), (44, 45, 2, 1, 0, 0, 0), (45, 46, 43, 0, 0, 0, 0)]
/-- 149: FlagSignalsModel.fly(I)Z -/
def fg_c149 : List fg_I := [(0, 1, 0, 0, 0, 1, 0), (1, 2, 3, 0, 0, 0, 0), (2, 5, 26, 10, 2, 0, 881), (5, 6, 9, 0, 6, 0, 0), (6, 7, 0, 0, 0, 1, 0), (7, 8, 9, 0, 1, 0, 0), (8, 9, 3, 0, 0, 0, 0), (9, 12, 37, 129, 0, 0, 1062), (12, 13, 0, 0, 0, (-1), 0), (13, 14, 9, 0, 5, 0, 0), (14, 15, 9, 0, 3, 0, 0), (15, 16, 5, 2, 0, 0, 0), (16, 17, 3, 0, 0, 0, 0), (17, 20, 37, 131, 0, 0, 1066), (20, 21, 5, 3, 0, 0, 0), (21, 22, 2, 1, 0, 0, 0), (22, 25, 39, 112, 1, 0, 1070), (25, 26, 3, 0, 0, 0, 0), (26, 29, 26, 10, 0, 0, 879), (29, 32, 24, 36, 4, 0, 0), (32, 33, 0, 0, 0, 1, 0), (33, 36, 22, 37, 0, 0, 0), (36, 37, 0, 0, 0, 0, 0), (37, 39, 5, 4, 0, 0, 0), (39, 40, 0, 0, 0, 0, 0), (40, 42, 5, 5, 0, 0, 0), (42, 44, 2, 5, 0, 0, 0), (44, 45, 3, 0, 0, 0, 0), (45, 48, 26, 10, 4, 0, 883), (48, 51, 24, 99, 3, 0, 0), (51, 53, 2, 4, 0, 0, 0), (53, 56, 23, 99, 0, 0, 0), (56, 57, 2, 1, 0, 0, 0), (57, 59, 2, 5, 0, 0, 0), (59, 62, 39, 111, 2, 0, 1073), (62, 65, 23, 93, 0, 0, 0), (65, 66, 3, 0, 0, 0, 0), (66, 68, 2, 5, 0, 0, 0), (68, 69, 2, 2, 0, 0, 0), (69, 70, 2, 3, 0, 0, 0), (70, 73, 37, 134, 3, 0, 1076), (73, 75, 5, 4, 0, 0, 0), (75, 76, 2, 2, 0, 0, 0), (76, 77, 3, 0, 0, 0, 0), (77, 80, 37, 147, 0, 0, 1088), (80, 81, 0, 0, 0, (-1), 0), (81, 82, 9, 0, 5, 0, 0), (82, 83, 9, 0, 3, 0, 0), (83, 84, 5, 2, 0, 0, 0), (84, 85, 2, 3, 0, 0, 0), (85, 86, 3, 0, 0, 0, 0), (86, 89, 37, 148, 0, 0, 1092), (89, 90, 0, 0, 0, (-1), 0), (90, 91, 9, 0, 5, 0, 0), (91, 92, 9, 0, 3, 0, 0), (92, 93, 5, 3, 0, 0, 0), (93, 96, 8, 5, 0, 1, 0), (96, 99, 22, 42, 0, 0, 0), (99, 101, 2, 4, 0, 0, 0), (101, 102, 44, 0, 0, 0, 0)]
/-- 150: FlagSignalsModel.mostTogether()I -/
def fg_c150 : List fg_I := [(0, 1, 0, 0, 0, 0, 0), (1, 2, 5, 1, 0, 0, 0), (2, 3, 0, 0, 0, 0, 0), (3, 4, 5, 2, 0, 0, 0), (4, 5, 2, 2, 0, 0, 0), (5, 6, 0, 0, 0, 1, 0), (6, 7, 3, 0, 0, 0, 0), (7, 10, 26, 10, 4, 0, 883), (10, 11, 9, 0, 6, 0, 0), (11, 14, 24, 45, 3, 0, 0), (14, 15, 2, 2, 0, 0, 0), (15, 18, 39, 112, 1, 0, 1070), (18, 19, 2, 1, 0, 0, 0), (19, 22, 39, 112, 1, 0, 1070), (22, 25, 24, 37, 5, 0, 0), (25, 26, 3, 0, 0, 0, 0), (26, 27, 2, 2, 0, 0, 0), (27, 30, 37, 149, 1, 0, 1058), (30, 33, 23, 37, 0, 0, 0), (33, 34, 2, 2, 0, 0, 0), (34, 37, 22, 38, 0, 0, 0), (37, 38, 2, 1, 0, 0, 0), (38, 39, 5, 1, 0, 0, 0), (39, 42, 8, 2, 0, 1, 0), (42, 45, 22, 4, 0, 0, 0), (45, 46, 2, 1, 0, 0, 0), (46, 47, 43, 0, 0, 0, 0)]
/-- 151: FlagSignalsModel.areSignals(I)Z -/
def fg_c151 : List fg_I := [(0, 1, 2, 1, 0, 0, 0), (1, 2, 13, 0, 0, 0, 0), (2, 3, 1, 0, 0, 0, 0), (3, 4, 0, 0, 0, 1, 0), (4, 5, 3, 0, 0, 0, 0), (5, 8, 26, 10, 4, 0, 883), (8, 9, 9, 0, 6, 0, 0), (9, 10, 0, 0, 0, 1, 0), (10, 11, 9, 0, 1, 0, 0), (11, 12, 13, 0, 0, 0, 0), (12, 15, 39, 110, 3, 0, 996), (15, 16, 44, 0, 0, 0, 0)]
/-- 152: FlagSignalsModel.together(I)I -/
def fg_c152 : List fg_I := [(0, 1, 3, 0, 0, 0, 0), (1, 2, 2, 1, 0, 0, 0), (2, 5, 37, 151, 1, 0, 1053), (5, 8, 23, 11, 1, 0, 0), (8, 10, 0, 0, 0, (-1000000001), 1057), (10, 11, 43, 0, 0, 0, 0), (11, 12, 3, 0, 0, 0, 0), (12, 13, 2, 1, 0, 0, 0), (13, 16, 37, 149, 1, 0, 1058), (16, 19, 23, 23, 0, 0, 0), (19, 20, 0, 0, 0, 1, 0), (20, 23, 22, 24, 0, 0, 0), (23, 24, 0, 0, 0, 0, 0), (24, 25, 43, 0, 0, 0, 0)]
/-- 153: FlagSignalsModel.findTurns(I)V -/
def fg_c153 : List fg_I := [(0, 1, 3, 0, 0, 0, 0), (1, 4, 27, 10, 25, 0, 904), (4, 5, 0, 0, 0, 0, 0), (5, 6, 0, 0, 0, 0, 0), (6, 7, 32, 0, 0, 0, 0), (7, 8, 0, 0, 0, 1, 0), (8, 9, 5, 2, 0, 0, 0), (9, 10, 2, 2, 0, 0, 0), (10, 11, 2, 1, 0, 0, 0), (11, 14, 24, 146, 4, 0, 0), (14, 15, 2, 2, 0, 0, 0), (15, 16, 2, 1, 0, 0, 0), (16, 17, 0, 0, 0, (-1), 0), (17, 18, 9, 0, 5, 0, 0), (18, 19, 9, 0, 3, 0, 0), (19, 22, 23, 26, 1, 0, 0), (22, 23, 0, 0, 0, 1, 0), (23, 26, 22, 27, 0, 0, 0), (26, 27, 0, 0, 0, 0, 0), (27, 28, 5, 3, 0, 0, 0), (28, 29, 3, 0, 0, 0, 0), (29, 32, 27, 10, 24, 0, 903), (32, 33, 2, 2, 0, 0, 0), (33, 34, 2, 3, 0, 0, 0), (34, 37, 23, 49, 0, 0, 0), (37, 38, 3, 0, 0, 0, 0), (38, 39, 2, 2, 0, 0, 0), (39, 42, 37, 149, 1, 0, 1058), (42, 45, 23, 49, 0, 0, 0), (45, 46, 0, 0, 0, 1, 0), (46, 49, 22, 50, 0, 0, 0), (49, 50, 0, 0, 0, 0, 0), (50, 51, 34, 0, 0, 0, 0), (51, 52, 3, 0, 0, 0, 0), (52, 55, 27, 10, 25, 0, 904), (55, 56, 2, 2, 0, 0, 0), (56, 58, 0, 0, 0, 1000000, 1104), (58, 59, 32, 0, 0, 0, 0), (59, 60, 2, 2, 0, 0, 0), (60, 62, 5, 4, 0, 0, 0), (62, 64, 2, 4, 0, 0, 0), (64, 67, 23, 140, 5, 0, 0), (67, 68, 2, 3, 0, 0, 0), (68, 71, 23, 140, 0, 0, 0), (71, 72, 3, 0, 0, 0, 0), (72, 75, 27, 10, 24, 0, 903), (75, 77, 2, 4, 0, 0, 0), (77, 78, 33, 0, 0, 0, 0), (78, 81, 23, 97, 0, 0, 0), (81, 82, 3, 0, 0, 0, 0), (82, 85, 27, 10, 25, 0, 904), (85, 86, 2, 2, 0, 0, 0), (86, 88, 2, 4, 0, 0, 0), (88, 89, 0, 0, 0, (-1), 0), (89, 90, 9, 0, 5, 0, 0), (90, 91, 9, 0, 3, 0, 0), (91, 92, 31, 0, 0, 0, 0), (92, 93, 0, 0, 0, 1, 0), (93, 94, 9, 0, 0, 0, 0), (94, 97, 22, 99, 0, 0, 0), (97, 99, 0, 0, 0, 1000000, 1104), (99, 101, 5, 5, 0, 0, 0), (101, 102, 3, 0, 0, 0, 0), (102, 105, 27, 10, 25, 0, 904), (105, 106, 2, 2, 0, 0, 0), (106, 108, 2, 5, 0, 0, 0), (108, 109, 3, 0, 0, 0, 0), (109, 112, 27, 10, 25, 0, 904), (112, 113, 2, 2, 0, 0, 0), (113, 114, 31, 0, 0, 0, 0), (114, 117, 24, 122, 3, 0, 0), (117, 119, 2, 5, 0, 0, 0), (119, 122, 22, 128, 0, 0, 0), (122, 123, 3, 0, 0, 0, 0), (123, 126, 27, 10, 25, 0, 904), (126, 127, 2, 2, 0, 0, 0), (127, 128, 31, 0, 0, 0, 0), (128, 129, 32, 0, 0, 0, 0), (129, 131, 2, 4, 0, 0, 0), (131, 132, 0, 0, 0, 1, 0), (132, 133, 9, 0, 1, 0, 0), (133, 134, 2, 2, 0, 0, 0), (134, 135, 9, 0, 3, 0, 0), (135, 137, 5, 4, 0, 0, 0), (137, 140, 22, 62, 0, 0, 0), (140, 143, 8, 2, 0, 1, 0), (143, 146, 22, 9, 0, 0, 0), (146, 147, 45, 0, 0, 0, 0)]
/-- 154: FlagSignalsModel.turns(II)I -/
def fg_c154 : List fg_I := [(0, 1, 3, 0, 0, 0, 0), (1, 2, 2, 1, 0, 0, 0), (2, 5, 37, 151, 1, 0, 1053), (5, 8, 23, 11, 1, 0, 0), (8, 10, 0, 0, 0, (-1000000001), 1057), (10, 11, 43, 0, 0, 0, 0), (11, 12, 2, 2, 0, 0, 0), (12, 13, 13, 0, 0, 0, 0), (13, 14, 1, 0, 0, 0, 0), (14, 15, 1, 1, 0, 0, 0), (15, 18, 39, 110, 3, 0, 996), (18, 21, 23, 24, 1, 0, 0), (21, 23, 0, 0, 0, (-1000000002), 999), (23, 24, 43, 0, 0, 0, 0), (24, 25, 3, 0, 0, 0, 0), (25, 26, 2, 1, 0, 0, 0), (26, 29, 38, 153, 1, 0, 1100), (29, 30, 2, 2, 0, 0, 0), (30, 33, 23, 44, 0, 0, 0), (33, 34, 3, 0, 0, 0, 0), (34, 37, 27, 10, 25, 0, 904), (37, 38, 2, 1, 0, 0, 0), (38, 39, 31, 0, 0, 0, 0), (39, 41, 0, 0, 0, 1000000, 1104), (41, 44, 24, 66, 2, 0, 0), (44, 45, 3, 0, 0, 0, 0), (45, 48, 27, 10, 25, 0, 904), (48, 49, 2, 1, 0, 0, 0), (49, 50, 31, 0, 0, 0, 0), (50, 52, 0, 0, 0, 1000000, 1104), (52, 55, 24, 64, 3, 0, 0), (55, 56, 3, 0, 0, 0, 0), (56, 59, 27, 10, 25, 0, 904), (59, 60, 2, 1, 0, 0, 0), (60, 61, 31, 0, 0, 0, 0), (61, 64, 22, 65, 0, 0, 0), (64, 65, 0, 0, 0, (-1), 0), (65, 66, 43, 0, 0, 0, 0), (66, 67, 0, 0, 0, (-1), 0), (67, 68, 5, 3, 0, 0, 0), (68, 69, 2, 1, 0, 0, 0), (69, 71, 5, 4, 0, 0, 0), (71, 73, 2, 4, 0, 0, 0), (73, 76, 23, 126, 5, 0, 0), (76, 77, 3, 0, 0, 0, 0), (77, 80, 27, 10, 24, 0, 903), (80, 82, 2, 4, 0, 0, 0), (82, 83, 33, 0, 0, 0, 0), (83, 86, 23, 113, 0, 0, 0), (86, 87, 3, 0, 0, 0, 0), (87, 90, 27, 10, 25, 0, 904), (90, 91, 2, 1, 0, 0, 0), (91, 93, 2, 4, 0, 0, 0), (93, 94, 0, 0, 0, (-1), 0), (94, 95, 9, 0, 5, 0, 0), (95, 96, 9, 0, 3, 0, 0), (96, 97, 31, 0, 0, 0, 0), (97, 98, 3, 0, 0, 0, 0), (98, 101, 27, 10, 25, 0, 904), (101, 102, 2, 1, 0, 0, 0), (102, 103, 31, 0, 0, 0, 0), (103, 104, 0, 0, 0, 1, 0), (104, 105, 9, 0, 1, 0, 0), (105, 108, 24, 113, 1, 0, 0), (108, 110, 2, 4, 0, 0, 0), (110, 113, 22, 114, 0, 0, 0), (113, 114, 2, 3, 0, 0, 0), (114, 115, 5, 3, 0, 0, 0), (115, 117, 2, 4, 0, 0, 0), (117, 118, 0, 0, 0, 1, 0), (118, 119, 9, 0, 1, 0, 0), (119, 120, 2, 1, 0, 0, 0), (120, 121, 9, 0, 3, 0, 0), (121, 123, 5, 4, 0, 0, 0), (123, 126, 22, 71, 0, 0, 0), (126, 127, 2, 3, 0, 0, 0), (127, 128, 43, 0, 0, 0, 0)]
/-- 155: FlagSignalsModel.weathers()I -/
def fg_c155 : List fg_I := [(0, 1, 0, 0, 0, 0, 0), (1, 2, 5, 1, 0, 0, 0), (2, 3, 0, 0, 0, 0, 0), (3, 4, 5, 2, 0, 0, 0), (4, 5, 2, 2, 0, 0, 0), (5, 7, 0, 0, 0, 6, 0), (7, 10, 24, 83, 3, 0, 0), (10, 11, 3, 0, 0, 0, 0), (11, 12, 2, 2, 0, 0, 0), (12, 13, 0, 0, 0, 2, 0), (13, 14, 10, 0, 0, 0, 0), (14, 15, 2, 2, 0, 0, 0), (15, 16, 0, 0, 0, 2, 0), (16, 17, 11, 0, 0, 0, 0), (17, 20, 38, 138, 2, 0, 1129), (20, 21, 0, 0, 0, 1, 0), (21, 22, 5, 3, 0, 0, 0), (22, 23, 0, 0, 0, 0, 0), (23, 25, 5, 4, 0, 0, 0), (25, 27, 2, 4, 0, 0, 0), (27, 28, 3, 0, 0, 0, 0), (28, 31, 26, 10, 26, 0, 905), (31, 34, 24, 63, 3, 0, 0), (34, 35, 2, 3, 0, 0, 0), (35, 38, 23, 63, 0, 0, 0), (38, 39, 3, 0, 0, 0, 0), (39, 40, 3, 0, 0, 0, 0), (40, 43, 27, 10, 27, 0, 906), (43, 45, 2, 4, 0, 0, 0), (45, 46, 31, 0, 0, 0, 0), (46, 47, 3, 0, 0, 0, 0), (47, 50, 27, 10, 28, 0, 907), (50, 52, 2, 4, 0, 0, 0), (52, 53, 31, 0, 0, 0, 0), (53, 56, 37, 139, 2, 0, 1143), (56, 57, 5, 3, 0, 0, 0), (57, 60, 8, 4, 0, 1, 0), (60, 63, 22, 25, 0, 0, 0), (63, 64, 2, 1, 0, 0, 0), (64, 65, 2, 3, 0, 0, 0), (65, 68, 23, 74, 0, 0, 0), (68, 69, 0, 0, 0, 1, 0), (69, 70, 2, 2, 0, 0, 0), (70, 71, 9, 0, 6, 0, 0), (71, 74, 22, 75, 0, 0, 0), (74, 75, 0, 0, 0, 0, 0), (75, 76, 9, 0, 4, 0, 0), (76, 77, 5, 1, 0, 0, 0), (77, 80, 8, 2, 0, 1, 0), (80, 83, 22, 4, 0, 0, 0), (83, 84, 2, 1, 0, 0, 0), (84, 85, 43, 0, 0, 0, 0)]
/-- 156: FlagSignalsModel.layLikes()V -/
def fg_c156 : List fg_I := [(0, 1, 0, 0, 0, 0, 0), (1, 2, 5, 1, 0, 0, 0), (2, 3, 2, 1, 0, 0, 0), (3, 5, 0, 0, 0, 6, 0), (5, 8, 24, 56, 3, 0, 0), (8, 9, 3, 0, 0, 0, 0), (9, 10, 2, 1, 0, 0, 0), (10, 11, 0, 0, 0, 2, 0), (11, 12, 10, 0, 0, 0, 0), (12, 13, 2, 1, 0, 0, 0), (13, 14, 0, 0, 0, 2, 0), (14, 15, 11, 0, 0, 0, 0), (15, 18, 38, 138, 2, 0, 1129), (18, 19, 0, 0, 0, 0, 0), (19, 20, 5, 2, 0, 0, 0), (20, 21, 2, 2, 0, 0, 0), (21, 22, 3, 0, 0, 0, 0), (22, 25, 26, 10, 4, 0, 883), (25, 28, 24, 50, 3, 0, 0), (28, 29, 3, 0, 0, 0, 0), (29, 32, 27, 10, 29, 0, 908), (32, 34, 0, 0, 0, 10, 0), (34, 35, 2, 1, 0, 0, 0), (35, 36, 9, 0, 2, 0, 0), (36, 37, 2, 2, 0, 0, 0), (37, 38, 9, 0, 0, 0, 0), (38, 39, 3, 0, 0, 0, 0), (39, 40, 2, 2, 0, 0, 0), (40, 43, 37, 140, 1, 0, 1139), (43, 44, 32, 0, 0, 0, 0), (44, 47, 8, 2, 0, 1, 0), (47, 50, 22, 20, 0, 0, 0), (50, 53, 8, 1, 0, 1, 0), (53, 56, 22, 2, 0, 0, 0), (56, 57, 45, 0, 0, 0, 0)]
/-- 157: FlagSignalsModel.greatestPart(II)I -/
def fg_c157 : List fg_I := [(0, 1, 0, 0, 0, 0, 0), (1, 2, 5, 3, 0, 0, 0), (2, 3, 0, 0, 0, 0, 0), (3, 5, 5, 4, 0, 0, 0), (5, 7, 2, 4, 0, 0, 0), (7, 9, 0, 0, 0, 6, 0), (9, 12, 24, 105, 3, 0, 0), (12, 13, 0, 0, 0, 0, 0), (13, 15, 5, 5, 0, 0, 0), (15, 16, 0, 0, 0, 0, 0), (16, 18, 5, 6, 0, 0, 0), (18, 20, 2, 6, 0, 0, 0), (20, 22, 0, 0, 0, 6, 0), (22, 25, 24, 86, 3, 0, 0), (25, 27, 2, 5, 0, 0, 0), (27, 28, 2, 1, 0, 0, 0), (28, 30, 2, 4, 0, 0, 0), (30, 33, 39, 111, 2, 0, 1073), (33, 36, 23, 76, 0, 0, 0), (36, 37, 2, 1, 0, 0, 0), (37, 39, 2, 6, 0, 0, 0), (39, 42, 39, 111, 2, 0, 1073), (42, 45, 23, 76, 0, 0, 0), (45, 46, 3, 0, 0, 0, 0), (46, 49, 27, 10, 29, 0, 908), (49, 51, 0, 0, 0, 10, 0), (51, 53, 2, 4, 0, 0, 0), (53, 54, 9, 0, 2, 0, 0), (54, 55, 2, 2, 0, 0, 0), (55, 56, 9, 0, 0, 0, 0), (56, 57, 31, 0, 0, 0, 0), (57, 58, 3, 0, 0, 0, 0), (58, 61, 27, 10, 29, 0, 908), (61, 63, 0, 0, 0, 10, 0), (63, 65, 2, 6, 0, 0, 0), (65, 66, 9, 0, 2, 0, 0), (66, 67, 2, 2, 0, 0, 0), (67, 68, 9, 0, 0, 0, 0), (68, 69, 31, 0, 0, 0, 0), (69, 72, 24, 76, 1, 0, 0), (72, 73, 0, 0, 0, 1, 0), (73, 76, 22, 77, 0, 0, 0), (76, 77, 0, 0, 0, 0, 0), (77, 78, 9, 0, 0, 0, 0), (78, 80, 5, 5, 0, 0, 0), (80, 83, 8, 6, 0, 1, 0), (83, 86, 22, 18, 0, 0, 0), (86, 88, 2, 5, 0, 0, 0), (88, 89, 2, 3, 0, 0, 0), (89, 92, 24, 97, 5, 0, 0), (92, 94, 2, 5, 0, 0, 0), (94, 97, 22, 98, 0, 0, 0), (97, 98, 2, 3, 0, 0, 0), (98, 99, 5, 3, 0, 0, 0), (99, 102, 8, 4, 0, 1, 0), (102, 105, 22, 5, 0, 0, 0), (105, 106, 2, 3, 0, 0, 0), (106, 107, 43, 0, 0, 0, 0)]
/-- 158: FlagSignalsModel.askNext()I -/
def fg_c158 : List fg_I := [(0, 1, 3, 0, 0, 0, 0), (1, 4, 37, 155, 0, 0, 1167), (4, 5, 5, 1, 0, 0, 0), (5, 6, 3, 0, 0, 0, 0), (6, 9, 38, 156, 0, 0, 1175), (9, 10, 0, 0, 0, (-1), 0), (10, 11, 5, 2, 0, 0, 0), (11, 12, 2, 1, 0, 0, 0), (12, 15, 39, 112, 1, 0, 1070), (15, 16, 5, 3, 0, 0, 0), (16, 17, 0, 0, 0, 0, 0), (17, 19, 5, 4, 0, 0, 0), (19, 21, 2, 4, 0, 0, 0), (21, 22, 3, 0, 0, 0, 0), (22, 25, 26, 10, 4, 0, 883), (25, 28, 24, 69, 3, 0, 0), (28, 29, 3, 0, 0, 0, 0), (29, 30, 2, 1, 0, 0, 0), (30, 32, 2, 4, 0, 0, 0), (32, 35, 37, 157, 2, 0, 1179), (35, 37, 5, 5, 0, 0, 0), (37, 39, 2, 5, 0, 0, 0), (39, 40, 2, 3, 0, 0, 0), (40, 43, 24, 48, 3, 0, 0), (43, 45, 2, 4, 0, 0, 0), (45, 48, 22, 49, 0, 0, 0), (48, 49, 2, 2, 0, 0, 0), (49, 50, 5, 2, 0, 0, 0), (50, 52, 2, 5, 0, 0, 0), (52, 53, 2, 3, 0, 0, 0), (53, 56, 24, 61, 3, 0, 0), (56, 58, 2, 5, 0, 0, 0), (58, 61, 22, 62, 0, 0, 0), (61, 62, 2, 3, 0, 0, 0), (62, 63, 5, 3, 0, 0, 0), (63, 66, 8, 4, 0, 1, 0), (66, 69, 22, 19, 0, 0, 0), (69, 70, 2, 2, 0, 0, 0), (70, 71, 43, 0, 0, 0, 0)]
/-- 159: FlagSignalsModel.told(I)I -/
def fg_c159 : List fg_I := [(0, 1, 2, 1, 0, 0, 0), (1, 104, 25, 3, 0, 0, 0), (104, 105, 3, 0, 0, 0, 0), (105, 108, 26, 10, 0, 0, 879), (108, 109, 43, 0, 0, 0, 0), (109, 110, 3, 0, 0, 0, 0), (110, 113, 26, 10, 1, 0, 880), (113, 114, 43, 0, 0, 0, 0), (114, 115, 3, 0, 0, 0, 0), (115, 118, 26, 10, 2, 0, 881), (118, 119, 43, 0, 0, 0, 0), (119, 120, 3, 0, 0, 0, 0), (120, 123, 26, 10, 4, 0, 883), (123, 124, 43, 0, 0, 0, 0), (124, 125, 3, 0, 0, 0, 0), (125, 128, 26, 10, 10, 0, 889), (128, 129, 43, 0, 0, 0, 0), (129, 130, 3, 0, 0, 0, 0), (130, 133, 27, 10, 7, 0, 886), (133, 135, 0, 0, 0, 60, 0), (135, 136, 31, 0, 0, 0, 0), (136, 137, 43, 0, 0, 0, 0), (137, 138, 3, 0, 0, 0, 0), (138, 141, 27, 10, 7, 0, 886), (141, 143, 0, 0, 0, 58, 0), (143, 144, 31, 0, 0, 0, 0), (144, 145, 43, 0, 0, 0, 0), (145, 146, 3, 0, 0, 0, 0), (146, 149, 27, 10, 7, 0, 886), (149, 151, 0, 0, 0, 59, 0), (151, 152, 31, 0, 0, 0, 0), (152, 153, 43, 0, 0, 0, 0), (153, 154, 3, 0, 0, 0, 0), (154, 157, 37, 128, 0, 0, 1109), (157, 158, 43, 0, 0, 0, 0), (158, 159, 3, 0, 0, 0, 0), (159, 162, 37, 129, 0, 0, 1062), (162, 163, 43, 0, 0, 0, 0), (163, 164, 3, 0, 0, 0, 0), (164, 167, 37, 135, 0, 0, 1113), (167, 168, 43, 0, 0, 0, 0), (168, 169, 3, 0, 0, 0, 0), (169, 172, 37, 142, 0, 0, 1121), (172, 173, 43, 0, 0, 0, 0), (173, 174, 3, 0, 0, 0, 0), (174, 177, 37, 143, 0, 0, 1147), (177, 178, 43, 0, 0, 0, 0), (178, 179, 3, 0, 0, 0, 0), (179, 182, 37, 150, 0, 0, 1151), (182, 183, 43, 0, 0, 0, 0), (183, 184, 3, 0, 0, 0, 0), (184, 187, 37, 145, 0, 0, 1155), (187, 188, 43, 0, 0, 0, 0), (188, 189, 3, 0, 0, 0, 0), (189, 192, 37, 146, 0, 0, 1163), (192, 193, 43, 0, 0, 0, 0), (193, 194, 3, 0, 0, 0, 0), (194, 197, 26, 10, 26, 0, 905), (197, 198, 43, 0, 0, 0, 0), (198, 199, 3, 0, 0, 0, 0), (199, 202, 37, 155, 0, 0, 1167), (202, 205, 39, 112, 1, 0, 1070), (205, 206, 43, 0, 0, 0, 0), (206, 207, 3, 0, 0, 0, 0), (207, 210, 37, 155, 0, 0, 1167), (210, 211, 43, 0, 0, 0, 0), (211, 212, 3, 0, 0, 0, 0), (212, 215, 37, 158, 0, 0, 1171), (215, 216, 43, 0, 0, 0, 0), (216, 217, 3, 0, 0, 0, 0), (217, 220, 26, 10, 32, 0, 911), (220, 221, 43, 0, 0, 0, 0), (221, 222, 3, 0, 0, 0, 0), (222, 225, 26, 10, 30, 0, 909), (225, 226, 43, 0, 0, 0, 0), (226, 228, 0, 0, 0, (-1000000002), 999), (228, 229, 43, 0, 0, 0, 0)]
/-- 160: FlagSignalsModel.flag(II)I -/
def fg_c160 : List fg_I := [(0, 1, 3, 0, 0, 0, 0), (1, 2, 2, 1, 0, 0, 0), (2, 5, 37, 114, 1, 0, 1187), (5, 8, 23, 11, 1, 0, 0), (8, 10, 0, 0, 0, (-1000000001), 1057), (10, 11, 43, 0, 0, 0, 0), (11, 12, 2, 2, 0, 0, 0), (12, 56, 25, 4, 0, 0, 0), (56, 57, 3, 0, 0, 0, 0), (57, 60, 27, 10, 7, 0, 886), (60, 61, 2, 1, 0, 0, 0), (61, 62, 31, 0, 0, 0, 0), (62, 64, 0, 0, 0, 100, 0), (64, 65, 10, 0, 0, 0, 0), (65, 66, 43, 0, 0, 0, 0), (66, 67, 3, 0, 0, 0, 0), (67, 70, 27, 10, 7, 0, 886), (70, 71, 2, 1, 0, 0, 0), (71, 72, 31, 0, 0, 0, 0), (72, 74, 0, 0, 0, 10, 0), (74, 75, 10, 0, 0, 0, 0), (75, 77, 0, 0, 0, 10, 0), (77, 78, 11, 0, 0, 0, 0), (78, 79, 43, 0, 0, 0, 0), (79, 80, 3, 0, 0, 0, 0), (80, 83, 27, 10, 7, 0, 886), (83, 84, 2, 1, 0, 0, 0), (84, 85, 31, 0, 0, 0, 0), (85, 87, 0, 0, 0, 10, 0), (87, 88, 11, 0, 0, 0, 0), (88, 89, 43, 0, 0, 0, 0), (89, 90, 3, 0, 0, 0, 0), (90, 93, 27, 10, 7, 0, 886), (93, 95, 0, 0, 0, 10, 0), (95, 96, 2, 1, 0, 0, 0), (96, 97, 9, 0, 0, 0, 0), (97, 98, 31, 0, 0, 0, 0), (98, 99, 43, 0, 0, 0, 0), (99, 100, 3, 0, 0, 0, 0), (100, 103, 27, 10, 7, 0, 886), (103, 105, 0, 0, 0, 20, 0), (105, 106, 2, 1, 0, 0, 0), (106, 107, 9, 0, 0, 0, 0), (107, 108, 31, 0, 0, 0, 0), (108, 109, 43, 0, 0, 0, 0), (109, 110, 3, 0, 0, 0, 0), (110, 113, 27, 10, 7, 0, 886), (113, 115, 0, 0, 0, 30, 0), (115, 116, 2, 1, 0, 0, 0), (116, 117, 9, 0, 0, 0, 0), (117, 118, 31, 0, 0, 0, 0), (118, 119, 43, 0, 0, 0, 0), (119, 120, 3, 0, 0, 0, 0), (120, 123, 27, 10, 7, 0, 886), (123, 124, 2, 1, 0, 0, 0), (124, 125, 31, 0, 0, 0, 0), (125, 126, 3, 0, 0, 0, 0), (126, 129, 27, 10, 7, 0, 886), (129, 131, 0, 0, 0, 58, 0), (131, 132, 31, 0, 0, 0, 0), (132, 133, 3, 0, 0, 0, 0), (133, 136, 27, 10, 7, 0, 886), (136, 138, 0, 0, 0, 59, 0), (138, 139, 31, 0, 0, 0, 0), (139, 142, 39, 137, 3, 0, 1133), (142, 143, 43, 0, 0, 0, 0), (143, 145, 0, 0, 0, (-1000000002), 999), (145, 146, 43, 0, 0, 0, 0)]
/-- 161: FlagSignalsModel.lineOf(I)I -/
def fg_c161 : List fg_I := [(0, 1, 0, 0, 0, (-1), 0), (1, 2, 5, 2, 0, 0, 0), (2, 3, 3, 0, 0, 0, 0), (3, 6, 26, 10, 0, 0, 879), (6, 7, 0, 0, 0, 1, 0), (7, 8, 9, 0, 1, 0, 0), (8, 9, 5, 3, 0, 0, 0), (9, 10, 2, 3, 0, 0, 0), (10, 13, 23, 38, 2, 0, 0), (13, 14, 3, 0, 0, 0, 0), (14, 17, 27, 10, 7, 0, 886), (17, 19, 0, 0, 0, 43, 0), (19, 20, 2, 3, 0, 0, 0), (20, 21, 9, 0, 0, 0, 0), (21, 22, 31, 0, 0, 0, 0), (22, 23, 2, 1, 0, 0, 0), (23, 26, 24, 30, 1, 0, 0), (26, 27, 2, 3, 0, 0, 0), (27, 30, 22, 31, 0, 0, 0), (30, 31, 2, 2, 0, 0, 0), (31, 32, 5, 2, 0, 0, 0), (32, 35, 8, 3, 0, (-1), 0), (35, 38, 22, 9, 0, 0, 0), (38, 39, 2, 2, 0, 0, 0), (39, 40, 43, 0, 0, 0, 0)]
/-- 162: FlagSignalsModel.likeNow(I)I -/
def fg_c162 : List fg_I := [(0, 1, 3, 0, 0, 0, 0), (1, 2, 3, 0, 0, 0, 0), (2, 5, 27, 10, 7, 0, 886), (5, 7, 0, 0, 0, 58, 0), (7, 8, 31, 0, 0, 0, 0), (8, 9, 3, 0, 0, 0, 0), (9, 12, 27, 10, 7, 0, 886), (12, 14, 0, 0, 0, 59, 0), (14, 15, 31, 0, 0, 0, 0), (15, 18, 38, 138, 2, 0, 1129), (18, 19, 3, 0, 0, 0, 0), (19, 20, 2, 1, 0, 0, 0), (20, 23, 37, 140, 1, 0, 1139), (23, 24, 43, 0, 0, 0, 0)]
/-- 163: FlagSignalsModel.signal(II)I -/
def fg_c163 : List fg_I := [(0, 1, 3, 0, 0, 0, 0), (1, 2, 2, 1, 0, 0, 0), (2, 5, 37, 115, 1, 0, 1195), (5, 8, 23, 11, 1, 0, 0), (8, 10, 0, 0, 0, (-1000000001), 1057), (10, 11, 43, 0, 0, 0, 0), (11, 12, 2, 2, 0, 0, 0), (12, 13, 13, 0, 0, 0, 0), (13, 14, 1, 0, 0, 0, 0), (14, 17, 1, 6, 0, 0, 1199), (17, 20, 39, 110, 3, 0, 996), (20, 23, 23, 26, 1, 0, 0), (23, 25, 0, 0, 0, (-1000000002), 999), (25, 26, 43, 0, 0, 0, 0), (26, 27, 2, 2, 0, 0, 0), (27, 28, 13, 0, 0, 0, 0), (28, 29, 1, 1, 0, 0, 0), (29, 32, 1, 4, 0, 0, 1200), (32, 35, 39, 110, 3, 0, 996), (35, 38, 23, 65, 0, 0, 0), (38, 39, 2, 2, 0, 0, 0), (39, 40, 3, 0, 0, 0, 0), (40, 43, 27, 10, 5, 0, 884), (43, 44, 2, 1, 0, 0, 0), (44, 45, 31, 0, 0, 0, 0), (45, 48, 24, 63, 4, 0, 0), (48, 49, 3, 0, 0, 0, 0), (49, 52, 27, 10, 6, 0, 885), (52, 53, 0, 0, 0, 4, 0), (53, 54, 2, 1, 0, 0, 0), (54, 55, 9, 0, 2, 0, 0), (55, 56, 2, 2, 0, 0, 0), (56, 57, 9, 0, 0, 0, 0), (57, 58, 0, 0, 0, 1, 0), (58, 59, 9, 0, 1, 0, 0), (59, 60, 31, 0, 0, 0, 0), (60, 63, 22, 64, 0, 0, 0), (63, 64, 0, 0, 0, (-1), 0), (64, 65, 43, 0, 0, 0, 0), (65, 66, 2, 2, 0, 0, 0), (66, 69, 23, 78, 1, 0, 0), (69, 70, 3, 0, 0, 0, 0), (70, 73, 27, 10, 5, 0, 884), (73, 74, 2, 1, 0, 0, 0), (74, 75, 31, 0, 0, 0, 0), (75, 78, 22, 96, 0, 0, 0), (78, 79, 2, 2, 0, 0, 0), (79, 80, 0, 0, 0, 5, 0), (80, 83, 24, 91, 1, 0, 0), (83, 84, 3, 0, 0, 0, 0), (84, 85, 2, 1, 0, 0, 0), (85, 88, 37, 162, 1, 0, 1201), (88, 91, 22, 96, 0, 0, 0), (91, 92, 3, 0, 0, 0, 0), (92, 93, 2, 1, 0, 0, 0), (93, 96, 37, 161, 1, 0, 1205), (96, 97, 43, 0, 0, 0, 0)]
/-- 164: FlagSignalsModel.line(II)I -/
def fg_c164 : List fg_I := [(0, 1, 3, 0, 0, 0, 0), (1, 2, 2, 1, 0, 0, 0), (2, 5, 37, 113, 1, 0, 1213), (5, 8, 23, 11, 1, 0, 0), (8, 10, 0, 0, 0, (-1000000001), 1057), (10, 11, 43, 0, 0, 0, 0), (11, 12, 2, 2, 0, 0, 0), (12, 13, 13, 0, 0, 0, 0), (13, 14, 1, 0, 0, 0, 0), (14, 17, 1, 4, 0, 0, 1200), (17, 20, 39, 110, 3, 0, 996), (20, 23, 23, 26, 1, 0, 0), (23, 25, 0, 0, 0, (-1000000002), 999), (25, 26, 43, 0, 0, 0, 0), (26, 27, 2, 2, 0, 0, 0), (27, 30, 23, 42, 1, 0, 0), (30, 31, 3, 0, 0, 0, 0), (31, 34, 27, 10, 7, 0, 886), (34, 36, 0, 0, 0, 43, 0), (36, 37, 2, 1, 0, 0, 0), (37, 38, 9, 0, 0, 0, 0), (38, 39, 31, 0, 0, 0, 0), (39, 42, 22, 57, 0, 0, 0), (42, 43, 3, 0, 0, 0, 0), (43, 46, 27, 10, 7, 0, 886), (46, 48, 0, 0, 0, 46, 0), (48, 49, 0, 0, 0, 4, 0), (49, 50, 2, 1, 0, 0, 0), (50, 51, 9, 0, 2, 0, 0), (51, 52, 9, 0, 0, 0, 0), (52, 53, 2, 2, 0, 0, 0), (53, 54, 9, 0, 0, 0, 0), (54, 55, 0, 0, 0, 1, 0), (55, 56, 9, 0, 1, 0, 0), (56, 57, 31, 0, 0, 0, 0), (57, 58, 43, 0, 0, 0, 0)]
/-- 165: FlagSignalsModel.needs(II)I -/
def fg_c165 : List fg_I := [(0, 1, 3, 0, 0, 0, 0), (1, 2, 2, 1, 0, 0, 0), (2, 5, 37, 115, 1, 0, 1195), (5, 8, 23, 11, 1, 0, 0), (8, 10, 0, 0, 0, (-1000000001), 1057), (10, 11, 43, 0, 0, 0, 0), (11, 12, 2, 2, 0, 0, 0), (12, 13, 13, 0, 0, 0, 0), (13, 14, 1, 1, 0, 0, 0), (14, 17, 1, 4, 0, 0, 1200), (17, 20, 39, 110, 3, 0, 996), (20, 23, 23, 26, 1, 0, 0), (23, 25, 0, 0, 0, (-1000000002), 999), (25, 26, 43, 0, 0, 0, 0), (26, 27, 3, 0, 0, 0, 0), (27, 28, 2, 1, 0, 0, 0), (28, 29, 3, 0, 0, 0, 0), (29, 32, 37, 128, 0, 0, 1109), (32, 33, 3, 0, 0, 0, 0), (33, 36, 37, 130, 0, 0, 1117), (36, 39, 37, 134, 3, 0, 1076), (39, 42, 23, 53, 0, 0, 0), (42, 43, 3, 0, 0, 0, 0), (43, 46, 27, 10, 21, 0, 900), (46, 47, 2, 2, 0, 0, 0), (47, 48, 0, 0, 0, 1, 0), (48, 49, 9, 0, 1, 0, 0), (49, 50, 31, 0, 0, 0, 0), (50, 53, 22, 54, 0, 0, 0), (53, 54, 0, 0, 0, (-1), 0), (54, 55, 43, 0, 0, 0, 0)]
/-- 166: FlagSignalsModel.remember()V -/
def fg_c166 : List fg_I := [(0, 1, 3, 0, 0, 0, 0), (1, 4, 26, 10, 30, 0, 909), (4, 6, 0, 0, 0, 16, 0), (6, 9, 24, 50, 1, 0, 0), (9, 11, 0, 0, 0, 61, 0), (11, 12, 5, 1, 0, 0, 0), (12, 13, 2, 1, 0, 0, 0), (13, 16, 0, 0, 0, 976, 0), (16, 19, 24, 40, 3, 0, 0), (19, 20, 3, 0, 0, 0, 0), (20, 23, 27, 10, 31, 0, 910), (23, 24, 2, 1, 0, 0, 0), (24, 26, 0, 0, 0, 61, 0), (26, 27, 9, 0, 1, 0, 0), (27, 28, 3, 0, 0, 0, 0), (28, 31, 27, 10, 31, 0, 910), (31, 32, 2, 1, 0, 0, 0), (32, 33, 31, 0, 0, 0, 0), (33, 34, 32, 0, 0, 0, 0), (34, 37, 8, 1, 0, 1, 0), (37, 40, 22, 12, 0, 0, 0), (40, 41, 3, 0, 0, 0, 0), (41, 42, 19, 0, 0, 0, 0), (42, 45, 26, 10, 30, 0, 909), (45, 46, 0, 0, 0, 1, 0), (46, 47, 9, 0, 1, 0, 0), (47, 50, 28, 10, 30, 0, 909), (50, 51, 0, 0, 0, 0, 0), (51, 52, 5, 1, 0, 0, 0), (52, 53, 2, 1, 0, 0, 0), (53, 55, 0, 0, 0, 61, 0), (55, 58, 24, 84, 3, 0, 0), (58, 59, 3, 0, 0, 0, 0), (59, 62, 27, 10, 31, 0, 910), (62, 64, 0, 0, 0, 61, 0), (64, 65, 3, 0, 0, 0, 0), (65, 68, 26, 10, 30, 0, 909), (68, 69, 9, 0, 2, 0, 0), (69, 70, 2, 1, 0, 0, 0), (70, 71, 9, 0, 0, 0, 0), (71, 72, 3, 0, 0, 0, 0), (72, 75, 27, 10, 7, 0, 886), (75, 76, 2, 1, 0, 0, 0), (76, 77, 31, 0, 0, 0, 0), (77, 78, 32, 0, 0, 0, 0), (78, 81, 8, 1, 0, 1, 0), (81, 84, 22, 52, 0, 0, 0), (84, 85, 3, 0, 0, 0, 0), (85, 86, 19, 0, 0, 0, 0), (86, 89, 26, 10, 30, 0, 909), (89, 90, 0, 0, 0, 1, 0), (90, 91, 9, 0, 0, 0, 0), (91, 94, 28, 10, 30, 0, 909), (94, 95, 45, 0, 0, 0, 0)]
/-- 167: FlagSignalsModel.canHoist(II)Z -/
def fg_c167 : List fg_I := [(0, 1, 3, 0, 0, 0, 0), (1, 4, 27, 10, 7, 0, 886), (4, 6, 0, 0, 0, 43, 0), (6, 7, 2, 1, 0, 0, 0), (7, 8, 9, 0, 0, 0, 0), (8, 9, 31, 0, 0, 0, 0), (9, 10, 0, 0, 0, (-1), 0), (10, 13, 24, 33, 1, 0, 0), (13, 14, 3, 0, 0, 0, 0), (14, 15, 2, 2, 0, 0, 0), (15, 16, 3, 0, 0, 0, 0), (16, 19, 37, 128, 0, 0, 1109), (19, 20, 3, 0, 0, 0, 0), (20, 23, 37, 130, 0, 0, 1117), (23, 26, 37, 134, 3, 0, 1076), (26, 29, 23, 33, 0, 0, 0), (29, 30, 0, 0, 0, 1, 0), (30, 33, 22, 34, 0, 0, 0), (33, 34, 0, 0, 0, 0, 0), (34, 35, 44, 0, 0, 0, 0)]
/-- 168: FlagSignalsModel.hoistRow(II)I -/
def fg_c168 : List fg_I := [(0, 1, 0, 0, 0, 0, 0), (1, 2, 5, 3, 0, 0, 0), (2, 3, 0, 0, 0, 0, 0), (3, 5, 5, 4, 0, 0, 0), (5, 7, 2, 4, 0, 0, 0), (7, 8, 0, 0, 0, 4, 0), (8, 11, 24, 104, 3, 0, 0), (11, 12, 3, 0, 0, 0, 0), (12, 15, 27, 10, 7, 0, 886), (15, 17, 0, 0, 0, 46, 0), (17, 18, 0, 0, 0, 4, 0), (18, 19, 2, 1, 0, 0, 0), (19, 20, 9, 0, 2, 0, 0), (20, 21, 9, 0, 0, 0, 0), (21, 23, 2, 4, 0, 0, 0), (23, 24, 9, 0, 0, 0, 0), (24, 25, 3, 0, 0, 0, 0), (25, 28, 27, 10, 21, 0, 900), (28, 30, 2, 4, 0, 0, 0), (30, 31, 31, 0, 0, 0, 0), (31, 32, 32, 0, 0, 0, 0), (32, 33, 3, 0, 0, 0, 0), (33, 36, 27, 10, 21, 0, 900), (36, 38, 2, 4, 0, 0, 0), (38, 39, 31, 0, 0, 0, 0), (39, 41, 0, 0, 0, 20, 0), (41, 44, 24, 71, 5, 0, 0), (44, 45, 3, 0, 0, 0, 0), (45, 48, 27, 10, 7, 0, 886), (48, 50, 0, 0, 0, 40, 0), (50, 51, 3, 0, 0, 0, 0), (51, 54, 27, 10, 21, 0, 900), (54, 56, 2, 4, 0, 0, 0), (56, 57, 31, 0, 0, 0, 0), (57, 58, 9, 0, 0, 0, 0), (58, 60, 0, 0, 0, 20, 0), (60, 61, 9, 0, 1, 0, 0), (61, 62, 0, 0, 0, 1, 0), (62, 63, 9, 0, 1, 0, 0), (63, 64, 2, 1, 0, 0, 0), (64, 65, 32, 0, 0, 0, 0), (65, 68, 8, 3, 0, 1, 0), (68, 71, 22, 98, 0, 0, 0), (71, 72, 3, 0, 0, 0, 0), (72, 75, 27, 10, 21, 0, 900), (75, 77, 2, 4, 0, 0, 0), (77, 78, 31, 0, 0, 0, 0), (78, 79, 0, 0, 0, (-1), 0), (79, 82, 24, 98, 0, 0, 0), (82, 83, 3, 0, 0, 0, 0), (83, 86, 27, 10, 7, 0, 886), (86, 88, 0, 0, 0, 20, 0), (88, 89, 3, 0, 0, 0, 0), (89, 92, 27, 10, 21, 0, 900), (92, 94, 2, 4, 0, 0, 0), (94, 95, 31, 0, 0, 0, 0), (95, 96, 9, 0, 0, 0, 0), (96, 97, 2, 1, 0, 0, 0), (97, 98, 32, 0, 0, 0, 0), (98, 101, 8, 4, 0, 1, 0), (101, 104, 22, 5, 0, 0, 0), (104, 105, 3, 0, 0, 0, 0), (105, 108, 27, 10, 7, 0, 886), (108, 110, 0, 0, 0, 43, 0), (110, 111, 2, 1, 0, 0, 0), (111, 112, 9, 0, 0, 0, 0), (112, 113, 2, 2, 0, 0, 0), (113, 114, 32, 0, 0, 0, 0), (114, 115, 2, 3, 0, 0, 0), (115, 116, 43, 0, 0, 0, 0)]
/-- 169: FlagSignalsModel.hoist(II)I -/
def fg_c169 : List fg_I := [(0, 1, 3, 0, 0, 0, 0), (1, 2, 2, 1, 0, 0, 0), (2, 5, 37, 113, 1, 0, 1213), (5, 8, 23, 16, 0, 0, 0), (8, 9, 3, 0, 0, 0, 0), (9, 10, 2, 2, 0, 0, 0), (10, 13, 37, 115, 1, 0, 1195), (13, 16, 23, 19, 1, 0, 0), (16, 18, 0, 0, 0, (-1000000001), 1057), (18, 19, 43, 0, 0, 0, 0), (19, 20, 3, 0, 0, 0, 0), (20, 21, 2, 1, 0, 0, 0), (21, 22, 2, 2, 0, 0, 0), (22, 25, 37, 167, 2, 0, 1225), (25, 28, 23, 32, 1, 0, 0), (28, 31, 0, 0, 0, (-1000000003), 1229), (31, 32, 43, 0, 0, 0, 0), (32, 33, 3, 0, 0, 0, 0), (33, 36, 38, 166, 0, 0, 1230), (36, 37, 3, 0, 0, 0, 0), (37, 38, 2, 1, 0, 0, 0), (38, 39, 2, 2, 0, 0, 0), (39, 42, 37, 168, 2, 0, 1234), (42, 43, 43, 0, 0, 0, 0)]
/-- 170: FlagSignalsModel.haulNow(I)I -/
def fg_c170 : List fg_I := [(0, 1, 3, 0, 0, 0, 0), (1, 4, 27, 10, 7, 0, 886), (4, 6, 0, 0, 0, 43, 0), (6, 7, 2, 1, 0, 0, 0), (7, 8, 9, 0, 0, 0, 0), (8, 9, 31, 0, 0, 0, 0), (9, 10, 5, 2, 0, 0, 0), (10, 11, 3, 0, 0, 0, 0), (11, 14, 27, 10, 7, 0, 886), (14, 16, 0, 0, 0, 43, 0), (16, 17, 2, 1, 0, 0, 0), (17, 18, 9, 0, 0, 0, 0), (18, 19, 0, 0, 0, (-1), 0), (19, 20, 32, 0, 0, 0, 0), (20, 21, 0, 0, 0, 0, 0), (21, 22, 5, 3, 0, 0, 0), (22, 23, 2, 3, 0, 0, 0), (23, 24, 0, 0, 0, 4, 0), (24, 27, 24, 47, 3, 0, 0), (27, 28, 3, 0, 0, 0, 0), (28, 31, 27, 10, 7, 0, 886), (31, 33, 0, 0, 0, 46, 0), (33, 34, 0, 0, 0, 4, 0), (34, 35, 2, 1, 0, 0, 0), (35, 36, 9, 0, 2, 0, 0), (36, 37, 9, 0, 0, 0, 0), (37, 38, 2, 3, 0, 0, 0), (38, 39, 9, 0, 0, 0, 0), (39, 40, 0, 0, 0, (-1), 0), (40, 41, 32, 0, 0, 0, 0), (41, 44, 8, 3, 0, 1, 0), (44, 47, 22, 22, 0, 0, 0), (47, 48, 0, 0, 0, 0, 0), (48, 49, 5, 3, 0, 0, 0), (49, 50, 2, 3, 0, 0, 0), (50, 52, 0, 0, 0, 10, 0), (52, 55, 24, 96, 3, 0, 0), (55, 56, 3, 0, 0, 0, 0), (56, 59, 27, 10, 7, 0, 886), (59, 61, 0, 0, 0, 20, 0), (61, 62, 2, 3, 0, 0, 0), (62, 63, 9, 0, 0, 0, 0), (63, 64, 3, 0, 0, 0, 0), (64, 67, 27, 10, 7, 0, 886), (67, 69, 0, 0, 0, 20, 0), (69, 70, 2, 3, 0, 0, 0), (70, 71, 9, 0, 0, 0, 0), (71, 72, 31, 0, 0, 0, 0), (72, 73, 2, 1, 0, 0, 0), (73, 76, 24, 80, 1, 0, 0), (76, 77, 0, 0, 0, (-1), 0), (77, 80, 22, 89, 0, 0, 0), (80, 81, 3, 0, 0, 0, 0), (81, 84, 27, 10, 7, 0, 886), (84, 86, 0, 0, 0, 20, 0), (86, 87, 2, 3, 0, 0, 0), (87, 88, 9, 0, 0, 0, 0), (88, 89, 31, 0, 0, 0, 0), (89, 90, 32, 0, 0, 0, 0), (90, 93, 8, 3, 0, 1, 0), (93, 96, 22, 49, 0, 0, 0), (96, 97, 0, 0, 0, 0, 0), (97, 98, 5, 3, 0, 0, 0), (98, 99, 2, 3, 0, 0, 0), (99, 100, 0, 0, 0, 3, 0), (100, 103, 24, 144, 3, 0, 0), (103, 104, 3, 0, 0, 0, 0), (104, 107, 27, 10, 7, 0, 886), (107, 109, 0, 0, 0, 40, 0), (109, 110, 2, 3, 0, 0, 0), (110, 111, 9, 0, 0, 0, 0), (111, 112, 3, 0, 0, 0, 0), (112, 115, 27, 10, 7, 0, 886), (115, 117, 0, 0, 0, 40, 0), (117, 118, 2, 3, 0, 0, 0), (118, 119, 9, 0, 0, 0, 0), (119, 120, 31, 0, 0, 0, 0), (120, 121, 2, 1, 0, 0, 0), (121, 124, 24, 128, 1, 0, 0), (124, 125, 0, 0, 0, (-1), 0), (125, 128, 22, 137, 0, 0, 0), (128, 129, 3, 0, 0, 0, 0), (129, 132, 27, 10, 7, 0, 886), (132, 134, 0, 0, 0, 40, 0), (134, 135, 2, 3, 0, 0, 0), (135, 136, 9, 0, 0, 0, 0), (136, 137, 31, 0, 0, 0, 0), (137, 138, 32, 0, 0, 0, 0), (138, 141, 8, 3, 0, 1, 0), (141, 144, 22, 98, 0, 0, 0), (144, 145, 2, 2, 0, 0, 0), (145, 146, 43, 0, 0, 0, 0)]
/-- 171: FlagSignalsModel.haul(I)I -/
def fg_c171 : List fg_I := [(0, 1, 3, 0, 0, 0, 0), (1, 2, 2, 1, 0, 0, 0), (2, 5, 37, 113, 1, 0, 1213), (5, 8, 23, 11, 1, 0, 0), (8, 10, 0, 0, 0, (-1000000001), 1057), (10, 11, 43, 0, 0, 0, 0), (11, 12, 3, 0, 0, 0, 0), (12, 15, 27, 10, 7, 0, 886), (15, 17, 0, 0, 0, 43, 0), (17, 18, 2, 1, 0, 0, 0), (18, 19, 9, 0, 0, 0, 0), (19, 20, 31, 0, 0, 0, 0), (20, 21, 0, 0, 0, (-1), 0), (21, 24, 24, 28, 1, 0, 0), (24, 27, 0, 0, 0, (-1000000003), 1229), (27, 28, 43, 0, 0, 0, 0), (28, 29, 3, 0, 0, 0, 0), (29, 32, 38, 166, 0, 0, 1230), (32, 33, 3, 0, 0, 0, 0), (33, 34, 2, 1, 0, 0, 0), (34, 37, 37, 170, 1, 0, 1242), (37, 38, 43, 0, 0, 0, 0)]
/-- 172: FlagSignalsModel.pass()V -/
def fg_c172 : List fg_I := [(0, 1, 0, 0, 0, 0, 0), (1, 2, 5, 1, 0, 0, 0), (2, 3, 2, 1, 0, 0, 0), (3, 4, 3, 0, 0, 0, 0), (4, 7, 26, 10, 2, 0, 881), (7, 10, 24, 107, 3, 0, 0), (10, 11, 3, 0, 0, 0, 0), (11, 14, 27, 10, 7, 0, 886), (14, 16, 0, 0, 0, 20, 0), (16, 17, 2, 1, 0, 0, 0), (17, 18, 9, 0, 0, 0, 0), (18, 19, 31, 0, 0, 0, 0), (19, 20, 0, 0, 0, (-1), 0), (20, 23, 24, 39, 0, 0, 0), (23, 24, 3, 0, 0, 0, 0), (24, 27, 27, 10, 7, 0, 886), (27, 29, 0, 0, 0, 30, 0), (29, 30, 2, 1, 0, 0, 0), (30, 31, 9, 0, 0, 0, 0), (31, 32, 31, 0, 0, 0, 0), (32, 35, 23, 39, 1, 0, 0), (35, 36, 0, 0, 0, 1, 0), (36, 39, 22, 40, 0, 0, 0), (39, 40, 0, 0, 0, 0, 0), (40, 41, 5, 2, 0, 0, 0), (41, 42, 3, 0, 0, 0, 0), (42, 45, 27, 10, 7, 0, 886), (45, 47, 0, 0, 0, 10, 0), (47, 48, 2, 1, 0, 0, 0), (48, 49, 9, 0, 0, 0, 0), (49, 50, 21, 0, 0, 0, 0), (50, 51, 31, 0, 0, 0, 0), (51, 52, 2, 2, 0, 0, 0), (52, 55, 23, 59, 0, 0, 0), (55, 56, 0, 0, 0, 1, 0), (56, 59, 22, 60, 0, 0, 0), (59, 60, 0, 0, 0, 0, 0), (60, 61, 9, 0, 0, 0, 0), (61, 62, 32, 0, 0, 0, 0), (62, 63, 3, 0, 0, 0, 0), (63, 66, 27, 10, 7, 0, 886), (66, 68, 0, 0, 0, 30, 0), (68, 69, 2, 1, 0, 0, 0), (69, 70, 9, 0, 0, 0, 0), (70, 71, 2, 2, 0, 0, 0), (71, 74, 23, 91, 0, 0, 0), (74, 75, 3, 0, 0, 0, 0), (75, 78, 27, 10, 7, 0, 886), (78, 80, 0, 0, 0, 10, 0), (80, 81, 2, 1, 0, 0, 0), (81, 82, 9, 0, 0, 0, 0), (82, 83, 31, 0, 0, 0, 0), (83, 84, 0, 0, 0, 5, 0), (84, 87, 24, 91, 1, 0, 0), (87, 88, 0, 0, 0, 1, 0), (88, 91, 22, 100, 0, 0, 0), (91, 92, 3, 0, 0, 0, 0), (92, 95, 27, 10, 7, 0, 886), (95, 97, 0, 0, 0, 30, 0), (97, 98, 2, 1, 0, 0, 0), (98, 99, 9, 0, 0, 0, 0), (99, 100, 31, 0, 0, 0, 0), (100, 101, 32, 0, 0, 0, 0), (101, 104, 8, 1, 0, 1, 0), (104, 107, 22, 2, 0, 0, 0), (107, 108, 3, 0, 0, 0, 0), (108, 111, 27, 10, 7, 0, 886), (111, 113, 0, 0, 0, 60, 0), (113, 114, 21, 0, 0, 0, 0), (114, 115, 31, 0, 0, 0, 0), (115, 116, 0, 0, 0, 1, 0), (116, 117, 9, 0, 0, 0, 0), (117, 118, 32, 0, 0, 0, 0), (118, 119, 45, 0, 0, 0, 0)]
/-- 173: FlagSignalsModel.daysRefused(I)I -/
def fg_c173 : List fg_I := [(0, 1, 2, 1, 0, 0, 0), (1, 2, 13, 0, 0, 0, 0), (2, 3, 1, 1, 0, 0, 0), (3, 6, 1, 60, 0, 0, 1254), (6, 9, 39, 110, 3, 0, 996), (9, 12, 23, 15, 1, 0, 0), (12, 14, 0, 0, 0, (-1000000002), 999), (14, 15, 43, 0, 0, 0, 0), (15, 16, 3, 0, 0, 0, 0), (16, 19, 26, 10, 0, 0, 879), (19, 22, 23, 28, 1, 0, 0), (22, 25, 0, 0, 0, (-1000000003), 1229), (25, 28, 22, 47, 0, 0, 0), (28, 29, 3, 0, 0, 0, 0), (29, 32, 27, 10, 7, 0, 886), (32, 34, 0, 0, 0, 60, 0), (34, 35, 31, 0, 0, 0, 0), (35, 38, 0, 0, 0, 9000, 0), (38, 41, 24, 46, 5, 0, 0), (41, 43, 0, 0, 0, (-1000000004), 1000), (43, 46, 22, 47, 0, 0, 0), (46, 47, 0, 0, 0, 0, 0), (47, 48, 43, 0, 0, 0, 0)]
/-- 174: FlagSignalsModel.day(I)I -/
def fg_c174 : List fg_I := [(0, 1, 3, 0, 0, 0, 0), (1, 2, 2, 1, 0, 0, 0), (2, 5, 37, 173, 1, 0, 1250), (5, 6, 5, 2, 0, 0, 0), (6, 7, 2, 2, 0, 0, 0), (7, 10, 23, 12, 0, 0, 0), (10, 11, 2, 2, 0, 0, 0), (11, 12, 43, 0, 0, 0, 0), (12, 13, 3, 0, 0, 0, 0), (13, 16, 38, 166, 0, 0, 1230), (16, 17, 0, 0, 0, 0, 0), (17, 18, 5, 3, 0, 0, 0), (18, 19, 2, 3, 0, 0, 0), (19, 20, 2, 1, 0, 0, 0), (20, 23, 24, 33, 3, 0, 0), (23, 24, 3, 0, 0, 0, 0), (24, 27, 38, 172, 0, 0, 1255), (27, 30, 8, 3, 0, 1, 0), (30, 33, 22, 18, 0, 0, 0), (33, 34, 3, 0, 0, 0, 0), (34, 37, 37, 129, 0, 0, 1062), (37, 38, 43, 0, 0, 0, 0)]
/-- 175: FlagSignalsModel.canSew(I)Z -/
def fg_c175 : List fg_I := [(0, 1, 3, 0, 0, 0, 0), (1, 4, 27, 10, 7, 0, 886), (4, 6, 0, 0, 0, 20, 0), (6, 7, 2, 1, 0, 0, 0), (7, 8, 9, 0, 0, 0, 0), (8, 9, 31, 0, 0, 0, 0), (9, 10, 0, 0, 0, (-1), 0), (10, 13, 24, 30, 1, 0, 0), (13, 14, 3, 0, 0, 0, 0), (14, 17, 27, 10, 7, 0, 886), (17, 19, 0, 0, 0, 30, 0), (19, 20, 2, 1, 0, 0, 0), (20, 21, 9, 0, 0, 0, 0), (21, 22, 31, 0, 0, 0, 0), (22, 23, 0, 0, 0, 1, 0), (23, 26, 24, 30, 1, 0, 0), (26, 27, 0, 0, 0, 1, 0), (27, 30, 22, 31, 0, 0, 0), (30, 31, 0, 0, 0, 0, 0), (31, 32, 44, 0, 0, 0, 0)]
/-- 176: FlagSignalsModel.sewNow(I)V -/
def fg_c176 : List fg_I := [(0, 1, 3, 0, 0, 0, 0), (1, 4, 27, 10, 7, 0, 886), (4, 6, 0, 0, 0, 30, 0), (6, 7, 2, 1, 0, 0, 0), (7, 8, 9, 0, 0, 0, 0), (8, 9, 0, 0, 0, 0, 0), (9, 10, 32, 0, 0, 0, 0), (10, 11, 3, 0, 0, 0, 0), (11, 14, 27, 10, 7, 0, 886), (14, 16, 0, 0, 0, 10, 0), (16, 17, 2, 1, 0, 0, 0), (17, 18, 9, 0, 0, 0, 0), (18, 19, 0, 0, 0, 0, 0), (19, 20, 32, 0, 0, 0, 0), (20, 21, 45, 0, 0, 0, 0)]
/-- 177: FlagSignalsModel.sew(I)I -/
def fg_c177 : List fg_I := [(0, 1, 3, 0, 0, 0, 0), (1, 2, 2, 1, 0, 0, 0), (2, 5, 37, 114, 1, 0, 1187), (5, 8, 23, 11, 1, 0, 0), (8, 10, 0, 0, 0, (-1000000001), 1057), (10, 11, 43, 0, 0, 0, 0), (11, 12, 3, 0, 0, 0, 0), (12, 13, 2, 1, 0, 0, 0), (13, 16, 37, 175, 1, 0, 1263), (16, 19, 23, 23, 1, 0, 0), (19, 22, 0, 0, 0, (-1000000003), 1229), (22, 23, 43, 0, 0, 0, 0), (23, 24, 3, 0, 0, 0, 0), (24, 27, 38, 166, 0, 0, 1230), (27, 28, 3, 0, 0, 0, 0), (28, 31, 27, 10, 7, 0, 886), (31, 33, 0, 0, 0, 10, 0), (33, 34, 2, 1, 0, 0, 0), (34, 35, 9, 0, 0, 0, 0), (35, 36, 31, 0, 0, 0, 0), (36, 37, 5, 2, 0, 0, 0), (37, 38, 3, 0, 0, 0, 0), (38, 39, 2, 1, 0, 0, 0), (39, 42, 38, 176, 1, 0, 1267), (42, 43, 2, 2, 0, 0, 0), (43, 44, 43, 0, 0, 0, 0)]
/-- 178: FlagSignalsModel.anew(IIII)I -/
def fg_c178 : List fg_I := [(0, 1, 3, 0, 0, 0, 0), (1, 2, 2, 1, 0, 0, 0), (2, 5, 37, 114, 1, 0, 1187), (5, 8, 23, 11, 1, 0, 0), (8, 10, 0, 0, 0, (-1000000001), 1057), (10, 11, 43, 0, 0, 0, 0), (11, 12, 2, 2, 0, 0, 0), (12, 13, 13, 0, 0, 0, 0), (13, 14, 1, 0, 0, 0, 0), (14, 17, 1, 3, 0, 0, 1275), (17, 20, 39, 110, 3, 0, 996), (20, 23, 23, 48, 0, 0, 0), (23, 24, 2, 3, 0, 0, 0), (24, 25, 13, 0, 0, 0, 0), (25, 26, 1, 0, 0, 0, 0), (26, 29, 1, 4, 0, 0, 1200), (29, 32, 39, 110, 3, 0, 996), (32, 35, 23, 48, 0, 0, 0), (35, 37, 2, 4, 0, 0, 0), (37, 38, 13, 0, 0, 0, 0), (38, 39, 1, 0, 0, 0, 0), (39, 42, 1, 4, 0, 0, 1200), (42, 45, 39, 110, 3, 0, 996), (45, 48, 23, 51, 1, 0, 0), (48, 50, 0, 0, 0, (-1000000002), 999), (50, 51, 43, 0, 0, 0, 0), (51, 52, 3, 0, 0, 0, 0), (52, 55, 27, 10, 7, 0, 886), (55, 57, 0, 0, 0, 20, 0), (57, 58, 2, 1, 0, 0, 0), (58, 59, 9, 0, 0, 0, 0), (59, 60, 31, 0, 0, 0, 0), (60, 61, 0, 0, 0, (-1), 0), (61, 64, 24, 68, 0, 0, 0), (64, 67, 0, 0, 0, (-1000000003), 1229), (67, 68, 43, 0, 0, 0, 0), (68, 69, 3, 0, 0, 0, 0), (69, 72, 38, 166, 0, 0, 1230), (72, 73, 3, 0, 0, 0, 0), (73, 74, 2, 1, 0, 0, 0), (74, 77, 38, 176, 1, 0, 1267), (77, 78, 3, 0, 0, 0, 0), (78, 81, 27, 10, 7, 0, 886), (81, 82, 2, 1, 0, 0, 0), (82, 84, 0, 0, 0, 100, 0), (84, 85, 2, 2, 0, 0, 0), (85, 86, 9, 0, 2, 0, 0), (86, 88, 0, 0, 0, 10, 0), (88, 89, 2, 3, 0, 0, 0), (89, 90, 9, 0, 2, 0, 0), (90, 91, 9, 0, 0, 0, 0), (91, 93, 2, 4, 0, 0, 0), (93, 94, 9, 0, 0, 0, 0), (94, 95, 32, 0, 0, 0, 0), (95, 96, 3, 0, 0, 0, 0), (96, 99, 37, 142, 0, 0, 1121), (99, 100, 43, 0, 0, 0, 0)]
/-- 179: FlagSignalsModel.weather(IZ)I -/
def fg_c179 : List fg_I := [(0, 1, 2, 1, 0, 0, 0), (1, 2, 13, 0, 0, 0, 0), (2, 3, 1, 0, 0, 0, 0), (3, 6, 1, 2, 0, 0, 1280), (6, 9, 39, 110, 3, 0, 996), (9, 12, 23, 15, 1, 0, 0), (12, 14, 0, 0, 0, (-1000000002), 999), (14, 15, 43, 0, 0, 0, 0), (15, 16, 2, 2, 0, 0, 0), (16, 19, 23, 23, 0, 0, 0), (19, 20, 0, 0, 0, 1, 0), (20, 23, 22, 24, 0, 0, 0), (23, 24, 0, 0, 0, 0, 0), (24, 25, 5, 3, 0, 0, 0), (25, 26, 3, 0, 0, 0, 0), (26, 29, 26, 10, 0, 0, 879), (29, 32, 23, 54, 0, 0, 0), (32, 33, 3, 0, 0, 0, 0), (33, 36, 27, 10, 7, 0, 886), (36, 38, 0, 0, 0, 58, 0), (38, 39, 31, 0, 0, 0, 0), (39, 40, 2, 1, 0, 0, 0), (40, 43, 24, 58, 1, 0, 0), (43, 44, 3, 0, 0, 0, 0), (44, 47, 27, 10, 7, 0, 886), (47, 49, 0, 0, 0, 59, 0), (49, 50, 31, 0, 0, 0, 0), (50, 51, 2, 3, 0, 0, 0), (51, 54, 24, 58, 1, 0, 0), (54, 57, 0, 0, 0, (-1000000003), 1229), (57, 58, 43, 0, 0, 0, 0), (58, 59, 3, 0, 0, 0, 0), (59, 62, 38, 166, 0, 0, 1230), (62, 63, 3, 0, 0, 0, 0), (63, 66, 27, 10, 7, 0, 886), (66, 68, 0, 0, 0, 58, 0), (68, 69, 2, 1, 0, 0, 0), (69, 70, 32, 0, 0, 0, 0), (70, 71, 3, 0, 0, 0, 0), (71, 74, 27, 10, 7, 0, 886), (74, 76, 0, 0, 0, 59, 0), (76, 77, 2, 3, 0, 0, 0), (77, 78, 32, 0, 0, 0, 0), (78, 79, 3, 0, 0, 0, 0), (79, 82, 37, 142, 0, 0, 1121), (82, 83, 43, 0, 0, 0, 0)]
/-- 180: FlagSignalsModel.draw(I)I -/
def fg_c180 : List fg_I := [(0, 1, 3, 0, 0, 0, 0), (1, 2, 3, 0, 0, 0, 0), (2, 5, 26, 10, 8, 0, 887), (5, 6, 13, 0, 0, 0, 0), (6, 9, 1, 1103515245, 0, 0, 1293), (9, 10, 15, 0, 1, 0, 0), (10, 13, 1, 12345, 0, 0, 1294), (13, 14, 15, 0, 0, 0, 0), (14, 17, 1, 2147483648, 0, 0, 1295), (17, 18, 17, 0, 0, 0, 0), (18, 19, 14, 0, 0, 0, 0), (19, 22, 28, 10, 8, 0, 887), (22, 23, 3, 0, 0, 0, 0), (23, 26, 26, 10, 8, 0, 887), (26, 29, 0, 0, 0, 65536, 1296), (29, 30, 10, 0, 0, 0, 0), (30, 31, 2, 1, 0, 0, 0), (31, 32, 11, 0, 0, 0, 0), (32, 33, 43, 0, 0, 0, 0)]
/-- 181: FlagSignalsModel.chanceHoist(I)V -/
def fg_c181 : List fg_I := [(0, 1, 3, 0, 0, 0, 0), (1, 2, 3, 0, 0, 0, 0), (2, 5, 26, 10, 4, 0, 883), (5, 8, 37, 180, 1, 0, 1289), (8, 9, 5, 2, 0, 0, 0), (9, 10, 3, 0, 0, 0, 0), (10, 11, 2, 1, 0, 0, 0), (11, 12, 2, 2, 0, 0, 0), (12, 15, 37, 167, 2, 0, 1225), (15, 18, 23, 25, 0, 0, 0), (18, 19, 3, 0, 0, 0, 0), (19, 20, 2, 1, 0, 0, 0), (20, 21, 2, 2, 0, 0, 0), (21, 24, 37, 168, 2, 0, 1234), (24, 25, 5, 3, 0, 0, 0), (25, 26, 45, 0, 0, 0, 0)]
/-- 182: FlagSignalsModel.chanceSew()V -/
def fg_c182 : List fg_I := [(0, 1, 3, 0, 0, 0, 0), (1, 2, 3, 0, 0, 0, 0), (2, 5, 26, 10, 2, 0, 881), (5, 8, 37, 180, 1, 0, 1289), (8, 9, 5, 1, 0, 0, 0), (9, 10, 3, 0, 0, 0, 0), (10, 11, 2, 1, 0, 0, 0), (11, 14, 37, 175, 1, 0, 1263), (14, 17, 23, 22, 0, 0, 0), (17, 18, 3, 0, 0, 0, 0), (18, 19, 2, 1, 0, 0, 0), (19, 22, 38, 176, 1, 0, 1267), (22, 23, 45, 0, 0, 0, 0)]
/-- 183: FlagSignalsModel.chance()V -/
def fg_c183 : List fg_I := [(0, 1, 3, 0, 0, 0, 0), (1, 2, 0, 0, 0, 5, 0), (2, 5, 37, 180, 1, 0, 1289), (5, 6, 5, 1, 0, 0, 0), (6, 7, 3, 0, 0, 0, 0), (7, 8, 3, 0, 0, 0, 0), (8, 11, 26, 10, 0, 0, 879), (11, 14, 37, 180, 1, 0, 1289), (14, 15, 5, 2, 0, 0, 0), (15, 16, 2, 1, 0, 0, 0), (16, 17, 0, 0, 0, 2, 0), (17, 20, 24, 35, 3, 0, 0), (20, 21, 3, 0, 0, 0, 0), (21, 24, 26, 10, 4, 0, 883), (24, 27, 23, 35, 5, 0, 0), (27, 28, 3, 0, 0, 0, 0), (28, 29, 2, 2, 0, 0, 0), (29, 32, 38, 181, 1, 0, 1297), (32, 35, 22, 110, 0, 0, 0), (35, 36, 2, 1, 0, 0, 0), (36, 37, 0, 0, 0, 2, 0), (37, 40, 24, 62, 1, 0, 0), (40, 41, 3, 0, 0, 0, 0), (41, 44, 27, 10, 7, 0, 886), (44, 46, 0, 0, 0, 43, 0), (46, 47, 2, 2, 0, 0, 0), (47, 48, 9, 0, 0, 0, 0), (48, 49, 31, 0, 0, 0, 0), (49, 50, 0, 0, 0, (-1), 0), (50, 53, 24, 62, 0, 0, 0), (53, 54, 3, 0, 0, 0, 0), (54, 55, 2, 2, 0, 0, 0), (55, 58, 37, 170, 1, 0, 1242), (58, 59, 5, 3, 0, 0, 0), (59, 62, 22, 110, 0, 0, 0), (62, 63, 2, 1, 0, 0, 0), (63, 64, 0, 0, 0, 3, 0), (64, 67, 24, 94, 1, 0, 0), (67, 68, 3, 0, 0, 0, 0), (68, 71, 27, 10, 7, 0, 886), (71, 73, 0, 0, 0, 58, 0), (73, 74, 3, 0, 0, 0, 0), (74, 75, 0, 0, 0, 3, 0), (75, 78, 37, 180, 1, 0, 1289), (78, 79, 32, 0, 0, 0, 0), (79, 80, 3, 0, 0, 0, 0), (80, 83, 27, 10, 7, 0, 886), (83, 85, 0, 0, 0, 59, 0), (85, 86, 3, 0, 0, 0, 0), (86, 87, 0, 0, 0, 2, 0), (87, 90, 37, 180, 1, 0, 1289), (90, 91, 32, 0, 0, 0, 0), (91, 94, 22, 110, 0, 0, 0), (94, 95, 2, 1, 0, 0, 0), (95, 96, 0, 0, 0, 4, 0), (96, 99, 24, 110, 1, 0, 0), (99, 100, 3, 0, 0, 0, 0), (100, 103, 26, 10, 2, 0, 881), (103, 106, 23, 110, 5, 0, 0), (106, 107, 3, 0, 0, 0, 0), (107, 110, 38, 182, 0, 0, 1301), (110, 111, 45, 0, 0, 0, 0)]
/-- 184: FlagSignalsModel.drift(I)I -/
def fg_c184 : List fg_I := [(0, 1, 3, 0, 0, 0, 0), (1, 2, 2, 1, 0, 0, 0), (2, 5, 37, 173, 1, 0, 1250), (5, 6, 5, 2, 0, 0, 0), (6, 7, 2, 2, 0, 0, 0), (7, 10, 23, 12, 0, 0, 0), (10, 11, 2, 2, 0, 0, 0), (11, 12, 43, 0, 0, 0, 0), (12, 13, 3, 0, 0, 0, 0), (13, 16, 38, 166, 0, 0, 1230), (16, 17, 0, 0, 0, 0, 0), (17, 18, 5, 3, 0, 0, 0), (18, 19, 2, 3, 0, 0, 0), (19, 20, 2, 1, 0, 0, 0), (20, 23, 24, 37, 3, 0, 0), (23, 24, 3, 0, 0, 0, 0), (24, 27, 38, 183, 0, 0, 1285), (27, 28, 3, 0, 0, 0, 0), (28, 31, 38, 172, 0, 0, 1255), (31, 34, 8, 3, 0, 1, 0), (34, 37, 22, 18, 0, 0, 0), (37, 38, 3, 0, 0, 0, 0), (38, 41, 37, 129, 0, 0, 1062), (41, 42, 43, 0, 0, 0, 0)]
/-- 185: FlagSignalsModel.undo()I -/
def fg_c185 : List fg_I := [(0, 1, 3, 0, 0, 0, 0), (1, 4, 26, 10, 30, 0, 909), (4, 7, 23, 11, 1, 0, 0), (7, 10, 0, 0, 0, (-1000000003), 1229), (10, 11, 43, 0, 0, 0, 0), (11, 12, 3, 0, 0, 0, 0), (12, 13, 19, 0, 0, 0, 0), (13, 16, 26, 10, 30, 0, 909), (16, 17, 0, 0, 0, 1, 0), (17, 18, 9, 0, 1, 0, 0), (18, 21, 28, 10, 30, 0, 909), (21, 22, 0, 0, 0, 0, 0), (22, 23, 5, 1, 0, 0, 0), (23, 24, 2, 1, 0, 0, 0), (24, 26, 0, 0, 0, 61, 0), (26, 29, 24, 55, 3, 0, 0), (29, 30, 3, 0, 0, 0, 0), (30, 33, 27, 10, 7, 0, 886), (33, 34, 2, 1, 0, 0, 0), (34, 35, 3, 0, 0, 0, 0), (35, 38, 27, 10, 31, 0, 910), (38, 40, 0, 0, 0, 61, 0), (40, 41, 3, 0, 0, 0, 0), (41, 44, 26, 10, 30, 0, 909), (44, 45, 9, 0, 2, 0, 0), (45, 46, 2, 1, 0, 0, 0), (46, 47, 9, 0, 0, 0, 0), (47, 48, 31, 0, 0, 0, 0), (48, 49, 32, 0, 0, 0, 0), (49, 52, 8, 1, 0, 1, 0), (52, 55, 22, 23, 0, 0, 0), (55, 56, 3, 0, 0, 0, 0), (56, 59, 26, 10, 30, 0, 909), (59, 60, 43, 0, 0, 0, 0)]
/-- 186: FlagSignalsModel.look(IIZ)I -/
def fg_c186 : List fg_I := [(0, 1, 3, 0, 0, 0, 0), (1, 2, 2, 1, 0, 0, 0), (2, 5, 37, 114, 1, 0, 1187), (5, 8, 23, 11, 1, 0, 0), (8, 10, 0, 0, 0, (-1000000001), 1057), (10, 11, 43, 0, 0, 0, 0), (11, 12, 2, 2, 0, 0, 0), (12, 13, 13, 0, 0, 0, 0), (13, 14, 1, 0, 0, 0, 0), (14, 17, 1, 2, 0, 0, 1280), (17, 20, 39, 110, 3, 0, 996), (20, 23, 23, 45, 0, 0, 0), (23, 24, 3, 0, 0, 0, 0), (24, 27, 27, 10, 7, 0, 886), (27, 28, 2, 1, 0, 0, 0), (28, 29, 31, 0, 0, 0, 0), (29, 30, 2, 2, 0, 0, 0), (30, 31, 2, 3, 0, 0, 0), (31, 34, 23, 38, 0, 0, 0), (34, 35, 0, 0, 0, 1, 0), (35, 38, 22, 39, 0, 0, 0), (38, 39, 0, 0, 0, 0, 0), (39, 42, 39, 137, 3, 0, 1133), (42, 45, 22, 47, 0, 0, 0), (45, 47, 0, 0, 0, (-1000000002), 999), (47, 48, 43, 0, 0, 0, 0)]
/-- 187: FlagSignalsModel.clear(II)I -/
def fg_c187 : List fg_I := [(0, 1, 2, 1, 0, 0, 0), (1, 2, 13, 0, 0, 0, 0), (2, 3, 1, 0, 0, 0, 0), (3, 6, 1, 60, 0, 0, 1254), (6, 9, 39, 110, 3, 0, 996), (9, 12, 23, 24, 0, 0, 0), (12, 13, 2, 2, 0, 0, 0), (13, 14, 13, 0, 0, 0, 0), (14, 15, 1, 0, 0, 0, 0), (15, 18, 1, 100, 0, 0, 1317), (18, 21, 39, 110, 3, 0, 996), (21, 24, 23, 27, 1, 0, 0), (24, 26, 0, 0, 0, (-1000000002), 999), (26, 27, 43, 0, 0, 0, 0), (27, 30, 1, 1000000000, 0, 0, 1318), (30, 31, 7, 3, 0, 0, 0), (31, 32, 0, 0, 0, 0, 0), (32, 34, 5, 5, 0, 0, 0), (34, 36, 2, 5, 0, 0, 0), (36, 37, 2, 1, 0, 0, 0), (37, 40, 24, 55, 3, 0, 0), (40, 41, 4, 3, 0, 0, 0), (41, 42, 2, 2, 0, 0, 0), (42, 43, 13, 0, 0, 0, 0), (43, 44, 15, 0, 1, 0, 0), (44, 47, 1, 100, 0, 0, 1317), (47, 48, 16, 0, 0, 0, 0), (48, 49, 7, 3, 0, 0, 0), (49, 52, 8, 5, 0, 1, 0), (52, 55, 22, 34, 0, 0, 0), (55, 56, 4, 3, 0, 0, 0), (56, 57, 14, 0, 0, 0, 0), (57, 58, 43, 0, 0, 0, 0)]
/-- 188: FlagSignalsModel.read(II)I -/
def fg_c188 : List fg_I := [(0, 1, 3, 0, 0, 0, 0), (1, 2, 2, 1, 0, 0, 0), (2, 5, 37, 115, 1, 0, 1195), (5, 8, 23, 16, 0, 0, 0), (8, 9, 3, 0, 0, 0, 0), (9, 10, 2, 2, 0, 0, 0), (10, 13, 37, 115, 1, 0, 1195), (13, 16, 23, 19, 1, 0, 0), (16, 18, 0, 0, 0, (-1000000001), 1057), (18, 19, 43, 0, 0, 0, 0), (19, 20, 3, 0, 0, 0, 0), (20, 23, 26, 10, 26, 0, 905), (23, 25, 0, 0, 0, 8, 0), (25, 28, 24, 31, 1, 0, 0), (28, 30, 0, 0, 0, (-1000000004), 1000), (30, 31, 43, 0, 0, 0, 0), (31, 32, 3, 0, 0, 0, 0), (32, 35, 27, 10, 27, 0, 906), (35, 36, 3, 0, 0, 0, 0), (36, 39, 26, 10, 26, 0, 905), (39, 40, 2, 1, 0, 0, 0), (40, 41, 32, 0, 0, 0, 0), (41, 42, 3, 0, 0, 0, 0), (42, 45, 27, 10, 28, 0, 907), (45, 46, 3, 0, 0, 0, 0), (46, 49, 26, 10, 26, 0, 905), (49, 50, 2, 2, 0, 0, 0), (50, 51, 32, 0, 0, 0, 0), (51, 52, 3, 0, 0, 0, 0), (52, 53, 19, 0, 0, 0, 0), (53, 56, 26, 10, 26, 0, 905), (56, 57, 0, 0, 0, 1, 0), (57, 58, 9, 0, 0, 0, 0), (58, 61, 28, 10, 26, 0, 905), (61, 62, 3, 0, 0, 0, 0), (62, 65, 26, 10, 26, 0, 905), (65, 66, 43, 0, 0, 0, 0)]
/-- 189: FlagSignalsModel.write(II)I -/
def fg_c189 : List fg_I := [(0, 1, 3, 0, 0, 0, 0), (1, 2, 2, 1, 0, 0, 0), (2, 5, 37, 113, 1, 0, 1213), (5, 8, 23, 21, 0, 0, 0), (8, 9, 2, 2, 0, 0, 0), (9, 10, 0, 0, 0, (-1), 0), (10, 13, 24, 24, 0, 0, 0), (13, 14, 3, 0, 0, 0, 0), (14, 15, 2, 2, 0, 0, 0), (15, 18, 37, 115, 1, 0, 1195), (18, 21, 23, 24, 1, 0, 0), (21, 23, 0, 0, 0, (-1000000001), 1057), (23, 24, 43, 0, 0, 0, 0), (24, 25, 3, 0, 0, 0, 0), (25, 28, 26, 10, 32, 0, 911), (28, 30, 0, 0, 0, 15, 0), (30, 33, 24, 36, 1, 0, 0), (33, 35, 0, 0, 0, (-1000000004), 1000), (35, 36, 43, 0, 0, 0, 0), (36, 37, 3, 0, 0, 0, 0), (37, 40, 27, 10, 33, 0, 912), (40, 41, 3, 0, 0, 0, 0), (41, 44, 26, 10, 32, 0, 911), (44, 45, 2, 1, 0, 0, 0), (45, 46, 32, 0, 0, 0, 0), (46, 47, 3, 0, 0, 0, 0), (47, 50, 27, 10, 34, 0, 913), (50, 51, 3, 0, 0, 0, 0), (51, 54, 26, 10, 32, 0, 911), (54, 55, 2, 2, 0, 0, 0), (55, 56, 32, 0, 0, 0, 0), (56, 57, 3, 0, 0, 0, 0), (57, 58, 19, 0, 0, 0, 0), (58, 61, 26, 10, 32, 0, 911), (61, 62, 0, 0, 0, 1, 0), (62, 63, 9, 0, 0, 0, 0), (63, 66, 28, 10, 32, 0, 911), (66, 67, 3, 0, 0, 0, 0), (67, 70, 26, 10, 32, 0, 911), (70, 71, 43, 0, 0, 0, 0)]
/-- 190: FlagSignalsModel.tear()I -/
def fg_c190 : List fg_I := [(0, 1, 3, 0, 0, 0, 0), (1, 4, 26, 10, 26, 0, 905), (4, 5, 3, 0, 0, 0, 0), (5, 8, 26, 10, 32, 0, 911), (8, 9, 9, 0, 0, 0, 0), (9, 10, 5, 1, 0, 0, 0), (10, 11, 3, 0, 0, 0, 0), (11, 12, 0, 0, 0, 0, 0), (12, 15, 28, 10, 26, 0, 905), (15, 16, 3, 0, 0, 0, 0), (16, 17, 0, 0, 0, 0, 0), (17, 20, 28, 10, 32, 0, 911), (20, 21, 2, 1, 0, 0, 0), (21, 22, 43, 0, 0, 0, 0)]
/-- 191: FlagSignalsModel.judge()I -/
def fg_c191 : List fg_I := [(0, 1, 0, 0, 0, 0, 0), (1, 2, 5, 1, 0, 0, 0), (2, 3, 2, 1, 0, 0, 0), (3, 4, 3, 0, 0, 0, 0), (4, 7, 26, 10, 32, 0, 911), (7, 10, 24, 41, 3, 0, 0), (10, 11, 3, 0, 0, 0, 0), (11, 14, 27, 10, 7, 0, 886), (14, 16, 0, 0, 0, 43, 0), (16, 17, 3, 0, 0, 0, 0), (17, 20, 27, 10, 33, 0, 912), (20, 21, 2, 1, 0, 0, 0), (21, 22, 31, 0, 0, 0, 0), (22, 23, 9, 0, 0, 0, 0), (23, 24, 31, 0, 0, 0, 0), (24, 25, 3, 0, 0, 0, 0), (25, 28, 27, 10, 34, 0, 913), (28, 29, 2, 1, 0, 0, 0), (29, 30, 31, 0, 0, 0, 0), (30, 33, 24, 35, 0, 0, 0), (33, 34, 2, 1, 0, 0, 0), (34, 35, 43, 0, 0, 0, 0), (35, 38, 8, 1, 0, 1, 0), (38, 41, 22, 2, 0, 0, 0), (41, 42, 0, 0, 0, (-1), 0), (42, 43, 43, 0, 0, 0, 0)]
/-- 192: FlagSignalsModel.seed(I)I -/
def fg_c192 : List fg_I := [(0, 1, 2, 1, 0, 0, 0), (1, 4, 23, 7, 3, 0, 0), (4, 6, 0, 0, 0, (-1000000002), 999), (6, 7, 43, 0, 0, 0, 0), (7, 8, 3, 0, 0, 0, 0), (8, 11, 26, 10, 8, 0, 887), (11, 12, 5, 2, 0, 0, 0), (12, 13, 3, 0, 0, 0, 0), (13, 14, 2, 1, 0, 0, 0), (14, 17, 28, 10, 8, 0, 887), (17, 18, 2, 2, 0, 0, 0), (18, 19, 43, 0, 0, 0, 0)]
/-- 193: FlagSignalsModel.keep(I)I -/
def fg_c193 : List fg_I := [(0, 1, 2, 1, 0, 0, 0), (1, 2, 13, 0, 0, 0, 0), (2, 3, 1, 0, 0, 0, 0), (3, 4, 1, 1, 0, 0, 0), (4, 7, 39, 110, 3, 0, 996), (7, 10, 23, 13, 1, 0, 0), (10, 12, 0, 0, 0, (-1000000001), 1057), (12, 13, 43, 0, 0, 0, 0), (13, 14, 0, 0, 0, 0, 0), (14, 15, 5, 2, 0, 0, 0), (15, 16, 2, 2, 0, 0, 0), (16, 18, 0, 0, 0, 61, 0), (18, 21, 24, 44, 3, 0, 0), (21, 22, 3, 0, 0, 0, 0), (22, 25, 27, 10, 35, 0, 914), (25, 27, 0, 0, 0, 62, 0), (27, 28, 2, 1, 0, 0, 0), (28, 29, 9, 0, 2, 0, 0), (29, 30, 2, 2, 0, 0, 0), (30, 31, 9, 0, 0, 0, 0), (31, 32, 3, 0, 0, 0, 0), (32, 35, 27, 10, 7, 0, 886), (35, 36, 2, 2, 0, 0, 0), (36, 37, 31, 0, 0, 0, 0), (37, 38, 32, 0, 0, 0, 0), (38, 41, 8, 2, 0, 1, 0), (41, 44, 22, 15, 0, 0, 0), (44, 45, 3, 0, 0, 0, 0), (45, 48, 27, 10, 35, 0, 914), (48, 50, 0, 0, 0, 62, 0), (50, 51, 2, 1, 0, 0, 0), (51, 52, 9, 0, 2, 0, 0), (52, 54, 0, 0, 0, 61, 0), (54, 55, 9, 0, 0, 0, 0), (55, 56, 3, 0, 0, 0, 0), (56, 59, 26, 10, 8, 0, 887), (59, 60, 32, 0, 0, 0, 0), (60, 61, 3, 0, 0, 0, 0), (61, 64, 27, 10, 36, 0, 915), (64, 65, 2, 1, 0, 0, 0), (65, 66, 0, 0, 0, 1, 0), (66, 67, 34, 0, 0, 0, 0), (67, 68, 3, 0, 0, 0, 0), (68, 69, 0, 0, 0, 0, 0), (69, 72, 28, 10, 30, 0, 909), (72, 73, 0, 0, 0, 1, 0), (73, 74, 43, 0, 0, 0, 0)]
/-- 194: FlagSignalsModel.goBack(I)I -/
def fg_c194 : List fg_I := [(0, 1, 2, 1, 0, 0, 0), (1, 2, 13, 0, 0, 0, 0), (2, 3, 1, 0, 0, 0, 0), (3, 4, 1, 1, 0, 0, 0), (4, 7, 39, 110, 3, 0, 996), (7, 10, 23, 13, 1, 0, 0), (10, 12, 0, 0, 0, (-1000000001), 1057), (12, 13, 43, 0, 0, 0, 0), (13, 14, 3, 0, 0, 0, 0), (14, 17, 27, 10, 36, 0, 915), (17, 18, 2, 1, 0, 0, 0), (18, 19, 33, 0, 0, 0, 0), (19, 22, 23, 26, 1, 0, 0), (22, 25, 0, 0, 0, (-1000000003), 1229), (25, 26, 43, 0, 0, 0, 0), (26, 27, 0, 0, 0, 0, 0), (27, 28, 5, 2, 0, 0, 0), (28, 29, 2, 2, 0, 0, 0), (29, 31, 0, 0, 0, 61, 0), (31, 34, 24, 57, 3, 0, 0), (34, 35, 3, 0, 0, 0, 0), (35, 38, 27, 10, 7, 0, 886), (38, 39, 2, 2, 0, 0, 0), (39, 40, 3, 0, 0, 0, 0), (40, 43, 27, 10, 35, 0, 914), (43, 45, 0, 0, 0, 62, 0), (45, 46, 2, 1, 0, 0, 0), (46, 47, 9, 0, 2, 0, 0), (47, 48, 2, 2, 0, 0, 0), (48, 49, 9, 0, 0, 0, 0), (49, 50, 31, 0, 0, 0, 0), (50, 51, 32, 0, 0, 0, 0), (51, 54, 8, 2, 0, 1, 0), (54, 57, 22, 28, 0, 0, 0), (57, 58, 3, 0, 0, 0, 0), (58, 59, 3, 0, 0, 0, 0), (59, 62, 27, 10, 35, 0, 914), (62, 64, 0, 0, 0, 62, 0), (64, 65, 2, 1, 0, 0, 0), (65, 66, 9, 0, 2, 0, 0), (66, 68, 0, 0, 0, 61, 0), (68, 69, 9, 0, 0, 0, 0), (69, 70, 31, 0, 0, 0, 0), (70, 73, 28, 10, 8, 0, 887), (73, 74, 3, 0, 0, 0, 0), (74, 75, 0, 0, 0, 0, 0), (75, 78, 28, 10, 30, 0, 909), (78, 79, 0, 0, 0, 1, 0), (79, 80, 43, 0, 0, 0, 0)]
/-- 195: java/lang/Integer.bitCount(I)I -/
def fg_c195 : List fg_I := [(0, 1, 2, 0, 0, 0, 0), (1, 2, 2, 0, 0, 0, 0), (2, 3, 0, 0, 0, 1, 0), (3, 4, 9, 0, 8, 0, 0), (4, 7, 0, 0, 0, 1431655765, 588), (7, 8, 9, 0, 3, 0, 0), (8, 9, 9, 0, 1, 0, 0), (9, 10, 5, 0, 0, 0, 0), (10, 11, 2, 0, 0, 0, 0), (11, 14, 0, 0, 0, 858993459, 589), (14, 15, 9, 0, 3, 0, 0), (15, 16, 2, 0, 0, 0, 0), (16, 17, 0, 0, 0, 2, 0), (17, 18, 9, 0, 8, 0, 0), (18, 21, 0, 0, 0, 858993459, 589), (21, 22, 9, 0, 3, 0, 0), (22, 23, 9, 0, 0, 0, 0), (23, 24, 5, 0, 0, 0, 0), (24, 25, 2, 0, 0, 0, 0), (25, 26, 2, 0, 0, 0, 0), (26, 27, 0, 0, 0, 4, 0), (27, 28, 9, 0, 8, 0, 0), (28, 29, 9, 0, 0, 0, 0), (29, 32, 0, 0, 0, 252645135, 590), (32, 33, 9, 0, 3, 0, 0), (33, 34, 5, 0, 0, 0, 0), (34, 35, 2, 0, 0, 0, 0), (35, 36, 2, 0, 0, 0, 0), (36, 38, 0, 0, 0, 8, 0), (38, 39, 9, 0, 8, 0, 0), (39, 40, 9, 0, 0, 0, 0), (40, 41, 5, 0, 0, 0, 0), (41, 42, 2, 0, 0, 0, 0), (42, 43, 2, 0, 0, 0, 0), (43, 45, 0, 0, 0, 16, 0), (45, 46, 9, 0, 8, 0, 0), (46, 47, 9, 0, 0, 0, 0), (47, 48, 5, 0, 0, 0, 0), (48, 49, 2, 0, 0, 0, 0), (49, 51, 0, 0, 0, 63, 0), (51, 52, 9, 0, 3, 0, 0), (52, 53, 43, 0, 0, 0, 0)]
/-- 196: java/lang/Math.max(II)I -/
def fg_c196 : List fg_I := [(0, 1, 2, 0, 0, 0, 0), (1, 2, 2, 1, 0, 0, 0), (2, 5, 24, 9, 2, 0, 0), (5, 6, 2, 0, 0, 0, 0), (6, 9, 22, 10, 0, 0, 0), (9, 10, 2, 1, 0, 0, 0), (10, 11, 43, 0, 0, 0, 0)]
/-- 197: java/lang/Math.min(II)I -/
def fg_c197 : List fg_I := [(0, 1, 2, 0, 0, 0, 0), (1, 2, 2, 1, 0, 0, 0), (2, 5, 24, 9, 4, 0, 0), (5, 6, 2, 0, 0, 0, 0), (6, 9, 22, 10, 0, 0, 0), (9, 10, 2, 1, 0, 0, 0), (10, 11, 43, 0, 0, 0, 0)]
def fg_cd : List (List fg_I) := [fg_c0, fg_c1, fg_c2, fg_c3, fg_c4, fg_c5, fg_c6, fg_c7, fg_c8, fg_c9, fg_c10, fg_c11, fg_c12, fg_c13, fg_c14, fg_c15, fg_c16, fg_c17, fg_c18, fg_c19, fg_c20, fg_c21, fg_c22, fg_c23, fg_c24, fg_c25, fg_c26, fg_c27, fg_c28, fg_c29, fg_c30, fg_c31, fg_c32, fg_c33, fg_c34, fg_c35, fg_c36, fg_c37, fg_c38, fg_c39, fg_c40, fg_c41, fg_c42, fg_c43, fg_c44, fg_c45, fg_c46, fg_c47, fg_c48, fg_c49, fg_c50, fg_c51, fg_c52, fg_c53, fg_c54, fg_c55, fg_c56, fg_c57, fg_c58, fg_c59, fg_c60, fg_c61, fg_c62, fg_c63, fg_c64, fg_c65, fg_c66, fg_c67, fg_c68, fg_c69, fg_c70, fg_c71, fg_c72, fg_c73, fg_c74, fg_c75, fg_c76, fg_c77, fg_c78, fg_c79, fg_c80, fg_c81, fg_c82, fg_c83, fg_c84, fg_c85, fg_c86, fg_c87, fg_c88, fg_c89, fg_c90, fg_c91, fg_c92, fg_c93, fg_c94, fg_c95, fg_c96, fg_c97, fg_c98, fg_c99, fg_c100, fg_c101, fg_c102, fg_c103, fg_c104, fg_c105, fg_c106, fg_c107, fg_c108, fg_c109, fg_c110, fg_c111, fg_c112, fg_c113, fg_c114, fg_c115, fg_c116, fg_c117, fg_c118, fg_c119, fg_c120, fg_c121, fg_c122, fg_c123, fg_c124, fg_c125, fg_c126, fg_c127, fg_c128, fg_c129, fg_c130, fg_c131, fg_c132, fg_c133, fg_c134, fg_c135, fg_c136, fg_c137, fg_c138, fg_c139, fg_c140, fg_c141, fg_c142, fg_c143, fg_c144, fg_c145, fg_c146, fg_c147, fg_c148, fg_c149, fg_c150, fg_c151, fg_c152, fg_c153, fg_c154, fg_c155, fg_c156, fg_c157, fg_c158, fg_c159, fg_c160, fg_c161, fg_c162, fg_c163, fg_c164, fg_c165, fg_c166, fg_c167, fg_c168, fg_c169, fg_c170, fg_c171, fg_c172, fg_c173, fg_c174, fg_c175, fg_c176, fg_c177, fg_c178, fg_c179, fg_c180, fg_c181, fg_c182, fg_c183, fg_c184, fg_c185, fg_c186, fg_c187, fg_c188, fg_c189, fg_c190, fg_c191, fg_c192, fg_c193, fg_c194, fg_c195, fg_c196, fg_c197]
abbrev fg_M : Type := MethodName × ByteArray × Nat × Option FieldType
def fg_mt : List fg_M := [(yX0_rig, cX0_rig, 3, none), (yX0_become, cX0_become, 2, none), (yX0_weatherNumber, cX0_weatherNumber, 1, (some .int)), (yX0_freeFlags, cX0_freeFlags, 4, (some .int)), (yX0_freeSubstitutes, cX0_freeSubstitutes, 2, (some .int)), (yX0_lookIn, cX0_lookIn, 4, (some .int)), (yX0_lineOf, cX0_lineOf, 3, (some .int)), (yX0_canBeSewn, cX0_canBeSewn, 2, (some .boolean)), (yX0_mend, cX0_mend, 2, none), (yX0_raise, cX0_raise, 7, (some .int)), (yX0_lower, cX0_lower, 5, (some .int)), (yX0_emptyLine, cX0_emptyLine, 3, none), (yX0_passDay, cX0_passDay, 3, none), (yX2_open, cX2_open, 3, none), (yX2_take, cX2_take, 7, (some .boolean)), (yX2_pieceFor, cX2_pieceFor, 6, (some .int)), (yX2_emptyRow, cX2_emptyRow, 2, none), (yX3_addRead, cX3_addRead, 3, (some .boolean)), (yX3_addEntry, cX3_addEntry, 3, (some .boolean)), (yX3_wipe, cX3_wipe, 1, none), (yX3_fits, cX3_fits, 4, (some .boolean)), (yX3_firstFalse, cX3_firstFalse, 4, (some .int)), (yX4_remember, cX4_remember, 2, none), (yX4_giveBack, cX4_giveBack, 2, none), (yX4_forget, cX4_forget, 1, none), (yX5_largestGroup, cX5_largestGroup, 3, (some .int)), (yX5_plan, cX5_plan, 3, none), (yX5_fewestOf, cX5_fewestOf, 6, (some .int)), (yX5_firstGroup, cX5_firstGroup, 3, (some .int)), (yX6_strike, cX6_strike, 1, none), (yX6_stands, cX6_stands, 1, (some .boolean)), (yX6_hasLine, cX6_hasLine, 2, (some .boolean)), (yX6_hasFlag, cX6_hasFlag, 2, (some .boolean)), (yX6_hasSignal, cX6_hasSignal, 2, (some .boolean)), (yX6_hasAll, cX6_hasAll, 2, (some .boolean)), (yX6_allSignals, cX6_allSignals, 1, (some .int)), (yX6_allFlags, cX6_allFlags, 1, (some .int)), (yX6_allSubstitutes, cX6_allSubstitutes, 1, (some .int)), (yX6_addFlag, cX6_addFlag, 4, none), (yX6_startSignal, cX6_startSignal, 2, none), (yX6_addToSignal, cX6_addToSignal, 2, none), (yX6_endSignal, cX6_endSignal, 1, none), (yX6_flagAt, cX6_flagAt, 4, (some .int)), (yX6_signalsWith, cX6_signalsWith, 5, (some .int)), (yX7_append, cX7_append, 2, (some .boolean)), (yX7_parseInto, cX7_parseInto, 3, (some .int)), (yX7_nextLetter, cX7_nextLetter, 1, (some .int)), (yX7_blame, cX7_blame, 3, none), (yX7_parseLines, cX7_parseLines, 4, none), (yX7_parseClause, cX7_parseClause, 3, none), (yX7_parseFlag, cX7_parseFlag, 5, none), (yX7_parseSignal, cX7_parseSignal, 3, none), (yX7_pass, cX7_pass, 2, none), (yX7_parseNumber, cX7_parseNumber, 5, (some .int)), (yX8_raiseAll, cX8_raiseAll, 6, none), (yX8_see, cX8_see, 5, none), (yX8_sign, cX8_sign, 6, none), (yX8_lookOfPiece, cX8_lookOfPiece, 2, (some .int)), (yX8_likeOf, cX8_likeOf, 5, (some .int)), (yX8_clearOnes, cX8_clearOnes, 5, (some .int)), (yX9_feed, cX9_feed, 2, (some .int)), (yX9_ship, cX9_ship, 4, (some .int)), (yX9_fault, cX9_fault, 1, (some .int)), (yX9_told, cX9_told, 2, (some .int)), (yX9_flag, cX9_flag, 3, (some .int)), (yX9_signal, cX9_signal, 3, (some .int)), (yX9_line, cX9_line, 3, (some .int)), (yX9_needs, cX9_needs, 3, (some .int)), (yX9_hoist, cX9_hoist, 3, (some .int)), (yX9_haul, cX9_haul, 2, (some .int)), (yX9_day, cX9_day, 4, (some .int)), (yX9_sew, cX9_sew, 3, (some .int)), (yX9_anew, cX9_anew, 5, (some .int)), (yX9_weather, cX9_weather, 4, (some .int)), (yX9_drift, cX9_drift, 4, (some .int)), (yX9_undo, cX9_undo, 1, (some .int)), (yX9_look, cX9_look, 4, (some .int)), (yX9_together, cX9_together, 2, (some .int)), (yX9_turns, cX9_turns, 3, (some .int)), (yX9_clear, cX9_clear, 6, (some .int)), (yX9_read, cX9_read, 3, (some .int)), (yX9_write, cX9_write, 3, (some .int)), (yX9_tear, cX9_tear, 2, (some .int)), (yX9_judge, cX9_judge, 1, (some .int)), (yX9_seed, cX9_seed, 3, (some .int)), (yX9_keep, cX9_keep, 2, (some .int)), (yX9_goBack, cX9_goBack, 2, (some .int)), (yX9_has, cX9_has, 2, (some .boolean)), (yX9_canHoist, cX9_canHoist, 3, (some .boolean)), (yX9_refusedDays, cX9_refusedDays, 2, (some .int)), (yX9_draw, cX9_draw, 2, (some .int)), (yX9_actByDraws, cX9_actByDraws, 3, none), (yX9_hoistDrawn, cX9_hoistDrawn, 3, none), (yX9_sewDrawn, cX9_sewDrawn, 2, none), (yX9_readySignals, cX9_readySignals, 3, (some .int)), (yX9_watchIn, cX9_watchIn, 2, none), (yX9_clearNow, cX9_clearNow, 1, (some .int)), (yX9_clearest, cX9_clearest, 5, (some .int)), (yX9_flyTogether, cX9_flyTogether, 3, (some .boolean)), (yX9_groupWithin, cX9_groupWithin, 3, none), (yX9_mostTogether, cX9_mostTogether, 1, (some .int)), (yX9_neededFlag, cX9_neededFlag, 5, (some .int)), (yX9_betterFlag, cX9_betterFlag, 7, (some .int)), (yX9_countClearWith, cX9_countClearWith, 4, (some .int)), (yX9_possibleWeathers, cX9_possibleWeathers, 3, (some .int)), (yX9_askedSignal, cX9_askedSignal, 6, (some .int)), (yX9_fillLikes, cX9_fillLikes, 3, none), (yX9_greatestPart, cX9_greatestPart, 7, (some .int)), (yX9_seenPattern, cX9_seenPattern, 8, (some .int)), (yX9_seenColour, cX9_seenColour, 2, (some .int)), (yX10_in, cX10_in, 6, (some .boolean)), (yX10_has, cX10_has, 2, (some .boolean)), (yX10_bits, cX10_bits, 3, (some .int)), (yX10_isLine, cX10_isLine, 2, (some .boolean)), (yX10_isFlag, cX10_isFlag, 2, (some .boolean)), (yX10_isSignal, cX10_isSignal, 2, (some .boolean)), (yX10_feed, cX10_feed, 2, (some .int)), (yX10_here, cX10_here, 1, (some .int)), (yX10_fails, cX10_fails, 3, (some .int)), (yX10_takeNumber, cX10_takeNumber, 5, (some .int)), (yX10_takeLines, cX10_takeLines, 2, (some .int)), (yX10_takeFlag, cX10_takeFlag, 4, (some .int)), (yX10_takeSignal, cX10_takeSignal, 3, (some .int)), (yX10_takeClause, cX10_takeClause, 5, (some .int)), (yX10_copyRow, cX10_copyRow, 4, none), (yX10_beginAll, cX10_beginAll, 2, none), (yX10_ship, cX10_ship, 2, (some .int)), (yX10_fault, cX10_fault, 1, (some .int)), (yX10_freeFlags, cX10_freeFlags, 3, (some .int)), (yX10_tornFlags, cX10_tornFlags, 3, (some .int)), (yX10_freeSubs, cX10_freeSubs, 3, (some .int)), (yX10_allSubs, cX10_allSubs, 3, (some .int)), (yX10_isUsed, cX10_isUsed, 5, (some .boolean)), (yX10_itemFor, cX10_itemFor, 7, (some .int)), (yX10_goesUp, cX10_goesUp, 5, (some .boolean)), (yX10_canGoUp, cX10_canGoUp, 3, (some .int)), (yX10_seenColour, cX10_seenColour, 2, (some .int)), (yX10_lookOf, cX10_lookOf, 7, (some .int)), (yX10_layLooks, cX10_layLooks, 6, none), (yX10_isLike, cX10_isLike, 5, (some .boolean)), (yX10_likeOf, cX10_likeOf, 4, (some .int)), (yX10_clearIn, cX10_clearIn, 5, (some .int)), (yX10_clearNow, cX10_clearNow, 1, (some .int)), (yX10_clearest, cX10_clearest, 5, (some .int)), (yX10_isToldIn, cX10_isToldIn, 5, (some .boolean)), (yX10_needed, cX10_needed, 6, (some .int)), (yX10_better, cX10_better, 8, (some .int)), (yX10_rowFlags, cX10_rowFlags, 3, (some .int)), (yX10_rowSubs, cX10_rowSubs, 3, (some .int)), (yX10_fly, cX10_fly, 6, (some .boolean)), (yX10_mostTogether, cX10_mostTogether, 3, (some .int)), (yX10_areSignals, cX10_areSignals, 2, (some .boolean)), (yX10_together, cX10_together, 2, (some .int)), (yX10_findTurns, cX10_findTurns, 6, none), (yX10_turns, cX10_turns, 5, (some .int)), (yX10_weathers, cX10_weathers, 5, (some .int)), (yX10_layLikes, cX10_layLikes, 3, none), (yX10_greatestPart, cX10_greatestPart, 7, (some .int)), (yX10_askNext, cX10_askNext, 6, (some .int)), (yX10_told, cX10_told, 2, (some .int)), (yX10_flag, cX10_flag, 3, (some .int)), (yX10_lineOf, cX10_lineOf, 4, (some .int)), (yX10_likeNow, cX10_likeNow, 2, (some .int)), (yX10_signal, cX10_signal, 3, (some .int)), (yX10_line, cX10_line, 3, (some .int)), (yX10_needs, cX10_needs, 3, (some .int)), (yX10_remember, cX10_remember, 2, none), (yX10_canHoist, cX10_canHoist, 3, (some .boolean)), (yX10_hoistRow, cX10_hoistRow, 5, (some .int)), (yX10_hoist, cX10_hoist, 3, (some .int)), (yX10_haulNow, cX10_haulNow, 4, (some .int)), (yX10_haul, cX10_haul, 2, (some .int)), (yX10_pass, cX10_pass, 3, none), (yX10_daysRefused, cX10_daysRefused, 2, (some .int)), (yX10_day, cX10_day, 4, (some .int)), (yX10_canSew, cX10_canSew, 2, (some .boolean)), (yX10_sewNow, cX10_sewNow, 2, none), (yX10_sew, cX10_sew, 3, (some .int)), (yX10_anew, cX10_anew, 5, (some .int)), (yX10_weather, cX10_weather, 4, (some .int)), (yX10_draw, cX10_draw, 2, (some .int)), (yX10_chanceHoist, cX10_chanceHoist, 4, none), (yX10_chanceSew, cX10_chanceSew, 2, none), (yX10_chance, cX10_chance, 4, none), (yX10_drift, cX10_drift, 4, (some .int)), (yX10_undo, cX10_undo, 2, (some .int)), (yX10_look, cX10_look, 4, (some .int)), (yX10_clear, cX10_clear, 6, (some .int)), (yX10_read, cX10_read, 3, (some .int)), (yX10_write, cX10_write, 3, (some .int)), (yX10_tear, cX10_tear, 2, (some .int)), (yX10_judge, cX10_judge, 2, (some .int)), (yX10_seed, cX10_seed, 3, (some .int)), (yX10_keep, cX10_keep, 3, (some .int)), (yX10_goBack, cX10_goBack, 3, (some .int)), (yJ6_bitCount_0f7a4, cJ6_bitCount_0f7a4, 1, (some .int)), (yJ9_max_7cf53, cJ9_max_7cf53, 2, (some .int)), (yJ9_min_7cf53, cJ9_min_7cf53, 2, (some .int))]
def fg_swt : List (List Nat × Nat) := [([104, 112, 120, 128, 136, 144, 152, 160, 168, 180, 188, 193, 198, 203, 208, 213, 218, 226, 234, 239, 244, 252], 260), ([56, 66, 76, 86, 96, 106, 126], 149), ([48, 48, 56, 92], 119), ([104, 109, 114, 119, 124, 129, 137, 145, 153, 158, 163, 168, 173, 178, 183, 188, 193, 198, 206, 211, 216, 221], 226), ([56, 66, 79, 89, 99, 109, 119], 143)]
def fg_nest : List Cond := [.methodLinkNest "FlagSignals$Locker" 46 yX9_has "FlagSignals", .methodLinkNest "FlagSignals$Deck" 75 yX9_seenPattern "FlagSignals", .methodLinkNest "FlagSignals$Watch" 60 yX9_has "FlagSignals", .methodLinkNest "FlagSignals$Log" 37 yX9_has "FlagSignals", .methodLinkNest "FlagSignals$Deck" 79 yX9_has "FlagSignals"]
end
section
/-! THE ABSTRACT MACHINE: the class and the reference over one pool of 209 cells whose places are numbers ('handles'); no method makes a cell -/
/-- a state: the handle of the ship, of the draft, the int fields by handle and slot, the rows by handle and place -/
abbrev fg_St : Type := Nat × Nat × (Nat → Nat → Int32) × (Nat → Nat → Int32)
abbrev fg_F (σ : fg_St) (h k : Nat) : Int32 := σ.2.2.1 h k
abbrev fg_R (σ : fg_St) (h k : Nat) : Int32 := σ.2.2.2 h k
def fg_up (f : Nat → Nat → Int32) (h k : Nat) (x : Int32) : Nat → Nat → Int32 := fun a b => if a = h ∧ b = k then x else f a b
abbrev fg_sF (σ : fg_St) (h k : Nat) (x : Int32) : fg_St := (σ.1, σ.2.1, fg_up σ.2.2.1 h k x, σ.2.2.2)
abbrev fg_sR (σ : fg_St) (h k : Nat) (x : Int32) : fg_St := (σ.1, σ.2.1, σ.2.2.1, fg_up σ.2.2.2 h k x)
/-- kinds of the handles: 0 to 10 the classes as vwCl has them, 11 int[], 12 boolean[], 13 Deck[], 14 Image[] -/
def fg_kl : List Nat := [9, 7, 11, 6, 11, 11, 11, 11, 11, 6, 11, 11, 11, 11, 11, 0, 11, 11, 11, 11, 11, 11, 11, 4, 13, 14, 3, 11, 11, 11, 11, 2, 11, 8, 11, 11, 11, 5, 12, 11, 11, 1, 0, 11, 11, 11, 11, 11, 11, 11, 1, 0, 11, 11, 11, 11, 11, 11, 11, 0, 11, 11, 11, 11, 11, 11, 11, 0, 11, 11, 11, 11, 11, 11, 11, 0, 11, 11, 11, 11, 11, 11, 11, 0, 11, 11, 11, 11, 11, 11, 11, 0, 11, 11, 11, 11, 11, 11, 11, 0, 11, 11, 11, 11, 11, 11, 11, 0, 11, 11, 11, 11, 11, 11, 11, 0, 11, 11, 11, 11, 11, 11, 11, 0, 11, 11, 11, 11, 11, 11, 11, 0, 11, 11, 11, 11, 11, 11, 11, 0, 11, 11, 11, 11, 11, 11, 11, 0, 11, 11, 11, 11, 11, 11, 11, 0, 11, 11, 11, 11, 11, 11, 11, 0, 11, 11, 11, 11, 11, 11, 11, 0, 11, 11, 11, 11, 11, 11, 11, 0, 11, 11, 11, 11, 11, 11, 11, 10, 11, 11, 11, 11, 11, 11, 11, 11, 11, 12, 11, 12, 11, 11, 11, 11, 11, 11, 11, 11, 12]
def fg_dl : List Nat := [0, 10, 10, 10, 10, 10, 3, 12]
/-- lengths of the rows -/
def fg_ll : List Nat := [0, 0, 240, 0, 10, 10, 10, 10, 40, 0, 10, 10, 10, 10, 40] ++ fg_dl ++ [0, 16, 2, 0, 8, 8, 15, 15, 0, 4, 0, 40, 10, 10, 0, 1024, 1024, 60, 0] ++ fg_dl ++ [0] ++ fg_dl ++ (fg_dl ++ fg_dl ++ fg_dl ++ fg_dl ++ fg_dl ++ fg_dl ++ fg_dl ++ fg_dl) ++ (fg_dl ++ fg_dl ++ fg_dl ++ fg_dl ++ fg_dl ++ fg_dl ++ fg_dl ++ fg_dl) ++ [0, 10, 10, 40, 61, 240, 10, 10, 40, 4, 10, 40, 1024, 1024, 8, 8, 60, 976, 15, 15, 124, 2]
def fg_kd (h : Nat) : Nat := fg_kl.getD h 99
def fg_ln (h : Nat) : Nat := fg_ll.getD h 0
/-- where the reference's rows lie, by the slot of their field -/
def fg_mp : List Nat := [0, 0, 0, 188, 0, 189, 190, 191, 0, 192, 0, 0, 0, 0, 0, 0, 0, 193, 0, 194, 195, 196, 197, 198, 199, 200, 0, 201, 202, 203, 0, 204, 0, 205, 206, 207, 208]
/-- what a field of a reference's type holds -/
def fg_pt (σ : fg_St) (h k : Nat) : Nat := match fg_kd h with
  | 0 => h + 1 + k
  | 1 => h + 1
  | 2 => h + 1
  | 3 => h + 1 + k
  | 4 => h + 1
  | 5 => h + 1 + k
  | 6 => h + k - 3
  | 7 => h + 1
  | 8 => h + 1 + k
  | 9 => (match k with
    | 0 => 1
    | 1 => σ.1
    | 2 => σ.2.1
    | 3 => 15
    | 4 => 23
    | 5 => 25
    | 6 => 26
    | 7 => 31
    | 8 => 33
    | 9 => 37
    | _ => 40)
  | _ => fg_mp.getD k 0
def fg_ra (h j : Nat) : Nat := if h = 24 then 59 + 8 * j else 41 + 9 * j
/-- is a slot of a class a reference's -/
def fg_rf (c k : Nat) : Bool := match c with
  | 0 => Nat.blt k 7
  | 1 => Nat.beq k 0
  | 2 => Nat.beq k 2
  | 3 => Nat.blt k 4
  | 4 => Nat.beq k 0
  | 5 => true
  | 6 => Nat.ble 4 k
  | 7 => Nat.beq k 0
  | 8 => Nat.blt k 3
  | 9 => Nat.blt k 11
  | _ => Nat.blt 0 (fg_mp.getD k 0)
def fg_nf : List Nat := [12, 3, 3, 6, 3, 2, 9, 5, 4, 13, 37]
def fg_bin (b : Nat) (x y : Int32) : Int32 := match b with
  | 0 => x + y
  | 1 => x - y
  | 2 => x * y
  | 3 => x &&& y
  | 4 => x ||| y
  | 5 => x ^^^ y
  | 6 => x <<< (y &&& 31)
  | 7 => x >>> (y &&& 31)
  | _ => (x.toUInt32 >>> (y.toUInt32 &&& Int32.toUInt32 31)).toInt32
def fg_lbin (b : Nat) (x y : Int64) : Int64 := match b with
  | 0 => x + y
  | 1 => x * y
  | _ => x &&& y
def fg_cnd (b : Nat) (x y : Int32) : Prop := match b with
  | 0 => x = y
  | 1 => ¬ x = y
  | 2 => x < y
  | 3 => y ≤ x
  | 4 => y < x
  | _ => x ≤ y
def fg_look : List fg_I → Nat → Option (Nat × Nat × Nat × Nat × Int32 × Nat)
  | [], _ => none
  | (q, r) :: t, pc => match Nat.beq q pc with
    | true => some r
    | false => fg_look t pc
abbrev fg_P : Type := Nat → Nat → Nat → List (Option Value) → List Value → fg_St → (Int32 → fg_St → Prop) → Prop
/-- is the local ahead of this one a long -/
def fg_lgb (L : List (Option Value)) (a : Nat) : Bool := match a with
  | 0 => false
  | k + 1 => match L[k]? with
    | some (some (.long _)) => true
    | _ => false
def fg_st1 (L : List (Option Value)) (a : Nat) (P : Prop) : Prop := match Nat.blt a L.length && !(fg_lgb L a) with
  | true => P
  | false => False
def fg_st2 (L : List (Option Value)) (a : Nat) (P : Prop) : Prop := match Nat.blt (a + 1) L.length && !(fg_lgb L a) with
  | true => P
  | false => False
def fg_sw (x : Int32) (T : Nat → Prop) (df : Nat) : Nat → List Nat → Prop
  | _, [] => T df
  | k, t :: ts => (x = Int32.ofNat k → T t) ∧ (¬ x = Int32.ofNat k → fg_sw x T df (k + 1) ts)
def fg_pop : Nat → List Value → List Value → Option (List Value × List Value)
  | 0, acc, st => some (acc, st)
  | n + 1, acc, v :: st => fg_pop n (v :: acc) st
  | _ + 1, _, [] => none
def fg_fl : List Value → List (Option Value)
  | [] => []
  | v :: r => match Nat.beq v.category 2 with
    | true => some v :: none :: fg_fl r
    | false => some v :: fg_fl r
def fg_ent (ml : Nat) (vs : List Value) : List (Option Value) := fg_fl vs ++ List.replicate (ml - (fg_fl vs).length) none
def fg_cat (st : List Value) : Nat := (st.map fun v => v.category).sum
def fg_ml (i : Nat) : Nat := match fg_mt[i]? with
  | some m => m.2.2.1
  | none => 0
/-- a call: what is behind it, by the answer -/
def fg_call (S : fg_P) (d a : Nat) (As : List Value) (r : List Value) (σ : fg_St) (K : Nat → Int32 → fg_St → Prop) : Prop := match Nat.ble (fg_cat r) 8 with
  | true => (match d with
    | 0 => False
    | d' + 1 => ∃ P : Int32 → fg_St → Prop, S d' a 0 (fg_ent (fg_ml a) As) [] σ P ∧ ∀ (x : Int32) (u : fg_St), P x u → K (d' + 1) x u)
  | false => False
def fg_op (S : fg_P) (d i np a b : Nat) (v : Int32) (L : List (Option Value)) (st : List Value) (σ : fg_St) (Q : Int32 → fg_St → Prop) (op : Nat) : Prop := match op with
  | 0 => S d i np L (.int v :: st) σ Q
  | 1 => S d i np L (.long (Int64.ofNat a) :: st) σ Q
  | 2 => (match L[a]? with
    | some (some (.int x)) => S d i np L (.int x :: st) σ Q
    | _ => False)
  | 3 => (match L[a]? with
    | some (some (.ref x)) => S d i np L (.ref x :: st) σ Q
    | _ => False)
  | 4 => (match L[a]? with
    | some (some (.long x)) => S d i np L (.long x :: st) σ Q
    | _ => False)
  | 5 => (match st with
    | .int x :: r => fg_st1 L a (S d i np (L.set a (some (.int x))) r σ Q)
    | _ => False)
  | 6 => (match st with
    | .ref x :: r => fg_st1 L a (S d i np (L.set a (some (.ref x))) r σ Q)
    | _ => False)
  | 7 => (match st with
    | .long x :: r => fg_st2 L a (S d i np ((L.set a (some (.long x))).set (a + 1) none) r σ Q)
    | _ => False)
  | 8 => (match L[a]? with
    | some (some (.int x)) => fg_st1 L a (S d i np (L.set a (some (.int (x + v)))) st σ Q)
    | _ => False)
  | 9 => (match st with
    | .int y :: .int x :: r => S d i np L (.int (fg_bin b x y) :: r) σ Q
    | _ => False)
  | 10 => (match st with
    | .int y :: .int x :: r => ¬ y = 0 ∧ S d i np L (.int (x / y) :: r) σ Q
    | _ => False)
  | 11 => (match st with
    | .int y :: .int x :: r => ¬ y = 0 ∧ S d i np L (.int (x - x / y * y) :: r) σ Q
    | _ => False)
  | 12 => (match st with
    | .int x :: r => S d i np L (.int (-x) :: r) σ Q
    | _ => False)
  | 13 => (match st with
    | .int x :: r => S d i np L (.long x.toInt64 :: r) σ Q
    | _ => False)
  | 14 => (match st with
    | .long x :: r => S d i np L (.int x.toInt32 :: r) σ Q
    | _ => False)
  | 15 => (match st with
    | .long y :: .long x :: r => S d i np L (.long (fg_lbin b x y) :: r) σ Q
    | _ => False)
  | 16 => (match st with
    | .long y :: .long x :: r => ¬ y = 0 ∧ S d i np L (.long (x / y) :: r) σ Q
    | _ => False)
  | 17 => (match st with
    | .long y :: .long x :: r => ¬ y = 0 ∧ S d i np L (.long (x - x / y * y) :: r) σ Q
    | _ => False)
  | 18 => (match st with
    | .long y :: .long x :: r => S d i np L (.int (lg_cmp x y) :: r) σ Q
    | _ => False)
  | 19 => (match st with
    | .int x :: r => S d i np L (.int x :: .int x :: r) σ Q
    | .ref x :: r => S d i np L (.ref x :: .ref x :: r) σ Q
    | _ => False)
  | 20 => (match st with
    | .int _ :: r => S d i np L r σ Q
    | .ref _ :: r => S d i np L r σ Q
    | _ => False)
  | 21 => (match st with
    | .int x :: .ref y :: r => S d i np L (.int x :: .ref y :: .int x :: .ref y :: r) σ Q
    | _ => False)
  | 22 => S d i a L st σ Q
  | 23 => (match st with
    | .int x :: r => (fg_cnd b x 0 → S d i a L r σ Q) ∧ (¬ fg_cnd b x 0 → S d i np L r σ Q)
    | _ => False)
  | 24 => (match st with
    | .int y :: .int x :: r => (fg_cnd b x y → S d i a L r σ Q) ∧ (¬ fg_cnd b x y → S d i np L r σ Q)
    | _ => False)
  | 25 => (match st with
    | .int x :: r => (match fg_swt[a]? with
      | some q => fg_sw x (fun t => S d i t L r σ Q) q.2 0 q.1
      | none => False)
    | _ => False)
  | 26 => (match st with
    | .ref h :: r => fg_kd h = a ∧ S d i np L (.int (fg_F σ h b) :: r) σ Q
    | _ => False)
  | 27 => (match st with
    | .ref h :: r => fg_kd h = a ∧ S d i np L (.ref (fg_pt σ h b) :: r) σ Q
    | _ => False)
  | 28 => (match st with
    | .int x :: .ref h :: r => fg_kd h = a ∧ S d i np L r (fg_sF σ h b x) Q
    | _ => False)
  | 29 => (match st with
    | .int x :: .ref h :: r => fg_kd h = a ∧ (x = 0 ∨ x = 1) ∧ S d i np L r (fg_sF σ h b x) Q
    | _ => False)
  | 30 => (match st with
    | .ref y :: .ref h :: r => h = 0 ∧ (match b with
      | 1 => S d i np L r (y, σ.2.1, σ.2.2) Q
      | 2 => S d i np L r (σ.1, y, σ.2.2) Q
      | _ => False)
    | _ => False)
  | 31 => (match st with
    | .int j :: .ref h :: r => fg_kd h = 11 ∧ vp_in j (fg_ln h) ∧ S d i np L (.int (fg_R σ h j.toNatClampNeg) :: r) σ Q
    | _ => False)
  | 32 => (match st with
    | .int x :: .int j :: .ref h :: r => fg_kd h = 11 ∧ vp_in j (fg_ln h) ∧ S d i np L r (fg_sR σ h j.toNatClampNeg x) Q
    | _ => False)
  | 33 => (match st with
    | .int j :: .ref h :: r => fg_kd h = 12 ∧ vp_in j (fg_ln h) ∧ S d i np L (.int (fg_R σ h j.toNatClampNeg) :: r) σ Q
    | _ => False)
  | 34 => (match st with
    | .int x :: .int j :: .ref h :: r => fg_kd h = 12 ∧ vp_in j (fg_ln h) ∧ (x = 0 ∨ x = 1) ∧ S d i np L r (fg_sR σ h j.toNatClampNeg x) Q
    | _ => False)
  | 35 => (match st with
    | .int j :: .ref h :: r => (fg_kd h = 13 ∨ fg_kd h = 14) ∧ vp_in j (fg_ln h) ∧ S d i np L (.ref (fg_ra h j.toNatClampNeg) :: r) σ Q
    | _ => False)
  | 36 => (match st with
    | .ref h :: r => (11 ≤ fg_kd h ∧ fg_kd h ≤ 14) ∧ S d i np L (.int (Int32.ofNat (fg_ln h)) :: r) σ Q
    | _ => False)
  | 37 => (match fg_pop b [] st with
    | some (As, .ref h :: r) => (fg_mt[a]?.map fun m => m.1.cls) = (vwCl[fg_kd h]?.map fun q => q.1) ∧ fg_call S d a (.ref h :: As) r σ (fun d x u => S d i np L (.int x :: r) u Q)
    | _ => False)
  | 38 => (match fg_pop b [] st with
    | some (As, .ref h :: r) => (fg_mt[a]?.map fun m => m.1.cls) = (vwCl[fg_kd h]?.map fun q => q.1) ∧ fg_call S d a (.ref h :: As) r σ (fun d _ u => S d i np L r u Q)
    | _ => False)
  | 39 => (match fg_pop b [] st with
    | some (As, r) => fg_call S d a As r σ (fun d x u => S d i np L (.int x :: r) u Q)
    | _ => False)
  | 40 => (match fg_pop b [] st with
    | some (As, r) => fg_call S d a As r σ (fun d _ u => S d i np L r u Q)
    | _ => False)
  | 41 => (match fg_pop b [] st with
    | some (As, r) => fg_call S d a As r σ (fun d x u => S d i np L (.int x :: r) u Q)
    | _ => False)
  | 42 => (match st with
    | .int n :: .int dp :: .ref t :: .int sp :: .ref h :: [] => (match d with
      | 0 => False
      | d' + 1 => fg_kd h = 11 ∧ fg_kd t = 11 ∧ (¬ sp < 0 ∧ ¬ dp < 0 ∧ ¬ n < 0) ∧ sp.toNatClampNeg + n.toNatClampNeg ≤ fg_ln h ∧ dp.toNatClampNeg + n.toNatClampNeg ≤ fg_ln t ∧ S (d' + 1) i np L [] (σ.1, σ.2.1, σ.2.2.1, va_up σ.2.2.2 t (va_cpy (σ.2.2.2 h) (σ.2.2.2 t) sp.toNatClampNeg dp.toNatClampNeg n.toNatClampNeg)) Q)
    | _ => False)
  | 43 => (match st with
    | [.int x] => Q x σ
    | _ => False)
  | 44 => (match st with
    | [.int x] => (x = 0 ∨ x = 1) ∧ Q x σ
    | _ => False)
  | 45 => (match st with
    | [] => Q 0 σ
    | _ => False)
  | _ => False
def fg_G (S : fg_P) : fg_P := fun d i pc L st σ Q => match fg_look (fg_cd.getD i []) pc with
  | none => False
  | some q => fg_op S d i q.1 q.2.2.1 q.2.2.2.1 q.2.2.2.2.1 L st σ Q q.2.1
/-- it runs: the least that every step keeps -/
def fg_Run : fg_P := fun d i pc L st σ Q => ∀ S : fg_P, (∀ d i pc L st σ Q, fg_G S d i pc L st σ Q → S d i pc L st σ Q) → S d i pc L st σ Q
end
