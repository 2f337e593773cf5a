-- ===== PART A: goes FIRST, ahead of the names: the tables' words, and 'selects' of the private methods out of them =====
/-- a private method of a class that the tables say can be made, by its rows of tables_1 -/
def lw_okq (q : MethodName × Nat) : Prop := (q.1.cls ≠ "java/lang/invoke/MethodHandle" ∧ q.1.cls ≠ "java/lang/invoke/VarHandle") ∧ Cond.instantiable q.1.cls q.2 ∈ tables_1 ∧ Cond.privateMethod q.1 ∈ tables_1 ∧ Cond.instanceMethod q.1 ∈ tables_1
theorem lw_p0 : lw_okq (⟨"FlagSignals", "readySignals", "()I"⟩, 13) := ⟨⟨by decide +kernel, by decide +kernel⟩, List.mem_of_getElem? (i := 16) (by decide +kernel), List.mem_of_getElem? (i := 423) (by decide +kernel), List.mem_of_getElem? (i := 424) (by decide +kernel)⟩
theorem lw_p1 : lw_okq (⟨"FlagSignals", "clearNow", "()I"⟩, 13) := ⟨⟨by decide +kernel, by decide +kernel⟩, List.mem_of_getElem? (i := 16) (by decide +kernel), List.mem_of_getElem? (i := 463) (by decide +kernel), List.mem_of_getElem? (i := 464) (by decide +kernel)⟩
theorem lw_p2 : lw_okq (⟨"FlagSignals", "watchIn", "(I)V"⟩, 13) := ⟨⟨by decide +kernel, by decide +kernel⟩, List.mem_of_getElem? (i := 16) (by decide +kernel), List.mem_of_getElem? (i := 471) (by decide +kernel), List.mem_of_getElem? (i := 472) (by decide +kernel)⟩
theorem lw_p3 : lw_okq (⟨"FlagSignals", "clearest", "()I"⟩, 13) := ⟨⟨by decide +kernel, by decide +kernel⟩, List.mem_of_getElem? (i := 16) (by decide +kernel), List.mem_of_getElem? (i := 510) (by decide +kernel), List.mem_of_getElem? (i := 511) (by decide +kernel)⟩
theorem lw_p4 : lw_okq (⟨"FlagSignals", "mostTogether", "()I"⟩, 13) := ⟨⟨by decide +kernel, by decide +kernel⟩, List.mem_of_getElem? (i := 16) (by decide +kernel), List.mem_of_getElem? (i := 520) (by decide +kernel), List.mem_of_getElem? (i := 521) (by decide +kernel)⟩
theorem lw_p5 : lw_okq (⟨"FlagSignals", "groupWithin", "(I)V"⟩, 13) := ⟨⟨by decide +kernel, by decide +kernel⟩, List.mem_of_getElem? (i := 16) (by decide +kernel), List.mem_of_getElem? (i := 528) (by decide +kernel), List.mem_of_getElem? (i := 529) (by decide +kernel)⟩
theorem lw_p6 : lw_okq (⟨"FlagSignals", "flyTogether", "(I)Z"⟩, 13) := ⟨⟨by decide +kernel, by decide +kernel⟩, List.mem_of_getElem? (i := 16) (by decide +kernel), List.mem_of_getElem? (i := 532) (by decide +kernel), List.mem_of_getElem? (i := 533) (by decide +kernel)⟩
theorem lw_p7 : lw_okq (⟨"FlagSignals", "neededFlag", "()I"⟩, 13) := ⟨⟨by decide +kernel, by decide +kernel⟩, List.mem_of_getElem? (i := 16) (by decide +kernel), List.mem_of_getElem? (i := 544) (by decide +kernel), List.mem_of_getElem? (i := 545) (by decide +kernel)⟩
theorem lw_p8 : lw_okq (⟨"FlagSignals", "betterFlag", "()I"⟩, 13) := ⟨⟨by decide +kernel, by decide +kernel⟩, List.mem_of_getElem? (i := 16) (by decide +kernel), List.mem_of_getElem? (i := 553) (by decide +kernel), List.mem_of_getElem? (i := 554) (by decide +kernel)⟩
theorem lw_p9 : lw_okq (⟨"FlagSignals", "countClearWith", "(III)I"⟩, 13) := ⟨⟨by decide +kernel, by decide +kernel⟩, List.mem_of_getElem? (i := 16) (by decide +kernel), List.mem_of_getElem? (i := 557) (by decide +kernel), List.mem_of_getElem? (i := 558) (by decide +kernel)⟩
theorem lw_p10 : lw_okq (⟨"FlagSignals", "possibleWeathers", "()I"⟩, 13) := ⟨⟨by decide +kernel, by decide +kernel⟩, List.mem_of_getElem? (i := 16) (by decide +kernel), List.mem_of_getElem? (i := 563) (by decide +kernel), List.mem_of_getElem? (i := 564) (by decide +kernel)⟩
theorem lw_p11 : lw_okq (⟨"FlagSignals", "askedSignal", "()I"⟩, 13) := ⟨⟨by decide +kernel, by decide +kernel⟩, List.mem_of_getElem? (i := 16) (by decide +kernel), List.mem_of_getElem? (i := 577) (by decide +kernel), List.mem_of_getElem? (i := 578) (by decide +kernel)⟩
theorem lw_p12 : lw_okq (⟨"FlagSignals", "fillLikes", "()V"⟩, 13) := ⟨⟨by decide +kernel, by decide +kernel⟩, List.mem_of_getElem? (i := 16) (by decide +kernel), List.mem_of_getElem? (i := 581) (by decide +kernel), List.mem_of_getElem? (i := 582) (by decide +kernel)⟩
theorem lw_p13 : lw_okq (⟨"FlagSignals", "greatestPart", "(II)I"⟩, 13) := ⟨⟨by decide +kernel, by decide +kernel⟩, List.mem_of_getElem? (i := 16) (by decide +kernel), List.mem_of_getElem? (i := 586) (by decide +kernel), List.mem_of_getElem? (i := 587) (by decide +kernel)⟩
theorem lw_p14 : lw_okq (⟨"FlagSignals", "canHoist", "(II)Z"⟩, 13) := ⟨⟨by decide +kernel, by decide +kernel⟩, List.mem_of_getElem? (i := 16) (by decide +kernel), List.mem_of_getElem? (i := 629) (by decide +kernel), List.mem_of_getElem? (i := 630) (by decide +kernel)⟩
theorem lw_p15 : lw_okq (⟨"FlagSignals", "refusedDays", "(I)I"⟩, 13) := ⟨⟨by decide +kernel, by decide +kernel⟩, List.mem_of_getElem? (i := 16) (by decide +kernel), List.mem_of_getElem? (i := 661) (by decide +kernel), List.mem_of_getElem? (i := 662) (by decide +kernel)⟩
def lw_privs_1 : List (MethodName × Nat) := [(⟨"FlagSignals", "readySignals", "()I"⟩, 13), (⟨"FlagSignals", "clearNow", "()I"⟩, 13), (⟨"FlagSignals", "watchIn", "(I)V"⟩, 13), (⟨"FlagSignals", "clearest", "()I"⟩, 13), (⟨"FlagSignals", "mostTogether", "()I"⟩, 13), (⟨"FlagSignals", "groupWithin", "(I)V"⟩, 13), (⟨"FlagSignals", "flyTogether", "(I)Z"⟩, 13), (⟨"FlagSignals", "neededFlag", "()I"⟩, 13), (⟨"FlagSignals", "betterFlag", "()I"⟩, 13), (⟨"FlagSignals", "countClearWith", "(III)I"⟩, 13), (⟨"FlagSignals", "possibleWeathers", "()I"⟩, 13), (⟨"FlagSignals", "askedSignal", "()I"⟩, 13), (⟨"FlagSignals", "fillLikes", "()V"⟩, 13), (⟨"FlagSignals", "greatestPart", "(II)I"⟩, 13), (⟨"FlagSignals", "canHoist", "(II)Z"⟩, 13), (⟨"FlagSignals", "refusedDays", "(I)I"⟩, 13)]
theorem lw_r1 : ∀ q ∈ lw_privs_1, lw_okq q := List.forall_mem_cons.mpr ⟨lw_p0, List.forall_mem_cons.mpr ⟨lw_p1, List.forall_mem_cons.mpr ⟨lw_p2, List.forall_mem_cons.mpr ⟨lw_p3, List.forall_mem_cons.mpr ⟨lw_p4, List.forall_mem_cons.mpr ⟨lw_p5, List.forall_mem_cons.mpr ⟨lw_p6, List.forall_mem_cons.mpr ⟨lw_p7, List.forall_mem_cons.mpr ⟨lw_p8, List.forall_mem_cons.mpr ⟨lw_p9, List.forall_mem_cons.mpr ⟨lw_p10, List.forall_mem_cons.mpr ⟨lw_p11, List.forall_mem_cons.mpr ⟨lw_p12, List.forall_mem_cons.mpr ⟨lw_p13, List.forall_mem_cons.mpr ⟨lw_p14, List.forall_mem_cons.mpr ⟨lw_p15, fun _ h => absurd h List.not_mem_nil⟩⟩⟩⟩⟩⟩⟩⟩⟩⟩⟩⟩⟩⟩⟩⟩
theorem lw_p16 : lw_okq (⟨"FlagSignals", "actByDraws", "()V"⟩, 13) := ⟨⟨by decide +kernel, by decide +kernel⟩, List.mem_of_getElem? (i := 16) (by decide +kernel), List.mem_of_getElem? (i := 695) (by decide +kernel), List.mem_of_getElem? (i := 696) (by decide +kernel)⟩
theorem lw_p17 : lw_okq (⟨"FlagSignals", "draw", "(I)I"⟩, 13) := ⟨⟨by decide +kernel, by decide +kernel⟩, List.mem_of_getElem? (i := 16) (by decide +kernel), List.mem_of_getElem? (i := 699) (by decide +kernel), List.mem_of_getElem? (i := 700) (by decide +kernel)⟩
theorem lw_p18 : lw_okq (⟨"FlagSignals", "hoistDrawn", "(I)V"⟩, 13) := ⟨⟨by decide +kernel, by decide +kernel⟩, List.mem_of_getElem? (i := 16) (by decide +kernel), List.mem_of_getElem? (i := 707) (by decide +kernel), List.mem_of_getElem? (i := 708) (by decide +kernel)⟩
theorem lw_p19 : lw_okq (⟨"FlagSignals", "sewDrawn", "()V"⟩, 13) := ⟨⟨by decide +kernel, by decide +kernel⟩, List.mem_of_getElem? (i := 16) (by decide +kernel), List.mem_of_getElem? (i := 711) (by decide +kernel), List.mem_of_getElem? (i := 712) (by decide +kernel)⟩
theorem lw_p20 : lw_okq (⟨"FlagSignalsModel", "here", "()I"⟩, 37) := ⟨⟨by decide +kernel, by decide +kernel⟩, List.mem_of_getElem? (i := 802) (by decide +kernel), List.mem_of_getElem? (i := 934) (by decide +kernel), List.mem_of_getElem? (i := 935) (by decide +kernel)⟩
theorem lw_p21 : lw_okq (⟨"FlagSignalsModel", "takeClause", "()I"⟩, 37) := ⟨⟨by decide +kernel, by decide +kernel⟩, List.mem_of_getElem? (i := 802) (by decide +kernel), List.mem_of_getElem? (i := 938) (by decide +kernel), List.mem_of_getElem? (i := 939) (by decide +kernel)⟩
theorem lw_p22 : lw_okq (⟨"FlagSignalsModel", "fails", "(II)I"⟩, 37) := ⟨⟨by decide +kernel, by decide +kernel⟩, List.mem_of_getElem? (i := 802) (by decide +kernel), List.mem_of_getElem? (i := 942) (by decide +kernel), List.mem_of_getElem? (i := 943) (by decide +kernel)⟩
theorem lw_p23 : lw_okq (⟨"FlagSignalsModel", "takeLines", "()I"⟩, 37) := ⟨⟨by decide +kernel, by decide +kernel⟩, List.mem_of_getElem? (i := 802) (by decide +kernel), List.mem_of_getElem? (i := 946) (by decide +kernel), List.mem_of_getElem? (i := 947) (by decide +kernel)⟩
theorem lw_p24 : lw_okq (⟨"FlagSignalsModel", "takeNumber", "(II)I"⟩, 37) := ⟨⟨by decide +kernel, by decide +kernel⟩, List.mem_of_getElem? (i := 802) (by decide +kernel), List.mem_of_getElem? (i := 950) (by decide +kernel), List.mem_of_getElem? (i := 951) (by decide +kernel)⟩
theorem lw_p25 : lw_okq (⟨"FlagSignalsModel", "takeFlag", "()I"⟩, 37) := ⟨⟨by decide +kernel, by decide +kernel⟩, List.mem_of_getElem? (i := 802) (by decide +kernel), List.mem_of_getElem? (i := 956) (by decide +kernel), List.mem_of_getElem? (i := 957) (by decide +kernel)⟩
theorem lw_p26 : lw_okq (⟨"FlagSignalsModel", "takeSignal", "()I"⟩, 37) := ⟨⟨by decide +kernel, by decide +kernel⟩, List.mem_of_getElem? (i := 802) (by decide +kernel), List.mem_of_getElem? (i := 960) (by decide +kernel), List.mem_of_getElem? (i := 961) (by decide +kernel)⟩
theorem lw_p27 : lw_okq (⟨"FlagSignalsModel", "beginAll", "()V"⟩, 37) := ⟨⟨by decide +kernel, by decide +kernel⟩, List.mem_of_getElem? (i := 802) (by decide +kernel), List.mem_of_getElem? (i := 967) (by decide +kernel), List.mem_of_getElem? (i := 968) (by decide +kernel)⟩
theorem lw_p28 : lw_okq (⟨"FlagSignalsModel", "areSignals", "(I)Z"⟩, 37) := ⟨⟨by decide +kernel, by decide +kernel⟩, List.mem_of_getElem? (i := 802) (by decide +kernel), List.mem_of_getElem? (i := 982) (by decide +kernel), List.mem_of_getElem? (i := 983) (by decide +kernel)⟩
theorem lw_p29 : lw_okq (⟨"FlagSignalsModel", "fly", "(I)Z"⟩, 37) := ⟨⟨by decide +kernel, by decide +kernel⟩, List.mem_of_getElem? (i := 802) (by decide +kernel), List.mem_of_getElem? (i := 987) (by decide +kernel), List.mem_of_getElem? (i := 988) (by decide +kernel)⟩
theorem lw_p30 : lw_okq (⟨"FlagSignalsModel", "tornFlags", "()I"⟩, 37) := ⟨⟨by decide +kernel, by decide +kernel⟩, List.mem_of_getElem? (i := 802) (by decide +kernel), List.mem_of_getElem? (i := 991) (by decide +kernel), List.mem_of_getElem? (i := 992) (by decide +kernel)⟩
theorem lw_p31 : lw_okq (⟨"FlagSignalsModel", "allSubs", "()I"⟩, 37) := ⟨⟨by decide +kernel, by decide +kernel⟩, List.mem_of_getElem? (i := 802) (by decide +kernel), List.mem_of_getElem? (i := 995) (by decide +kernel), List.mem_of_getElem? (i := 996) (by decide +kernel)⟩
def lw_privs_2 : List (MethodName × Nat) := [(⟨"FlagSignals", "actByDraws", "()V"⟩, 13), (⟨"FlagSignals", "draw", "(I)I"⟩, 13), (⟨"FlagSignals", "hoistDrawn", "(I)V"⟩, 13), (⟨"FlagSignals", "sewDrawn", "()V"⟩, 13), (⟨"FlagSignalsModel", "here", "()I"⟩, 37), (⟨"FlagSignalsModel", "takeClause", "()I"⟩, 37), (⟨"FlagSignalsModel", "fails", "(II)I"⟩, 37), (⟨"FlagSignalsModel", "takeLines", "()I"⟩, 37), (⟨"FlagSignalsModel", "takeNumber", "(II)I"⟩, 37), (⟨"FlagSignalsModel", "takeFlag", "()I"⟩, 37), (⟨"FlagSignalsModel", "takeSignal", "()I"⟩, 37), (⟨"FlagSignalsModel", "beginAll", "()V"⟩, 37), (⟨"FlagSignalsModel", "areSignals", "(I)Z"⟩, 37), (⟨"FlagSignalsModel", "fly", "(I)Z"⟩, 37), (⟨"FlagSignalsModel", "tornFlags", "()I"⟩, 37), (⟨"FlagSignalsModel", "allSubs", "()I"⟩, 37)]
theorem lw_r2 : ∀ q ∈ lw_privs_2, lw_okq q := List.forall_mem_cons.mpr ⟨lw_p16, List.forall_mem_cons.mpr ⟨lw_p17, List.forall_mem_cons.mpr ⟨lw_p18, List.forall_mem_cons.mpr ⟨lw_p19, List.forall_mem_cons.mpr ⟨lw_p20, List.forall_mem_cons.mpr ⟨lw_p21, List.forall_mem_cons.mpr ⟨lw_p22, List.forall_mem_cons.mpr ⟨lw_p23, List.forall_mem_cons.mpr ⟨lw_p24, List.forall_mem_cons.mpr ⟨lw_p25, List.forall_mem_cons.mpr ⟨lw_p26, List.forall_mem_cons.mpr ⟨lw_p27, List.forall_mem_cons.mpr ⟨lw_p28, List.forall_mem_cons.mpr ⟨lw_p29, List.forall_mem_cons.mpr ⟨lw_p30, List.forall_mem_cons.mpr ⟨lw_p31, fun _ h => absurd h List.not_mem_nil⟩⟩⟩⟩⟩⟩⟩⟩⟩⟩⟩⟩⟩⟩⟩⟩
theorem lw_p32 : lw_okq (⟨"FlagSignalsModel", "goesUp", "(III)Z"⟩, 37) := ⟨⟨by decide +kernel, by decide +kernel⟩, List.mem_of_getElem? (i := 802) (by decide +kernel), List.mem_of_getElem? (i := 1005) (by decide +kernel), List.mem_of_getElem? (i := 1006) (by decide +kernel)⟩
theorem lw_p33 : lw_okq (⟨"FlagSignalsModel", "itemFor", "(IIII)I"⟩, 37) := ⟨⟨by decide +kernel, by decide +kernel⟩, List.mem_of_getElem? (i := 802) (by decide +kernel), List.mem_of_getElem? (i := 1009) (by decide +kernel), List.mem_of_getElem? (i := 1010) (by decide +kernel)⟩
theorem lw_p34 : lw_okq (⟨"FlagSignalsModel", "isUsed", "(II)Z"⟩, 37) := ⟨⟨by decide +kernel, by decide +kernel⟩, List.mem_of_getElem? (i := 802) (by decide +kernel), List.mem_of_getElem? (i := 1013) (by decide +kernel), List.mem_of_getElem? (i := 1014) (by decide +kernel)⟩
theorem lw_p35 : lw_okq (⟨"FlagSignalsModel", "rowFlags", "()I"⟩, 37) := ⟨⟨by decide +kernel, by decide +kernel⟩, List.mem_of_getElem? (i := 802) (by decide +kernel), List.mem_of_getElem? (i := 1017) (by decide +kernel), List.mem_of_getElem? (i := 1018) (by decide +kernel)⟩
theorem lw_p36 : lw_okq (⟨"FlagSignalsModel", "rowSubs", "()I"⟩, 37) := ⟨⟨by decide +kernel, by decide +kernel⟩, List.mem_of_getElem? (i := 802) (by decide +kernel), List.mem_of_getElem? (i := 1021) (by decide +kernel), List.mem_of_getElem? (i := 1022) (by decide +kernel)⟩
theorem lw_p37 : lw_okq (⟨"FlagSignalsModel", "findTurns", "(I)V"⟩, 37) := ⟨⟨by decide +kernel, by decide +kernel⟩, List.mem_of_getElem? (i := 802) (by decide +kernel), List.mem_of_getElem? (i := 1029) (by decide +kernel), List.mem_of_getElem? (i := 1030) (by decide +kernel)⟩
theorem lw_p38 : lw_okq (⟨"FlagSignalsModel", "freeFlags", "()I"⟩, 37) := ⟨⟨by decide +kernel, by decide +kernel⟩, List.mem_of_getElem? (i := 802) (by decide +kernel), List.mem_of_getElem? (i := 1038) (by decide +kernel), List.mem_of_getElem? (i := 1039) (by decide +kernel)⟩
theorem lw_p39 : lw_okq (⟨"FlagSignalsModel", "canGoUp", "()I"⟩, 37) := ⟨⟨by decide +kernel, by decide +kernel⟩, List.mem_of_getElem? (i := 802) (by decide +kernel), List.mem_of_getElem? (i := 1042) (by decide +kernel), List.mem_of_getElem? (i := 1043) (by decide +kernel)⟩
theorem lw_p40 : lw_okq (⟨"FlagSignalsModel", "freeSubs", "()I"⟩, 37) := ⟨⟨by decide +kernel, by decide +kernel⟩, List.mem_of_getElem? (i := 802) (by decide +kernel), List.mem_of_getElem? (i := 1046) (by decide +kernel), List.mem_of_getElem? (i := 1047) (by decide +kernel)⟩
theorem lw_p41 : lw_okq (⟨"FlagSignalsModel", "clearNow", "()I"⟩, 37) := ⟨⟨by decide +kernel, by decide +kernel⟩, List.mem_of_getElem? (i := 802) (by decide +kernel), List.mem_of_getElem? (i := 1050) (by decide +kernel), List.mem_of_getElem? (i := 1051) (by decide +kernel)⟩
theorem lw_p42 : lw_okq (⟨"FlagSignalsModel", "clearIn", "(II)I"⟩, 37) := ⟨⟨by decide +kernel, by decide +kernel⟩, List.mem_of_getElem? (i := 802) (by decide +kernel), List.mem_of_getElem? (i := 1054) (by decide +kernel), List.mem_of_getElem? (i := 1055) (by decide +kernel)⟩
theorem lw_p43 : lw_okq (⟨"FlagSignalsModel", "layLooks", "(II)V"⟩, 37) := ⟨⟨by decide +kernel, by decide +kernel⟩, List.mem_of_getElem? (i := 802) (by decide +kernel), List.mem_of_getElem? (i := 1058) (by decide +kernel), List.mem_of_getElem? (i := 1059) (by decide +kernel)⟩
theorem lw_p44 : lw_okq (⟨"FlagSignalsModel", "likeOf", "(I)I"⟩, 37) := ⟨⟨by decide +kernel, by decide +kernel⟩, List.mem_of_getElem? (i := 802) (by decide +kernel), List.mem_of_getElem? (i := 1068) (by decide +kernel), List.mem_of_getElem? (i := 1069) (by decide +kernel)⟩
theorem lw_p45 : lw_okq (⟨"FlagSignalsModel", "isLike", "(II)Z"⟩, 37) := ⟨⟨by decide +kernel, by decide +kernel⟩, List.mem_of_getElem? (i := 802) (by decide +kernel), List.mem_of_getElem? (i := 1072) (by decide +kernel), List.mem_of_getElem? (i := 1073) (by decide +kernel)⟩
theorem lw_p46 : lw_okq (⟨"FlagSignalsModel", "clearest", "()I"⟩, 37) := ⟨⟨by decide +kernel, by decide +kernel⟩, List.mem_of_getElem? (i := 802) (by decide +kernel), List.mem_of_getElem? (i := 1076) (by decide +kernel), List.mem_of_getElem? (i := 1077) (by decide +kernel)⟩
theorem lw_p47 : lw_okq (⟨"FlagSignalsModel", "mostTogether", "()I"⟩, 37) := ⟨⟨by decide +kernel, by decide +kernel⟩, List.mem_of_getElem? (i := 802) (by decide +kernel), List.mem_of_getElem? (i := 1080) (by decide +kernel), List.mem_of_getElem? (i := 1081) (by decide +kernel)⟩
def lw_privs_3 : List (MethodName × Nat) := [(⟨"FlagSignalsModel", "goesUp", "(III)Z"⟩, 37), (⟨"FlagSignalsModel", "itemFor", "(IIII)I"⟩, 37), (⟨"FlagSignalsModel", "isUsed", "(II)Z"⟩, 37), (⟨"FlagSignalsModel", "rowFlags", "()I"⟩, 37), (⟨"FlagSignalsModel", "rowSubs", "()I"⟩, 37), (⟨"FlagSignalsModel", "findTurns", "(I)V"⟩, 37), (⟨"FlagSignalsModel", "freeFlags", "()I"⟩, 37), (⟨"FlagSignalsModel", "canGoUp", "()I"⟩, 37), (⟨"FlagSignalsModel", "freeSubs", "()I"⟩, 37), (⟨"FlagSignalsModel", "clearNow", "()I"⟩, 37), (⟨"FlagSignalsModel", "clearIn", "(II)I"⟩, 37), (⟨"FlagSignalsModel", "layLooks", "(II)V"⟩, 37), (⟨"FlagSignalsModel", "likeOf", "(I)I"⟩, 37), (⟨"FlagSignalsModel", "isLike", "(II)Z"⟩, 37), (⟨"FlagSignalsModel", "clearest", "()I"⟩, 37), (⟨"FlagSignalsModel", "mostTogether", "()I"⟩, 37)]
theorem lw_r3 : ∀ q ∈ lw_privs_3, lw_okq q := List.forall_mem_cons.mpr ⟨lw_p32, List.forall_mem_cons.mpr ⟨lw_p33, List.forall_mem_cons.mpr ⟨lw_p34, List.forall_mem_cons.mpr ⟨lw_p35, List.forall_mem_cons.mpr ⟨lw_p36, List.forall_mem_cons.mpr ⟨lw_p37, List.forall_mem_cons.mpr ⟨lw_p38, List.forall_mem_cons.mpr ⟨lw_p39, List.forall_mem_cons.mpr ⟨lw_p40, List.forall_mem_cons.mpr ⟨lw_p41, List.forall_mem_cons.mpr ⟨lw_p42, List.forall_mem_cons.mpr ⟨lw_p43, List.forall_mem_cons.mpr ⟨lw_p44, List.forall_mem_cons.mpr ⟨lw_p45, List.forall_mem_cons.mpr ⟨lw_p46, List.forall_mem_cons.mpr ⟨lw_p47, fun _ h => absurd h List.not_mem_nil⟩⟩⟩⟩⟩⟩⟩⟩⟩⟩⟩⟩⟩⟩⟩⟩
theorem lw_p48 : lw_okq (⟨"FlagSignalsModel", "needed", "()I"⟩, 37) := ⟨⟨by decide +kernel, by decide +kernel⟩, List.mem_of_getElem? (i := 802) (by decide +kernel), List.mem_of_getElem? (i := 1084) (by decide +kernel), List.mem_of_getElem? (i := 1085) (by decide +kernel)⟩
theorem lw_p49 : lw_okq (⟨"FlagSignalsModel", "isToldIn", "(II)Z"⟩, 37) := ⟨⟨by decide +kernel, by decide +kernel⟩, List.mem_of_getElem? (i := 802) (by decide +kernel), List.mem_of_getElem? (i := 1088) (by decide +kernel), List.mem_of_getElem? (i := 1089) (by decide +kernel)⟩
theorem lw_p50 : lw_okq (⟨"FlagSignalsModel", "better", "()I"⟩, 37) := ⟨⟨by decide +kernel, by decide +kernel⟩, List.mem_of_getElem? (i := 802) (by decide +kernel), List.mem_of_getElem? (i := 1092) (by decide +kernel), List.mem_of_getElem? (i := 1093) (by decide +kernel)⟩
theorem lw_p51 : lw_okq (⟨"FlagSignalsModel", "weathers", "()I"⟩, 37) := ⟨⟨by decide +kernel, by decide +kernel⟩, List.mem_of_getElem? (i := 802) (by decide +kernel), List.mem_of_getElem? (i := 1096) (by decide +kernel), List.mem_of_getElem? (i := 1097) (by decide +kernel)⟩
theorem lw_p52 : lw_okq (⟨"FlagSignalsModel", "askNext", "()I"⟩, 37) := ⟨⟨by decide +kernel, by decide +kernel⟩, List.mem_of_getElem? (i := 802) (by decide +kernel), List.mem_of_getElem? (i := 1100) (by decide +kernel), List.mem_of_getElem? (i := 1101) (by decide +kernel)⟩
theorem lw_p53 : lw_okq (⟨"FlagSignalsModel", "layLikes", "()V"⟩, 37) := ⟨⟨by decide +kernel, by decide +kernel⟩, List.mem_of_getElem? (i := 802) (by decide +kernel), List.mem_of_getElem? (i := 1104) (by decide +kernel), List.mem_of_getElem? (i := 1105) (by decide +kernel)⟩
theorem lw_p54 : lw_okq (⟨"FlagSignalsModel", "greatestPart", "(II)I"⟩, 37) := ⟨⟨by decide +kernel, by decide +kernel⟩, List.mem_of_getElem? (i := 802) (by decide +kernel), List.mem_of_getElem? (i := 1108) (by decide +kernel), List.mem_of_getElem? (i := 1109) (by decide +kernel)⟩
theorem lw_p55 : lw_okq (⟨"FlagSignalsModel", "isFlag", "(I)Z"⟩, 37) := ⟨⟨by decide +kernel, by decide +kernel⟩, List.mem_of_getElem? (i := 802) (by decide +kernel), List.mem_of_getElem? (i := 1116) (by decide +kernel), List.mem_of_getElem? (i := 1117) (by decide +kernel)⟩
theorem lw_p56 : lw_okq (⟨"FlagSignalsModel", "isSignal", "(I)Z"⟩, 37) := ⟨⟨by decide +kernel, by decide +kernel⟩, List.mem_of_getElem? (i := 802) (by decide +kernel), List.mem_of_getElem? (i := 1124) (by decide +kernel), List.mem_of_getElem? (i := 1125) (by decide +kernel)⟩
theorem lw_p57 : lw_okq (⟨"FlagSignalsModel", "likeNow", "(I)I"⟩, 37) := ⟨⟨by decide +kernel, by decide +kernel⟩, List.mem_of_getElem? (i := 802) (by decide +kernel), List.mem_of_getElem? (i := 1130) (by decide +kernel), List.mem_of_getElem? (i := 1131) (by decide +kernel)⟩
theorem lw_p58 : lw_okq (⟨"FlagSignalsModel", "lineOf", "(I)I"⟩, 37) := ⟨⟨by decide +kernel, by decide +kernel⟩, List.mem_of_getElem? (i := 802) (by decide +kernel), List.mem_of_getElem? (i := 1134) (by decide +kernel), List.mem_of_getElem? (i := 1135) (by decide +kernel)⟩
theorem lw_p59 : lw_okq (⟨"FlagSignalsModel", "isLine", "(I)Z"⟩, 37) := ⟨⟨by decide +kernel, by decide +kernel⟩, List.mem_of_getElem? (i := 802) (by decide +kernel), List.mem_of_getElem? (i := 1142) (by decide +kernel), List.mem_of_getElem? (i := 1143) (by decide +kernel)⟩
theorem lw_p60 : lw_okq (⟨"FlagSignalsModel", "canHoist", "(II)Z"⟩, 37) := ⟨⟨by decide +kernel, by decide +kernel⟩, List.mem_of_getElem? (i := 802) (by decide +kernel), List.mem_of_getElem? (i := 1154) (by decide +kernel), List.mem_of_getElem? (i := 1155) (by decide +kernel)⟩
theorem lw_p61 : lw_okq (⟨"FlagSignalsModel", "remember", "()V"⟩, 37) := ⟨⟨by decide +kernel, by decide +kernel⟩, List.mem_of_getElem? (i := 802) (by decide +kernel), List.mem_of_getElem? (i := 1159) (by decide +kernel), List.mem_of_getElem? (i := 1160) (by decide +kernel)⟩
theorem lw_p62 : lw_okq (⟨"FlagSignalsModel", "hoistRow", "(II)I"⟩, 37) := ⟨⟨by decide +kernel, by decide +kernel⟩, List.mem_of_getElem? (i := 802) (by decide +kernel), List.mem_of_getElem? (i := 1163) (by decide +kernel), List.mem_of_getElem? (i := 1164) (by decide +kernel)⟩
theorem lw_p63 : lw_okq (⟨"FlagSignalsModel", "haulNow", "(I)I"⟩, 37) := ⟨⟨by decide +kernel, by decide +kernel⟩, List.mem_of_getElem? (i := 802) (by decide +kernel), List.mem_of_getElem? (i := 1171) (by decide +kernel), List.mem_of_getElem? (i := 1172) (by decide +kernel)⟩
def lw_privs_4 : List (MethodName × Nat) := [(⟨"FlagSignalsModel", "needed", "()I"⟩, 37), (⟨"FlagSignalsModel", "isToldIn", "(II)Z"⟩, 37), (⟨"FlagSignalsModel", "better", "()I"⟩, 37), (⟨"FlagSignalsModel", "weathers", "()I"⟩, 37), (⟨"FlagSignalsModel", "askNext", "()I"⟩, 37), (⟨"FlagSignalsModel", "layLikes", "()V"⟩, 37), (⟨"FlagSignalsModel", "greatestPart", "(II)I"⟩, 37), (⟨"FlagSignalsModel", "isFlag", "(I)Z"⟩, 37), (⟨"FlagSignalsModel", "isSignal", "(I)Z"⟩, 37), (⟨"FlagSignalsModel", "likeNow", "(I)I"⟩, 37), (⟨"FlagSignalsModel", "lineOf", "(I)I"⟩, 37), (⟨"FlagSignalsModel", "isLine", "(I)Z"⟩, 37), (⟨"FlagSignalsModel", "canHoist", "(II)Z"⟩, 37), (⟨"FlagSignalsModel", "remember", "()V"⟩, 37), (⟨"FlagSignalsModel", "hoistRow", "(II)I"⟩, 37), (⟨"FlagSignalsModel", "haulNow", "(I)I"⟩, 37)]
theorem lw_r4 : ∀ q ∈ lw_privs_4, lw_okq q := List.forall_mem_cons.mpr ⟨lw_p48, List.forall_mem_cons.mpr ⟨lw_p49, List.forall_mem_cons.mpr ⟨lw_p50, List.forall_mem_cons.mpr ⟨lw_p51, List.forall_mem_cons.mpr ⟨lw_p52, List.forall_mem_cons.mpr ⟨lw_p53, List.forall_mem_cons.mpr ⟨lw_p54, List.forall_mem_cons.mpr ⟨lw_p55, List.forall_mem_cons.mpr ⟨lw_p56, List.forall_mem_cons.mpr ⟨lw_p57, List.forall_mem_cons.mpr ⟨lw_p58, List.forall_mem_cons.mpr ⟨lw_p59, List.forall_mem_cons.mpr ⟨lw_p60, List.forall_mem_cons.mpr ⟨lw_p61, List.forall_mem_cons.mpr ⟨lw_p62, List.forall_mem_cons.mpr ⟨lw_p63, fun _ h => absurd h List.not_mem_nil⟩⟩⟩⟩⟩⟩⟩⟩⟩⟩⟩⟩⟩⟩⟩⟩
theorem lw_p64 : lw_okq (⟨"FlagSignalsModel", "daysRefused", "(I)I"⟩, 37) := ⟨⟨by decide +kernel, by decide +kernel⟩, List.mem_of_getElem? (i := 802) (by decide +kernel), List.mem_of_getElem? (i := 1179) (by decide +kernel), List.mem_of_getElem? (i := 1180) (by decide +kernel)⟩
theorem lw_p65 : lw_okq (⟨"FlagSignalsModel", "pass", "()V"⟩, 37) := ⟨⟨by decide +kernel, by decide +kernel⟩, List.mem_of_getElem? (i := 802) (by decide +kernel), List.mem_of_getElem? (i := 1184) (by decide +kernel), List.mem_of_getElem? (i := 1185) (by decide +kernel)⟩
theorem lw_p66 : lw_okq (⟨"FlagSignalsModel", "canSew", "(I)Z"⟩, 37) := ⟨⟨by decide +kernel, by decide +kernel⟩, List.mem_of_getElem? (i := 802) (by decide +kernel), List.mem_of_getElem? (i := 1192) (by decide +kernel), List.mem_of_getElem? (i := 1193) (by decide +kernel)⟩
theorem lw_p67 : lw_okq (⟨"FlagSignalsModel", "sewNow", "(I)V"⟩, 37) := ⟨⟨by decide +kernel, by decide +kernel⟩, List.mem_of_getElem? (i := 802) (by decide +kernel), List.mem_of_getElem? (i := 1196) (by decide +kernel), List.mem_of_getElem? (i := 1197) (by decide +kernel)⟩
theorem lw_p68 : lw_okq (⟨"FlagSignalsModel", "chance", "()V"⟩, 37) := ⟨⟨by decide +kernel, by decide +kernel⟩, List.mem_of_getElem? (i := 802) (by decide +kernel), List.mem_of_getElem? (i := 1214) (by decide +kernel), List.mem_of_getElem? (i := 1215) (by decide +kernel)⟩
theorem lw_p69 : lw_okq (⟨"FlagSignalsModel", "draw", "(I)I"⟩, 37) := ⟨⟨by decide +kernel, by decide +kernel⟩, List.mem_of_getElem? (i := 802) (by decide +kernel), List.mem_of_getElem? (i := 1218) (by decide +kernel), List.mem_of_getElem? (i := 1219) (by decide +kernel)⟩
theorem lw_p70 : lw_okq (⟨"FlagSignalsModel", "chanceHoist", "(I)V"⟩, 37) := ⟨⟨by decide +kernel, by decide +kernel⟩, List.mem_of_getElem? (i := 802) (by decide +kernel), List.mem_of_getElem? (i := 1226) (by decide +kernel), List.mem_of_getElem? (i := 1227) (by decide +kernel)⟩
theorem lw_p71 : lw_okq (⟨"FlagSignalsModel", "chanceSew", "()V"⟩, 37) := ⟨⟨by decide +kernel, by decide +kernel⟩, List.mem_of_getElem? (i := 802) (by decide +kernel), List.mem_of_getElem? (i := 1230) (by decide +kernel), List.mem_of_getElem? (i := 1231) (by decide +kernel)⟩
def lw_privs_5 : List (MethodName × Nat) := [(⟨"FlagSignalsModel", "daysRefused", "(I)I"⟩, 37), (⟨"FlagSignalsModel", "pass", "()V"⟩, 37), (⟨"FlagSignalsModel", "canSew", "(I)Z"⟩, 37), (⟨"FlagSignalsModel", "sewNow", "(I)V"⟩, 37), (⟨"FlagSignalsModel", "chance", "()V"⟩, 37), (⟨"FlagSignalsModel", "draw", "(I)I"⟩, 37), (⟨"FlagSignalsModel", "chanceHoist", "(I)V"⟩, 37), (⟨"FlagSignalsModel", "chanceSew", "()V"⟩, 37)]
theorem lw_r5 : ∀ q ∈ lw_privs_5, lw_okq q := List.forall_mem_cons.mpr ⟨lw_p64, List.forall_mem_cons.mpr ⟨lw_p65, List.forall_mem_cons.mpr ⟨lw_p66, List.forall_mem_cons.mpr ⟨lw_p67, List.forall_mem_cons.mpr ⟨lw_p68, List.forall_mem_cons.mpr ⟨lw_p69, List.forall_mem_cons.mpr ⟨lw_p70, List.forall_mem_cons.mpr ⟨lw_p71, fun _ h => absurd h List.not_mem_nil⟩⟩⟩⟩⟩⟩⟩⟩
def lw_privs : List (MethodName × Nat) := lw_privs_1 ++ (lw_privs_2 ++ (lw_privs_3 ++ (lw_privs_4 ++ (lw_privs_5))))
def lw_tbl : List Cond := k2_sels lw_privs ++ tables_1
theorem lw_privs_ok : ∀ q ∈ lw_privs, lw_okq q := by
  show ∀ q ∈ lw_privs_1 ++ (lw_privs_2 ++ (lw_privs_3 ++ (lw_privs_4 ++ (lw_privs_5)))), lw_okq q
  exact List.forall_mem_append.mpr ⟨lw_r1, List.forall_mem_append.mpr ⟨lw_r2, List.forall_mem_append.mpr ⟨lw_r3, List.forall_mem_append.mpr ⟨lw_r4, lw_r5⟩⟩⟩⟩
-- names (printed)
def RX0 : String := "FlagSignals$Deck"
def TX0 : u_T := fun k => match k with
  | 0 => ("FlagSignals$Deck", "kinds", "[I", true)
  | 1 => ("FlagSignals$Deck", "fores", "[I", true)
  | 2 => ("FlagSignals$Deck", "backs", "[I", true)
  | 3 => ("FlagSignals$Deck", "wear", "[I", true)
  | 4 => ("FlagSignals$Deck", "where", "[I", true)
  | 5 => ("FlagSignals$Deck", "flown", "[I", true)
  | 6 => ("FlagSignals$Deck", "places", "[I", true)
  | 7 => ("FlagSignals$Deck", "torn", "I", false)
  | 8 => ("FlagSignals$Deck", "substitutesUp", "I", false)
  | 9 => ("FlagSignals$Deck", "days", "I", false)
  | 10 => ("FlagSignals$Deck", "haze", "I", false)
  | _ => ("FlagSignals$Deck", "wind", "I", false)
def tyX0 : Nat → FieldType := fun k => match k with
  | 0 => .array .int
  | 1 => .array .int
  | 2 => .array .int
  | 3 => .array .int
  | 4 => .array .int
  | 5 => .array .int
  | 6 => .array .int
  | 7 => .int
  | 8 => .int
  | 9 => .int
  | 10 => .int
  | _ => .int
abbrev wsX00 : List Cond := u_ws RX0 TX0 12
theorem nmX0 : ∀ a, a < 12 → ∀ b, b < 12 → a ≠ b → (TX0 a).2.1 ≠ (TX0 b).2.1 := by decide +kernel
theorem tyX0_ok : ∀ k, k < 12 → parseFieldDescriptor (TX0 k).2.2.1 = some (tyX0 k) := by decide +kernel
abbrev cX0_init : ByteArray := prog_2_method_1_code
def yX0_init : MethodName := ⟨RX0, "<init>", "()V"⟩
abbrev cX0_rig : ByteArray := prog_2_method_2_code
def yX0_rig : MethodName := ⟨RX0, "rig", "(LFlagSignals$Ship;)V"⟩
abbrev cX0_become : ByteArray := prog_2_method_3_code
def yX0_become : MethodName := ⟨RX0, "become", "(LFlagSignals$Deck;)V"⟩
abbrev cX0_weatherNumber : ByteArray := prog_2_method_4_code
def yX0_weatherNumber : MethodName := ⟨RX0, "weatherNumber", "()I"⟩
abbrev cX0_freeFlags : ByteArray := prog_2_method_5_code
def yX0_freeFlags : MethodName := ⟨RX0, "freeFlags", "(LFlagSignals$Ship;)I"⟩
abbrev cX0_freeSubstitutes : ByteArray := prog_2_method_6_code
def yX0_freeSubstitutes : MethodName := ⟨RX0, "freeSubstitutes", "(LFlagSignals$Ship;)I"⟩
abbrev cX0_lookIn : ByteArray := prog_2_method_7_code
def yX0_lookIn : MethodName := ⟨RX0, "lookIn", "(III)I"⟩
abbrev cX0_lineOf : ByteArray := prog_2_method_8_code
def yX0_lineOf : MethodName := ⟨RX0, "lineOf", "(I)I"⟩
abbrev cX0_canBeSewn : ByteArray := prog_2_method_9_code
def yX0_canBeSewn : MethodName := ⟨RX0, "canBeSewn", "(I)Z"⟩
abbrev cX0_mend : ByteArray := prog_2_method_10_code
def yX0_mend : MethodName := ⟨RX0, "mend", "(I)V"⟩
abbrev cX0_raise : ByteArray := prog_2_method_11_code
def yX0_raise : MethodName := ⟨RX0, "raise", "(II[I)I"⟩
abbrev cX0_lower : ByteArray := prog_2_method_12_code
def yX0_lower : MethodName := ⟨RX0, "lower", "(I)I"⟩
abbrev cX0_emptyLine : ByteArray := prog_2_method_13_code
def yX0_emptyLine : MethodName := ⟨RX0, "emptyLine", "(I)V"⟩
abbrev cX0_passDay : ByteArray := prog_2_method_14_code
def yX0_passDay : MethodName := ⟨RX0, "passDay", "(LFlagSignals$Ship;)V"⟩
def RX1 : String := "FlagSignals$Image"
def TX1 : u_T := fun k => match k with
  | 0 => ("FlagSignals$Image", "deck", "LFlagSignals$Deck;", true)
  | 1 => ("FlagSignals$Image", "seedThen", "I", false)
  | _ => ("FlagSignals$Image", "kept", "Z", false)
def tyX1 : Nat → FieldType := fun k => match k with
  | 0 => .object "FlagSignals$Deck"
  | 1 => .int
  | _ => .boolean
abbrev wsX10 : List Cond := u_ws RX1 TX1 3
theorem nmX1 : ∀ a, a < 3 → ∀ b, b < 3 → a ≠ b → (TX1 a).2.1 ≠ (TX1 b).2.1 := by decide +kernel
theorem tyX1_ok : ∀ k, k < 3 → parseFieldDescriptor (TX1 k).2.2.1 = some (tyX1 k) := by decide +kernel
abbrev cX1_init : ByteArray := prog_3_method_1_code
def yX1_init : MethodName := ⟨RX1, "<init>", "()V"⟩
def RX2 : String := "FlagSignals$Locker"
def TX2 : u_T := fun k => match k with
  | 0 => ("FlagSignals$Locker", "flags", "I", false)
  | 1 => ("FlagSignals$Locker", "substitutes", "I", false)
  | _ => ("FlagSignals$Locker", "row", "[I", true)
def tyX2 : Nat → FieldType := fun k => match k with
  | 0 => .int
  | 1 => .int
  | _ => .array .int
abbrev wsX20 : List Cond := u_ws RX2 TX2 3
theorem nmX2 : ∀ a, a < 3 → ∀ b, b < 3 → a ≠ b → (TX2 a).2.1 ≠ (TX2 b).2.1 := by decide +kernel
theorem tyX2_ok : ∀ k, k < 3 → parseFieldDescriptor (TX2 k).2.2.1 = some (tyX2 k) := by decide +kernel
abbrev cX2_init : ByteArray := prog_4_method_1_code
def yX2_init : MethodName := ⟨RX2, "<init>", "()V"⟩
abbrev cX2_open : ByteArray := prog_4_method_2_code
def yX2_open : MethodName := ⟨RX2, "open", "(II)V"⟩
abbrev cX2_take : ByteArray := prog_4_method_3_code
def yX2_take : MethodName := ⟨RX2, "take", "(LFlagSignals$Ship;I)Z"⟩
abbrev cX2_pieceFor : ByteArray := prog_4_method_4_code
def yX2_pieceFor : MethodName := ⟨RX2, "pieceFor", "(LFlagSignals$Ship;II)I"⟩
abbrev cX2_emptyRow : ByteArray := prog_4_method_5_code
def yX2_emptyRow : MethodName := ⟨RX2, "emptyRow", "()V"⟩
def RX3 : String := "FlagSignals$Log"
def TX3 : u_T := fun k => match k with
  | 0 => ("FlagSignals$Log", "sent", "[I", true)
  | 1 => ("FlagSignals$Log", "seen", "[I", true)
  | 2 => ("FlagSignals$Log", "entryLines", "[I", true)
  | 3 => ("FlagSignals$Log", "entrySignals", "[I", true)
  | 4 => ("FlagSignals$Log", "reads", "I", false)
  | _ => ("FlagSignals$Log", "entries", "I", false)
def tyX3 : Nat → FieldType := fun k => match k with
  | 0 => .array .int
  | 1 => .array .int
  | 2 => .array .int
  | 3 => .array .int
  | 4 => .int
  | _ => .int
abbrev wsX30 : List Cond := u_ws RX3 TX3 6
theorem nmX3 : ∀ a, a < 6 → ∀ b, b < 6 → a ≠ b → (TX3 a).2.1 ≠ (TX3 b).2.1 := by decide +kernel
theorem tyX3_ok : ∀ k, k < 6 → parseFieldDescriptor (TX3 k).2.2.1 = some (tyX3 k) := by decide +kernel
abbrev cX3_init : ByteArray := prog_5_method_1_code
def yX3_init : MethodName := ⟨RX3, "<init>", "()V"⟩
abbrev cX3_addRead : ByteArray := prog_5_method_2_code
def yX3_addRead : MethodName := ⟨RX3, "addRead", "(II)Z"⟩
abbrev cX3_addEntry : ByteArray := prog_5_method_3_code
def yX3_addEntry : MethodName := ⟨RX3, "addEntry", "(II)Z"⟩
abbrev cX3_wipe : ByteArray := prog_5_method_4_code
def yX3_wipe : MethodName := ⟨RX3, "wipe", "()V"⟩
abbrev cX3_fits : ByteArray := prog_5_method_5_code
def yX3_fits : MethodName := ⟨RX3, "fits", "(LFlagSignals$Ship;LFlagSignals$Watch;)Z"⟩
abbrev cX3_firstFalse : ByteArray := prog_5_method_6_code
def yX3_firstFalse : MethodName := ⟨RX3, "firstFalse", "(LFlagSignals$Deck;)I"⟩
def RX4 : String := "FlagSignals$Past"
def TX4 : u_T := fun k => match k with
  | 0 => ("FlagSignals$Past", "decks", "[LFlagSignals$Deck;", true)
  | 1 => ("FlagSignals$Past", "first", "I", false)
  | _ => ("FlagSignals$Past", "count", "I", false)
def tyX4 : Nat → FieldType := fun k => match k with
  | 0 => .array (.object "FlagSignals$Deck")
  | 1 => .int
  | _ => .int
abbrev wsX40 : List Cond := u_ws RX4 TX4 3
theorem nmX4 : ∀ a, a < 3 → ∀ b, b < 3 → a ≠ b → (TX4 a).2.1 ≠ (TX4 b).2.1 := by decide +kernel
theorem tyX4_ok : ∀ k, k < 3 → parseFieldDescriptor (TX4 k).2.2.1 = some (tyX4 k) := by decide +kernel
abbrev cX4_init : ByteArray := prog_6_method_1_code
def yX4_init : MethodName := ⟨RX4, "<init>", "()V"⟩
abbrev cX4_remember : ByteArray := prog_6_method_2_code
def yX4_remember : MethodName := ⟨RX4, "remember", "(LFlagSignals$Deck;)V"⟩
abbrev cX4_giveBack : ByteArray := prog_6_method_3_code
def yX4_giveBack : MethodName := ⟨RX4, "giveBack", "(LFlagSignals$Deck;)V"⟩
abbrev cX4_forget : ByteArray := prog_6_method_4_code
def yX4_forget : MethodName := ⟨RX4, "forget", "()V"⟩
def RX5 : String := "FlagSignals$Rota"
def TX5 : u_T := fun k => match k with
  | 0 => ("FlagSignals$Rota", "flies", "[Z", true)
  | _ => ("FlagSignals$Rota", "fewest", "[I", true)
def tyX5 : Nat → FieldType := fun k => match k with
  | 0 => .array .boolean
  | _ => .array .int
abbrev wsX50 : List Cond := u_ws RX5 TX5 2
theorem nmX5 : ∀ a, a < 2 → ∀ b, b < 2 → a ≠ b → (TX5 a).2.1 ≠ (TX5 b).2.1 := by decide +kernel
theorem tyX5_ok : ∀ k, k < 2 → parseFieldDescriptor (TX5 k).2.2.1 = some (tyX5 k) := by decide +kernel
abbrev cX5_init : ByteArray := prog_7_method_1_code
def yX5_init : MethodName := ⟨RX5, "<init>", "()V"⟩
abbrev cX5_largestGroup : ByteArray := prog_7_method_2_code
def yX5_largestGroup : MethodName := ⟨RX5, "largestGroup", "()I"⟩
abbrev cX5_plan : ByteArray := prog_7_method_3_code
def yX5_plan : MethodName := ⟨RX5, "plan", "(I)V"⟩
abbrev cX5_fewestOf : ByteArray := prog_7_method_4_code
def yX5_fewestOf : MethodName := ⟨RX5, "fewestOf", "(I)I"⟩
abbrev cX5_firstGroup : ByteArray := prog_7_method_5_code
def yX5_firstGroup : MethodName := ⟨RX5, "firstGroup", "(I)I"⟩
def RX6 : String := "FlagSignals$Ship"
def TX6 : u_T := fun k => match k with
  | 0 => ("FlagSignals$Ship", "lines", "I", false)
  | 1 => ("FlagSignals$Ship", "substitutes", "I", false)
  | 2 => ("FlagSignals$Ship", "flags", "I", false)
  | 3 => ("FlagSignals$Ship", "signals", "I", false)
  | 4 => ("FlagSignals$Ship", "kinds", "[I", true)
  | 5 => ("FlagSignals$Ship", "fores", "[I", true)
  | 6 => ("FlagSignals$Ship", "backs", "[I", true)
  | 7 => ("FlagSignals$Ship", "lengths", "[I", true)
  | _ => ("FlagSignals$Ship", "rows", "[I", true)
def tyX6 : Nat → FieldType := fun k => match k with
  | 0 => .int
  | 1 => .int
  | 2 => .int
  | 3 => .int
  | 4 => .array .int
  | 5 => .array .int
  | 6 => .array .int
  | 7 => .array .int
  | _ => .array .int
abbrev wsX60 : List Cond := u_ws RX6 TX6 9
theorem nmX6 : ∀ a, a < 9 → ∀ b, b < 9 → a ≠ b → (TX6 a).2.1 ≠ (TX6 b).2.1 := by decide +kernel
theorem tyX6_ok : ∀ k, k < 9 → parseFieldDescriptor (TX6 k).2.2.1 = some (tyX6 k) := by decide +kernel
abbrev cX6_init : ByteArray := prog_8_method_1_code
def yX6_init : MethodName := ⟨RX6, "<init>", "()V"⟩
abbrev cX6_strike : ByteArray := prog_8_method_2_code
def yX6_strike : MethodName := ⟨RX6, "strike", "()V"⟩
abbrev cX6_stands : ByteArray := prog_8_method_3_code
def yX6_stands : MethodName := ⟨RX6, "stands", "()Z"⟩
abbrev cX6_hasLine : ByteArray := prog_8_method_4_code
def yX6_hasLine : MethodName := ⟨RX6, "hasLine", "(I)Z"⟩
abbrev cX6_hasFlag : ByteArray := prog_8_method_5_code
def yX6_hasFlag : MethodName := ⟨RX6, "hasFlag", "(I)Z"⟩
abbrev cX6_hasSignal : ByteArray := prog_8_method_6_code
def yX6_hasSignal : MethodName := ⟨RX6, "hasSignal", "(I)Z"⟩
abbrev cX6_hasAll : ByteArray := prog_8_method_7_code
def yX6_hasAll : MethodName := ⟨RX6, "hasAll", "(I)Z"⟩
abbrev cX6_allSignals : ByteArray := prog_8_method_8_code
def yX6_allSignals : MethodName := ⟨RX6, "allSignals", "()I"⟩
abbrev cX6_allFlags : ByteArray := prog_8_method_9_code
def yX6_allFlags : MethodName := ⟨RX6, "allFlags", "()I"⟩
abbrev cX6_allSubstitutes : ByteArray := prog_8_method_10_code
def yX6_allSubstitutes : MethodName := ⟨RX6, "allSubstitutes", "()I"⟩
abbrev cX6_addFlag : ByteArray := prog_8_method_11_code
def yX6_addFlag : MethodName := ⟨RX6, "addFlag", "(III)V"⟩
abbrev cX6_startSignal : ByteArray := prog_8_method_12_code
def yX6_startSignal : MethodName := ⟨RX6, "startSignal", "()V"⟩
abbrev cX6_addToSignal : ByteArray := prog_8_method_13_code
def yX6_addToSignal : MethodName := ⟨RX6, "addToSignal", "(I)V"⟩
abbrev cX6_endSignal : ByteArray := prog_8_method_14_code
def yX6_endSignal : MethodName := ⟨RX6, "endSignal", "()V"⟩
abbrev cX6_flagAt : ByteArray := prog_8_method_15_code
def yX6_flagAt : MethodName := ⟨RX6, "flagAt", "(II)I"⟩
abbrev cX6_signalsWith : ByteArray := prog_8_method_16_code
def yX6_signalsWith : MethodName := ⟨RX6, "signalsWith", "(I)I"⟩
def RX7 : String := "FlagSignals$Text"
def TX7 : u_T := fun k => match k with
  | 0 => ("FlagSignals$Text", "letters", "[I", true)
  | 1 => ("FlagSignals$Text", "count", "I", false)
  | 2 => ("FlagSignals$Text", "at", "I", false)
  | 3 => ("FlagSignals$Text", "wrong", "I", false)
  | _ => ("FlagSignals$Text", "wrongAt", "I", false)
def tyX7 : Nat → FieldType := fun k => match k with
  | 0 => .array .int
  | 1 => .int
  | 2 => .int
  | 3 => .int
  | _ => .int
abbrev wsX70 : List Cond := u_ws RX7 TX7 5
theorem nmX7 : ∀ a, a < 5 → ∀ b, b < 5 → a ≠ b → (TX7 a).2.1 ≠ (TX7 b).2.1 := by decide +kernel
theorem tyX7_ok : ∀ k, k < 5 → parseFieldDescriptor (TX7 k).2.2.1 = some (tyX7 k) := by decide +kernel
abbrev cX7_init : ByteArray := prog_9_method_1_code
def yX7_init : MethodName := ⟨RX7, "<init>", "()V"⟩
abbrev cX7_append : ByteArray := prog_9_method_2_code
def yX7_append : MethodName := ⟨RX7, "append", "(I)Z"⟩
abbrev cX7_parseInto : ByteArray := prog_9_method_3_code
def yX7_parseInto : MethodName := ⟨RX7, "parseInto", "(LFlagSignals$Ship;)I"⟩
abbrev cX7_nextLetter : ByteArray := prog_9_method_4_code
def yX7_nextLetter : MethodName := ⟨RX7, "nextLetter", "()I"⟩
abbrev cX7_blame : ByteArray := prog_9_method_5_code
def yX7_blame : MethodName := ⟨RX7, "blame", "(II)V"⟩
abbrev cX7_parseLines : ByteArray := prog_9_method_6_code
def yX7_parseLines : MethodName := ⟨RX7, "parseLines", "(LFlagSignals$Ship;)V"⟩
abbrev cX7_parseClause : ByteArray := prog_9_method_7_code
def yX7_parseClause : MethodName := ⟨RX7, "parseClause", "(LFlagSignals$Ship;)V"⟩
abbrev cX7_parseFlag : ByteArray := prog_9_method_8_code
def yX7_parseFlag : MethodName := ⟨RX7, "parseFlag", "(LFlagSignals$Ship;)V"⟩
abbrev cX7_parseSignal : ByteArray := prog_9_method_9_code
def yX7_parseSignal : MethodName := ⟨RX7, "parseSignal", "(LFlagSignals$Ship;)V"⟩
abbrev cX7_pass : ByteArray := prog_9_method_10_code
def yX7_pass : MethodName := ⟨RX7, "pass", "(I)V"⟩
abbrev cX7_parseNumber : ByteArray := prog_9_method_11_code
def yX7_parseNumber : MethodName := ⟨RX7, "parseNumber", "(II)I"⟩
def RX8 : String := "FlagSignals$Watch"
def TX8 : u_T := fun k => match k with
  | 0 => ("FlagSignals$Watch", "rows", "[I", true)
  | 1 => ("FlagSignals$Watch", "looks", "[I", true)
  | 2 => ("FlagSignals$Watch", "signs", "[I", true)
  | _ => ("FlagSignals$Watch", "up", "I", false)
def tyX8 : Nat → FieldType := fun k => match k with
  | 0 => .array .int
  | 1 => .array .int
  | 2 => .array .int
  | _ => .int
abbrev wsX80 : List Cond := u_ws RX8 TX8 4
theorem nmX8 : ∀ a, a < 4 → ∀ b, b < 4 → a ≠ b → (TX8 a).2.1 ≠ (TX8 b).2.1 := by decide +kernel
theorem tyX8_ok : ∀ k, k < 4 → parseFieldDescriptor (TX8 k).2.2.1 = some (tyX8 k) := by decide +kernel
abbrev cX8_init : ByteArray := prog_10_method_1_code
def yX8_init : MethodName := ⟨RX8, "<init>", "()V"⟩
abbrev cX8_raiseAll : ByteArray := prog_10_method_2_code
def yX8_raiseAll : MethodName := ⟨RX8, "raiseAll", "(LFlagSignals$Ship;LFlagSignals$Locker;I)V"⟩
abbrev cX8_see : ByteArray := prog_10_method_3_code
def yX8_see : MethodName := ⟨RX8, "see", "(LFlagSignals$Ship;LFlagSignals$Deck;I)V"⟩
abbrev cX8_sign : ByteArray := prog_10_method_4_code
def yX8_sign : MethodName := ⟨RX8, "sign", "(LFlagSignals$Ship;I)V"⟩
abbrev cX8_lookOfPiece : ByteArray := prog_10_method_5_code
def yX8_lookOfPiece : MethodName := ⟨RX8, "lookOfPiece", "(I)I"⟩
abbrev cX8_likeOf : ByteArray := prog_10_method_6_code
def yX8_likeOf : MethodName := ⟨RX8, "likeOf", "(LFlagSignals$Ship;I)I"⟩
abbrev cX8_clearOnes : ByteArray := prog_10_method_7_code
def yX8_clearOnes : MethodName := ⟨RX8, "clearOnes", "(LFlagSignals$Ship;)I"⟩
def RX9 : String := "FlagSignals"
def TX9 : u_T := fun k => match k with
  | 0 => ("FlagSignals", "text", "LFlagSignals$Text;", true)
  | 1 => ("FlagSignals", "ship", "LFlagSignals$Ship;", false)
  | 2 => ("FlagSignals", "draft", "LFlagSignals$Ship;", false)
  | 3 => ("FlagSignals", "now", "LFlagSignals$Deck;", true)
  | 4 => ("FlagSignals", "past", "LFlagSignals$Past;", true)
  | 5 => ("FlagSignals", "images", "[LFlagSignals$Image;", true)
  | 6 => ("FlagSignals", "log", "LFlagSignals$Log;", true)
  | 7 => ("FlagSignals", "locker", "LFlagSignals$Locker;", true)
  | 8 => ("FlagSignals", "watch", "LFlagSignals$Watch;", true)
  | 9 => ("FlagSignals", "rota", "LFlagSignals$Rota;", true)
  | 10 => ("FlagSignals", "likes", "[I", true)
  | 11 => ("FlagSignals", "faultAt", "I", false)
  | _ => ("FlagSignals", "seedNow", "I", false)
def tyX9 : Nat → FieldType := fun k => match k with
  | 0 => .object "FlagSignals$Text"
  | 1 => .object "FlagSignals$Ship"
  | 2 => .object "FlagSignals$Ship"
  | 3 => .object "FlagSignals$Deck"
  | 4 => .object "FlagSignals$Past"
  | 5 => .array (.object "FlagSignals$Image")
  | 6 => .object "FlagSignals$Log"
  | 7 => .object "FlagSignals$Locker"
  | 8 => .object "FlagSignals$Watch"
  | 9 => .object "FlagSignals$Rota"
  | 10 => .array .int
  | 11 => .int
  | _ => .int
abbrev wsX90 : List Cond := u_ws RX9 TX9 13
theorem nmX9 : ∀ a, a < 13 → ∀ b, b < 13 → a ≠ b → (TX9 a).2.1 ≠ (TX9 b).2.1 := by decide +kernel
theorem tyX9_ok : ∀ k, k < 13 → parseFieldDescriptor (TX9 k).2.2.1 = some (tyX9 k) := by decide +kernel
abbrev cX9_init : ByteArray := prog_1_method_1_code
def yX9_init : MethodName := ⟨RX9, "<init>", "()V"⟩
abbrev cX9_feed : ByteArray := prog_1_method_2_code
def yX9_feed : MethodName := ⟨RX9, "feed", "(I)I"⟩
abbrev cX9_ship : ByteArray := prog_1_method_3_code
def yX9_ship : MethodName := ⟨RX9, "ship", "()I"⟩
abbrev cX9_fault : ByteArray := prog_1_method_4_code
def yX9_fault : MethodName := ⟨RX9, "fault", "()I"⟩
abbrev cX9_told : ByteArray := prog_1_method_5_code
def yX9_told : MethodName := ⟨RX9, "told", "(I)I"⟩
abbrev cX9_flag : ByteArray := prog_1_method_6_code
def yX9_flag : MethodName := ⟨RX9, "flag", "(II)I"⟩
abbrev cX9_signal : ByteArray := prog_1_method_7_code
def yX9_signal : MethodName := ⟨RX9, "signal", "(II)I"⟩
abbrev cX9_line : ByteArray := prog_1_method_8_code
def yX9_line : MethodName := ⟨RX9, "line", "(II)I"⟩
abbrev cX9_needs : ByteArray := prog_1_method_9_code
def yX9_needs : MethodName := ⟨RX9, "needs", "(II)I"⟩
abbrev cX9_hoist : ByteArray := prog_1_method_10_code
def yX9_hoist : MethodName := ⟨RX9, "hoist", "(II)I"⟩
abbrev cX9_haul : ByteArray := prog_1_method_11_code
def yX9_haul : MethodName := ⟨RX9, "haul", "(I)I"⟩
abbrev cX9_day : ByteArray := prog_1_method_12_code
def yX9_day : MethodName := ⟨RX9, "day", "(I)I"⟩
abbrev cX9_sew : ByteArray := prog_1_method_13_code
def yX9_sew : MethodName := ⟨RX9, "sew", "(I)I"⟩
abbrev cX9_anew : ByteArray := prog_1_method_14_code
def yX9_anew : MethodName := ⟨RX9, "anew", "(IIII)I"⟩
abbrev cX9_weather : ByteArray := prog_1_method_15_code
def yX9_weather : MethodName := ⟨RX9, "weather", "(IZ)I"⟩
abbrev cX9_drift : ByteArray := prog_1_method_16_code
def yX9_drift : MethodName := ⟨RX9, "drift", "(I)I"⟩
abbrev cX9_undo : ByteArray := prog_1_method_17_code
def yX9_undo : MethodName := ⟨RX9, "undo", "()I"⟩
abbrev cX9_look : ByteArray := prog_1_method_18_code
def yX9_look : MethodName := ⟨RX9, "look", "(IIZ)I"⟩
abbrev cX9_together : ByteArray := prog_1_method_19_code
def yX9_together : MethodName := ⟨RX9, "together", "(I)I"⟩
abbrev cX9_turns : ByteArray := prog_1_method_20_code
def yX9_turns : MethodName := ⟨RX9, "turns", "(II)I"⟩
abbrev cX9_clear : ByteArray := prog_1_method_21_code
def yX9_clear : MethodName := ⟨RX9, "clear", "(II)I"⟩
abbrev cX9_read : ByteArray := prog_1_method_22_code
def yX9_read : MethodName := ⟨RX9, "read", "(II)I"⟩
abbrev cX9_write : ByteArray := prog_1_method_23_code
def yX9_write : MethodName := ⟨RX9, "write", "(II)I"⟩
abbrev cX9_tear : ByteArray := prog_1_method_24_code
def yX9_tear : MethodName := ⟨RX9, "tear", "()I"⟩
abbrev cX9_judge : ByteArray := prog_1_method_25_code
def yX9_judge : MethodName := ⟨RX9, "judge", "()I"⟩
abbrev cX9_seed : ByteArray := prog_1_method_26_code
def yX9_seed : MethodName := ⟨RX9, "seed", "(I)I"⟩
abbrev cX9_keep : ByteArray := prog_1_method_27_code
def yX9_keep : MethodName := ⟨RX9, "keep", "(I)I"⟩
abbrev cX9_goBack : ByteArray := prog_1_method_28_code
def yX9_goBack : MethodName := ⟨RX9, "goBack", "(I)I"⟩
abbrev cX9_has : ByteArray := prog_1_method_29_code
def yX9_has : MethodName := ⟨RX9, "has", "(II)Z"⟩
abbrev cX9_canHoist : ByteArray := prog_1_method_30_code
def yX9_canHoist : MethodName := ⟨RX9, "canHoist", "(II)Z"⟩
abbrev cX9_refusedDays : ByteArray := prog_1_method_31_code
def yX9_refusedDays : MethodName := ⟨RX9, "refusedDays", "(I)I"⟩
abbrev cX9_draw : ByteArray := prog_1_method_32_code
def yX9_draw : MethodName := ⟨RX9, "draw", "(I)I"⟩
abbrev cX9_actByDraws : ByteArray := prog_1_method_33_code
def yX9_actByDraws : MethodName := ⟨RX9, "actByDraws", "()V"⟩
abbrev cX9_hoistDrawn : ByteArray := prog_1_method_34_code
def yX9_hoistDrawn : MethodName := ⟨RX9, "hoistDrawn", "(I)V"⟩
abbrev cX9_sewDrawn : ByteArray := prog_1_method_35_code
def yX9_sewDrawn : MethodName := ⟨RX9, "sewDrawn", "()V"⟩
abbrev cX9_readySignals : ByteArray := prog_1_method_36_code
def yX9_readySignals : MethodName := ⟨RX9, "readySignals", "()I"⟩
abbrev cX9_watchIn : ByteArray := prog_1_method_37_code
def yX9_watchIn : MethodName := ⟨RX9, "watchIn", "(I)V"⟩
abbrev cX9_clearNow : ByteArray := prog_1_method_38_code
def yX9_clearNow : MethodName := ⟨RX9, "clearNow", "()I"⟩
abbrev cX9_clearest : ByteArray := prog_1_method_39_code
def yX9_clearest : MethodName := ⟨RX9, "clearest", "()I"⟩
abbrev cX9_flyTogether : ByteArray := prog_1_method_40_code
def yX9_flyTogether : MethodName := ⟨RX9, "flyTogether", "(I)Z"⟩
abbrev cX9_groupWithin : ByteArray := prog_1_method_41_code
def yX9_groupWithin : MethodName := ⟨RX9, "groupWithin", "(I)V"⟩
abbrev cX9_mostTogether : ByteArray := prog_1_method_42_code
def yX9_mostTogether : MethodName := ⟨RX9, "mostTogether", "()I"⟩
abbrev cX9_neededFlag : ByteArray := prog_1_method_43_code
def yX9_neededFlag : MethodName := ⟨RX9, "neededFlag", "()I"⟩
abbrev cX9_betterFlag : ByteArray := prog_1_method_44_code
def yX9_betterFlag : MethodName := ⟨RX9, "betterFlag", "()I"⟩
abbrev cX9_countClearWith : ByteArray := prog_1_method_45_code
def yX9_countClearWith : MethodName := ⟨RX9, "countClearWith", "(III)I"⟩
abbrev cX9_possibleWeathers : ByteArray := prog_1_method_46_code
def yX9_possibleWeathers : MethodName := ⟨RX9, "possibleWeathers", "()I"⟩
abbrev cX9_askedSignal : ByteArray := prog_1_method_47_code
def yX9_askedSignal : MethodName := ⟨RX9, "askedSignal", "()I"⟩
abbrev cX9_fillLikes : ByteArray := prog_1_method_48_code
def yX9_fillLikes : MethodName := ⟨RX9, "fillLikes", "()V"⟩
abbrev cX9_greatestPart : ByteArray := prog_1_method_49_code
def yX9_greatestPart : MethodName := ⟨RX9, "greatestPart", "(II)I"⟩
abbrev cX9_seenPattern : ByteArray := prog_1_method_50_code
def yX9_seenPattern : MethodName := ⟨RX9, "seenPattern", "(IIIII)I"⟩
abbrev cX9_seenColour : ByteArray := prog_1_method_51_code
def yX9_seenColour : MethodName := ⟨RX9, "seenColour", "(II)I"⟩
def RX10 : String := "FlagSignalsModel"
def TX10 : u_T := fun k => match k with
  | 0 => ("FlagSignalsModel", "lines", "I", false)
  | 1 => ("FlagSignalsModel", "subs", "I", false)
  | 2 => ("FlagSignalsModel", "flags", "I", false)
  | 3 => ("FlagSignalsModel", "pattern", "[I", true)
  | 4 => ("FlagSignalsModel", "signals", "I", false)
  | 5 => ("FlagSignalsModel", "longs", "[I", true)
  | 6 => ("FlagSignalsModel", "told", "[I", true)
  | 7 => ("FlagSignalsModel", "now", "[I", true)
  | 8 => ("FlagSignalsModel", "seed", "I", false)
  | 9 => ("FlagSignalsModel", "text", "[I", true)
  | 10 => ("FlagSignalsModel", "texted", "I", false)
  | 11 => ("FlagSignalsModel", "faultPlace", "I", false)
  | 12 => ("FlagSignalsModel", "at0", "I", false)
  | 13 => ("FlagSignalsModel", "number", "I", false)
  | 14 => ("FlagSignalsModel", "readLines", "I", false)
  | 15 => ("FlagSignalsModel", "readSubs", "I", false)
  | 16 => ("FlagSignalsModel", "readFlags", "I", false)
  | 17 => ("FlagSignalsModel", "readPattern", "[I", true)
  | 18 => ("FlagSignalsModel", "readSignals", "I", false)
  | 19 => ("FlagSignalsModel", "readLongs", "[I", true)
  | 20 => ("FlagSignalsModel", "readTold", "[I", true)
  | 21 => ("FlagSignalsModel", "row", "[I", true)
  | 22 => ("FlagSignalsModel", "shows", "[Z", true)
  | 23 => ("FlagSignalsModel", "looks", "[I", true)
  | 24 => ("FlagSignalsModel", "flying", "[Z", true)
  | 25 => ("FlagSignalsModel", "fewest", "[I", true)
  | 26 => ("FlagSignalsModel", "reads", "I", false)
  | 27 => ("FlagSignalsModel", "sentOnes", "[I", true)
  | 28 => ("FlagSignalsModel", "readOnes", "[I", true)
  | 29 => ("FlagSignalsModel", "likes", "[I", true)
  | 30 => ("FlagSignalsModel", "undos", "I", false)
  | 31 => ("FlagSignalsModel", "past", "[I", true)
  | 32 => ("FlagSignalsModel", "booked", "I", false)
  | 33 => ("FlagSignalsModel", "bookOf", "[I", true)
  | 34 => ("FlagSignalsModel", "bookIs", "[I", true)
  | 35 => ("FlagSignalsModel", "images", "[I", true)
  | _ => ("FlagSignalsModel", "isKept", "[Z", true)
def tyX10 : Nat → FieldType := fun k => match k with
  | 0 => .int
  | 1 => .int
  | 2 => .int
  | 3 => .array .int
  | 4 => .int
  | 5 => .array .int
  | 6 => .array .int
  | 7 => .array .int
  | 8 => .int
  | 9 => .array .int
  | 10 => .int
  | 11 => .int
  | 12 => .int
  | 13 => .int
  | 14 => .int
  | 15 => .int
  | 16 => .int
  | 17 => .array .int
  | 18 => .int
  | 19 => .array .int
  | 20 => .array .int
  | 21 => .array .int
  | 22 => .array .boolean
  | 23 => .array .int
  | 24 => .array .boolean
  | 25 => .array .int
  | 26 => .int
  | 27 => .array .int
  | 28 => .array .int
  | 29 => .array .int
  | 30 => .int
  | 31 => .array .int
  | 32 => .int
  | 33 => .array .int
  | 34 => .array .int
  | 35 => .array .int
  | _ => .array .boolean
abbrev wsX100 : List Cond := u_ws RX10 TX10 37
theorem nmX10 : ∀ a, a < 37 → ∀ b, b < 37 → a ≠ b → (TX10 a).2.1 ≠ (TX10 b).2.1 := by decide +kernel
theorem tyX10_ok : ∀ k, k < 37 → parseFieldDescriptor (TX10 k).2.2.1 = some (tyX10 k) := by decide +kernel
abbrev cX10_init : ByteArray := prog_12_method_1_code
def yX10_init : MethodName := ⟨RX10, "<init>", "()V"⟩
abbrev cX10_in : ByteArray := prog_12_method_3_code
def yX10_in : MethodName := ⟨RX10, "in", "(JJJ)Z"⟩
abbrev cX10_has : ByteArray := prog_12_method_4_code
def yX10_has : MethodName := ⟨RX10, "has", "(II)Z"⟩
abbrev cX10_bits : ByteArray := prog_12_method_5_code
def yX10_bits : MethodName := ⟨RX10, "bits", "(I)I"⟩
abbrev cX10_isLine : ByteArray := prog_12_method_6_code
def yX10_isLine : MethodName := ⟨RX10, "isLine", "(I)Z"⟩
abbrev cX10_isFlag : ByteArray := prog_12_method_7_code
def yX10_isFlag : MethodName := ⟨RX10, "isFlag", "(I)Z"⟩
abbrev cX10_isSignal : ByteArray := prog_12_method_8_code
def yX10_isSignal : MethodName := ⟨RX10, "isSignal", "(I)Z"⟩
abbrev cX10_feed : ByteArray := prog_12_method_9_code
def yX10_feed : MethodName := ⟨RX10, "feed", "(I)I"⟩
abbrev cX10_here : ByteArray := prog_12_method_10_code
def yX10_here : MethodName := ⟨RX10, "here", "()I"⟩
abbrev cX10_fails : ByteArray := prog_12_method_11_code
def yX10_fails : MethodName := ⟨RX10, "fails", "(II)I"⟩
abbrev cX10_takeNumber : ByteArray := prog_12_method_12_code
def yX10_takeNumber : MethodName := ⟨RX10, "takeNumber", "(II)I"⟩
abbrev cX10_takeLines : ByteArray := prog_12_method_13_code
def yX10_takeLines : MethodName := ⟨RX10, "takeLines", "()I"⟩
abbrev cX10_takeFlag : ByteArray := prog_12_method_14_code
def yX10_takeFlag : MethodName := ⟨RX10, "takeFlag", "()I"⟩
abbrev cX10_takeSignal : ByteArray := prog_12_method_15_code
def yX10_takeSignal : MethodName := ⟨RX10, "takeSignal", "()I"⟩
abbrev cX10_takeClause : ByteArray := prog_12_method_16_code
def yX10_takeClause : MethodName := ⟨RX10, "takeClause", "()I"⟩
abbrev cX10_copyRow : ByteArray := prog_12_method_17_code
def yX10_copyRow : MethodName := ⟨RX10, "copyRow", "([I[II)V"⟩
abbrev cX10_beginAll : ByteArray := prog_12_method_18_code
def yX10_beginAll : MethodName := ⟨RX10, "beginAll", "()V"⟩
abbrev cX10_ship : ByteArray := prog_12_method_19_code
def yX10_ship : MethodName := ⟨RX10, "ship", "()I"⟩
abbrev cX10_fault : ByteArray := prog_12_method_20_code
def yX10_fault : MethodName := ⟨RX10, "fault", "()I"⟩
abbrev cX10_freeFlags : ByteArray := prog_12_method_21_code
def yX10_freeFlags : MethodName := ⟨RX10, "freeFlags", "()I"⟩
abbrev cX10_tornFlags : ByteArray := prog_12_method_22_code
def yX10_tornFlags : MethodName := ⟨RX10, "tornFlags", "()I"⟩
abbrev cX10_freeSubs : ByteArray := prog_12_method_23_code
def yX10_freeSubs : MethodName := ⟨RX10, "freeSubs", "()I"⟩
abbrev cX10_allSubs : ByteArray := prog_12_method_24_code
def yX10_allSubs : MethodName := ⟨RX10, "allSubs", "()I"⟩
abbrev cX10_isUsed : ByteArray := prog_12_method_25_code
def yX10_isUsed : MethodName := ⟨RX10, "isUsed", "(II)Z"⟩
abbrev cX10_itemFor : ByteArray := prog_12_method_26_code
def yX10_itemFor : MethodName := ⟨RX10, "itemFor", "(IIII)I"⟩
abbrev cX10_goesUp : ByteArray := prog_12_method_27_code
def yX10_goesUp : MethodName := ⟨RX10, "goesUp", "(III)Z"⟩
abbrev cX10_canGoUp : ByteArray := prog_12_method_28_code
def yX10_canGoUp : MethodName := ⟨RX10, "canGoUp", "()I"⟩
abbrev cX10_seenColour : ByteArray := prog_12_method_29_code
def yX10_seenColour : MethodName := ⟨RX10, "seenColour", "(II)I"⟩
abbrev cX10_lookOf : ByteArray := prog_12_method_30_code
def yX10_lookOf : MethodName := ⟨RX10, "lookOf", "(III)I"⟩
abbrev cX10_layLooks : ByteArray := prog_12_method_31_code
def yX10_layLooks : MethodName := ⟨RX10, "layLooks", "(II)V"⟩
abbrev cX10_isLike : ByteArray := prog_12_method_32_code
def yX10_isLike : MethodName := ⟨RX10, "isLike", "(II)Z"⟩
abbrev cX10_likeOf : ByteArray := prog_12_method_33_code
def yX10_likeOf : MethodName := ⟨RX10, "likeOf", "(I)I"⟩
abbrev cX10_clearIn : ByteArray := prog_12_method_34_code
def yX10_clearIn : MethodName := ⟨RX10, "clearIn", "(II)I"⟩
abbrev cX10_clearNow : ByteArray := prog_12_method_35_code
def yX10_clearNow : MethodName := ⟨RX10, "clearNow", "()I"⟩
abbrev cX10_clearest : ByteArray := prog_12_method_36_code
def yX10_clearest : MethodName := ⟨RX10, "clearest", "()I"⟩
abbrev cX10_isToldIn : ByteArray := prog_12_method_37_code
def yX10_isToldIn : MethodName := ⟨RX10, "isToldIn", "(II)Z"⟩
abbrev cX10_needed : ByteArray := prog_12_method_38_code
def yX10_needed : MethodName := ⟨RX10, "needed", "()I"⟩
abbrev cX10_better : ByteArray := prog_12_method_39_code
def yX10_better : MethodName := ⟨RX10, "better", "()I"⟩
abbrev cX10_rowFlags : ByteArray := prog_12_method_40_code
def yX10_rowFlags : MethodName := ⟨RX10, "rowFlags", "()I"⟩
abbrev cX10_rowSubs : ByteArray := prog_12_method_41_code
def yX10_rowSubs : MethodName := ⟨RX10, "rowSubs", "()I"⟩
abbrev cX10_fly : ByteArray := prog_12_method_42_code
def yX10_fly : MethodName := ⟨RX10, "fly", "(I)Z"⟩
abbrev cX10_mostTogether : ByteArray := prog_12_method_43_code
def yX10_mostTogether : MethodName := ⟨RX10, "mostTogether", "()I"⟩
abbrev cX10_areSignals : ByteArray := prog_12_method_44_code
def yX10_areSignals : MethodName := ⟨RX10, "areSignals", "(I)Z"⟩
abbrev cX10_together : ByteArray := prog_12_method_45_code
def yX10_together : MethodName := ⟨RX10, "together", "(I)I"⟩
abbrev cX10_findTurns : ByteArray := prog_12_method_46_code
def yX10_findTurns : MethodName := ⟨RX10, "findTurns", "(I)V"⟩
abbrev cX10_turns : ByteArray := prog_12_method_47_code
def yX10_turns : MethodName := ⟨RX10, "turns", "(II)I"⟩
abbrev cX10_weathers : ByteArray := prog_12_method_48_code
def yX10_weathers : MethodName := ⟨RX10, "weathers", "()I"⟩
abbrev cX10_layLikes : ByteArray := prog_12_method_49_code
def yX10_layLikes : MethodName := ⟨RX10, "layLikes", "()V"⟩
abbrev cX10_greatestPart : ByteArray := prog_12_method_50_code
def yX10_greatestPart : MethodName := ⟨RX10, "greatestPart", "(II)I"⟩
abbrev cX10_askNext : ByteArray := prog_12_method_51_code
def yX10_askNext : MethodName := ⟨RX10, "askNext", "()I"⟩
abbrev cX10_told : ByteArray := prog_12_method_52_code
def yX10_told : MethodName := ⟨RX10, "told", "(I)I"⟩
abbrev cX10_flag : ByteArray := prog_12_method_53_code
def yX10_flag : MethodName := ⟨RX10, "flag", "(II)I"⟩
abbrev cX10_lineOf : ByteArray := prog_12_method_54_code
def yX10_lineOf : MethodName := ⟨RX10, "lineOf", "(I)I"⟩
abbrev cX10_likeNow : ByteArray := prog_12_method_55_code
def yX10_likeNow : MethodName := ⟨RX10, "likeNow", "(I)I"⟩
abbrev cX10_signal : ByteArray := prog_12_method_56_code
def yX10_signal : MethodName := ⟨RX10, "signal", "(II)I"⟩
abbrev cX10_line : ByteArray := prog_12_method_57_code
def yX10_line : MethodName := ⟨RX10, "line", "(II)I"⟩
abbrev cX10_needs : ByteArray := prog_12_method_58_code
def yX10_needs : MethodName := ⟨RX10, "needs", "(II)I"⟩
abbrev cX10_remember : ByteArray := prog_12_method_59_code
def yX10_remember : MethodName := ⟨RX10, "remember", "()V"⟩
abbrev cX10_canHoist : ByteArray := prog_12_method_60_code
def yX10_canHoist : MethodName := ⟨RX10, "canHoist", "(II)Z"⟩
abbrev cX10_hoistRow : ByteArray := prog_12_method_61_code
def yX10_hoistRow : MethodName := ⟨RX10, "hoistRow", "(II)I"⟩
abbrev cX10_hoist : ByteArray := prog_12_method_62_code
def yX10_hoist : MethodName := ⟨RX10, "hoist", "(II)I"⟩
abbrev cX10_haulNow : ByteArray := prog_12_method_63_code
def yX10_haulNow : MethodName := ⟨RX10, "haulNow", "(I)I"⟩
abbrev cX10_haul : ByteArray := prog_12_method_64_code
def yX10_haul : MethodName := ⟨RX10, "haul", "(I)I"⟩
abbrev cX10_pass : ByteArray := prog_12_method_65_code
def yX10_pass : MethodName := ⟨RX10, "pass", "()V"⟩
abbrev cX10_daysRefused : ByteArray := prog_12_method_66_code
def yX10_daysRefused : MethodName := ⟨RX10, "daysRefused", "(I)I"⟩
abbrev cX10_day : ByteArray := prog_12_method_67_code
def yX10_day : MethodName := ⟨RX10, "day", "(I)I"⟩
abbrev cX10_canSew : ByteArray := prog_12_method_68_code
def yX10_canSew : MethodName := ⟨RX10, "canSew", "(I)Z"⟩
abbrev cX10_sewNow : ByteArray := prog_12_method_69_code
def yX10_sewNow : MethodName := ⟨RX10, "sewNow", "(I)V"⟩
abbrev cX10_sew : ByteArray := prog_12_method_70_code
def yX10_sew : MethodName := ⟨RX10, "sew", "(I)I"⟩
abbrev cX10_anew : ByteArray := prog_12_method_71_code
def yX10_anew : MethodName := ⟨RX10, "anew", "(IIII)I"⟩
abbrev cX10_weather : ByteArray := prog_12_method_72_code
def yX10_weather : MethodName := ⟨RX10, "weather", "(IZ)I"⟩
abbrev cX10_draw : ByteArray := prog_12_method_73_code
def yX10_draw : MethodName := ⟨RX10, "draw", "(I)I"⟩
abbrev cX10_chanceHoist : ByteArray := prog_12_method_74_code
def yX10_chanceHoist : MethodName := ⟨RX10, "chanceHoist", "(I)V"⟩
abbrev cX10_chanceSew : ByteArray := prog_12_method_75_code
def yX10_chanceSew : MethodName := ⟨RX10, "chanceSew", "()V"⟩
abbrev cX10_chance : ByteArray := prog_12_method_76_code
def yX10_chance : MethodName := ⟨RX10, "chance", "()V"⟩
abbrev cX10_drift : ByteArray := prog_12_method_77_code
def yX10_drift : MethodName := ⟨RX10, "drift", "(I)I"⟩
abbrev cX10_undo : ByteArray := prog_12_method_78_code
def yX10_undo : MethodName := ⟨RX10, "undo", "()I"⟩
abbrev cX10_look : ByteArray := prog_12_method_79_code
def yX10_look : MethodName := ⟨RX10, "look", "(IIZ)I"⟩
abbrev cX10_clear : ByteArray := prog_12_method_80_code
def yX10_clear : MethodName := ⟨RX10, "clear", "(II)I"⟩
abbrev cX10_read : ByteArray := prog_12_method_81_code
def yX10_read : MethodName := ⟨RX10, "read", "(II)I"⟩
abbrev cX10_write : ByteArray := prog_12_method_82_code
def yX10_write : MethodName := ⟨RX10, "write", "(II)I"⟩
abbrev cX10_tear : ByteArray := prog_12_method_83_code
def yX10_tear : MethodName := ⟨RX10, "tear", "()I"⟩
abbrev cX10_judge : ByteArray := prog_12_method_84_code
def yX10_judge : MethodName := ⟨RX10, "judge", "()I"⟩
abbrev cX10_seed : ByteArray := prog_12_method_85_code
def yX10_seed : MethodName := ⟨RX10, "seed", "(I)I"⟩
abbrev cX10_keep : ByteArray := prog_12_method_86_code
def yX10_keep : MethodName := ⟨RX10, "keep", "(I)I"⟩
abbrev cX10_goBack : ByteArray := prog_12_method_87_code
def yX10_goBack : MethodName := ⟨RX10, "goBack", "(I)I"⟩
def RJ6 : String := "java/lang/Integer"
def TJ6 : u_T := fun k => match k with
  | _ => ("", "", "", false)
def tyJ6 : Nat → FieldType := fun k => match k with
  | _ => .int
abbrev wsJ60 : List Cond := u_ws RJ6 TJ6 0
theorem nmJ6 : ∀ a, a < 0 → ∀ b, b < 0 → a ≠ b → (TJ6 a).2.1 ≠ (TJ6 b).2.1 := by decide +kernel
theorem tyJ6_ok : ∀ k, k < 0 → parseFieldDescriptor (TJ6 k).2.2.1 = some (tyJ6 k) := by decide +kernel
abbrev cJ6_bitCount_0f7a4 : ByteArray := prog_13_method_49_code
def yJ6_bitCount_0f7a4 : MethodName := ⟨RJ6, "bitCount", "(I)I"⟩
def RJ9 : String := "java/lang/Math"
def TJ9 : u_T := fun k => match k with
  | _ => ("", "", "", false)
def tyJ9 : Nat → FieldType := fun k => match k with
  | _ => .int
abbrev wsJ90 : List Cond := u_ws RJ9 TJ9 0
theorem nmJ9 : ∀ a, a < 0 → ∀ b, b < 0 → a ≠ b → (TJ9 a).2.1 ≠ (TJ9 b).2.1 := by decide +kernel
theorem tyJ9_ok : ∀ k, k < 0 → parseFieldDescriptor (TJ9 k).2.2.1 = some (tyJ9 k) := by decide +kernel
abbrev cJ9_max_7cf53 : ByteArray := prog_14_method_65_code
def yJ9_max_7cf53 : MethodName := ⟨RJ9, "max", "(II)I"⟩
abbrev cJ9_min_7cf53 : ByteArray := prog_14_method_69_code
def yJ9_min_7cf53 : MethodName := ⟨RJ9, "min", "(II)I"⟩
def RJ10 : String := "java/lang/System"
def TJ10 : u_T := fun k => match k with
  | _ => ("", "", "", false)
def tyJ10 : Nat → FieldType := fun k => match k with
  | _ => .int
abbrev wsJ100 : List Cond := u_ws RJ10 TJ10 0
theorem nmJ10 : ∀ a, a < 0 → ∀ b, b < 0 → a ≠ b → (TJ10 a).2.1 ≠ (TJ10 b).2.1 := by decide +kernel
theorem tyJ10_ok : ∀ k, k < 0 → parseFieldDescriptor (TJ10 k).2.2.1 = some (tyJ10 k) := by decide +kernel
def RL : String := "FlagSignalsLaw"
abbrev cL_law : ByteArray := code
def yL_law : MethodName := ⟨RL, "law", "([I)Z"⟩
abbrev vwCl : List vw_C := [(RX0, TX0, 12), (RX1, TX1, 3), (RX2, TX2, 3), (RX3, TX3, 6), (RX4, TX4, 3), (RX5, TX5, 2), (RX6, TX6, 9), (RX7, TX7, 5), (RX8, TX8, 4), (RX9, TX9, 13), (RX10, TX10, 37)]
