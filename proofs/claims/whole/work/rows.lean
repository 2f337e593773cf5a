section
-- ===== PART A: goes FIRST, ahead of the names: the tables' words, and 'selects' of the private methods out of them =====
/-- a private method of a class that the tables say can be made, by its rows of tables_1 -/
def lw_okq (q : MethodName × Nat) : Prop := (q.1.cls ≠ "java/lang/invoke/MethodHandle" ∧ q.1.cls ≠ "java/lang/invoke/VarHandle") ∧ Cond.instantiable q.1.cls q.2 ∈ tables_1 ∧ Cond.privateMethod q.1 ∈ tables_1 ∧ Cond.instanceMethod q.1 ∈ tables_1
theorem lw_p0 : lw_okq (⟨"FlagSignals", "readySignals", "()I"⟩, 13) := ⟨⟨by decide +kernel, by decide +kernel⟩, List.mem_of_getElem? (i := 16) (by decide +kernel), List.mem_of_getElem? (i := 423) (by decide +kernel), List.mem_of_getElem? (i := 424) (by decide +kernel)⟩
theorem lw_p1 : lw_okq (⟨"FlagSignals", "clearNow", "()I"⟩, 13) := ⟨⟨by decide +kernel, by decide +kernel⟩, List.mem_of_getElem? (i := 16) (by decide +kernel), List.mem_of_getElem? (i := 463) (by decide +kernel), List.mem_of_getElem? (i := 464) (by decide +kernel)⟩
theorem lw_p2 : lw_okq (⟨"FlagSignals", "watchIn", "(I)V"⟩, 13) := ⟨⟨by decide +kernel, by decide +kernel⟩, List.mem_of_getElem? (i := 16) (by decide +kernel), List.mem_of_getElem? (i := 471) (by decide +kernel), List.mem_of_getElem? (i := 472) (by decide +kernel)⟩
theorem lw_p3 : lw_okq (⟨"FlagSignals", "clearest", "()I"⟩, 13) := ⟨⟨by decide +kernel, by decide +kernel⟩, List.mem_of_getElem? (i := 16) (by decide +kernel), List.mem_of_getElem? (i := 510) (by decide +kernel), List.mem_of_getElem? (i := 511) (by decide +kernel)⟩
theorem lw_p4 : lw_okq (⟨"FlagSignals", "mostTogether", "()I"⟩, 13) := ⟨⟨by decide +kernel, by decide +kernel⟩, List.mem_of_getElem? (i := 16) (by decide +kernel), List.mem_of_getElem? (i := 520) (by decide +kernel), List.mem_of_getElem? (i := 521) (by decide +kernel)⟩
theorem lw_p5 : lw_okq (⟨"FlagSignals", "groupWithin", "(I)V"⟩, 13) := ⟨⟨by decide +kernel, by decide +kernel⟩, List.mem_of_getElem? (i := 16) (by decide +kernel), List.mem_of_getElem? (i := 528) (by decide +kernel), List.mem_of_getElem? (i := 529) (by decide +kernel)⟩
theorem lw_p6 : lw_okq (⟨"FlagSignals", "flyTogether", "(I)Z"⟩, 13) := ⟨⟨by decide +kernel, by decide +kernel⟩, List.mem_of_getElem? (i := 16) (by decide +kernel), List.mem_of_getElem? (i := 532) (by decide +kernel), List.mem_of_getElem? (i := 533) (by decide +kernel)⟩
theorem lw_p7 : lw_okq (⟨"FlagSignals", "neededFlag", "()I"⟩, 13) := ⟨⟨by decide +kernel, by decide +kernel⟩, List.mem_of_getElem? (i := 16) (by decide +kernel), List.mem_of_getElem? (i := 544) (by decide +kernel), List.mem_of_getElem? (i := 545) (by decide +kernel)⟩
theorem lw_p8 : lw_okq (⟨"FlagSignals", "betterFlag", "()I"⟩, 13) := ⟨⟨by decide +kernel, by decide +kernel⟩, List.mem_of_getElem? (i := 16) (by decide +kernel), List.mem_of_getElem? (i := 553) (by decide +kernel), List.mem_of_getElem? (i := 554) (by decide +kernel)⟩
theorem lw_p9 : lw_okq (⟨"FlagSignals", "countClearWith", "(III)I"⟩, 13) := ⟨⟨by decide +kernel, by decide +kernel⟩, List.mem_of_getElem? (i := 16) (by decide +kernel), List.mem_of_getElem? (i := 557) (by decide +kernel), List.mem_of_getElem? (i := 558) (by decide +kernel)⟩
theorem lw_p10 : lw_okq (⟨"FlagSignals", "possibleWeathers", "()I"⟩, 13) := ⟨⟨by decide +kernel, by decide +kernel⟩, List.mem_of_getElem? (i := 16) (by decide +kernel), List.mem_of_getElem? (i := 563) (by decide +kernel), List.mem_of_getElem? (i := 564) (by decide +kernel)⟩
theorem lw_p11 : lw_okq (⟨"FlagSignals", "askedSignal", "()I"⟩, 13) := ⟨⟨by decide +kernel, by decide +kernel⟩, List.mem_of_getElem? (i := 16) (by decide +kernel), List.mem_of_getElem? (i := 577) (by decide +kernel), List.mem_of_getElem? (i := 578) (by decide +kernel)⟩
theorem lw_p12 : lw_okq (⟨"FlagSignals", "fillLikes", "()V"⟩, 13) := ⟨⟨by decide +kernel, by decide +kernel⟩, List.mem_of_getElem? (i := 16) (by decide +kernel), List.mem_of_getElem? (i := 581) (by decide +kernel), List.mem_of_getElem? (i := 582) (by decide +kernel)⟩
theorem lw_p13 : lw_okq (⟨"FlagSignals", "greatestPart", "(II)I"⟩, 13) := ⟨⟨by decide +kernel, by decide +kernel⟩, List.mem_of_getElem? (i := 16) (by decide +kernel), List.mem_of_getElem? (i := 586) (by decide +kernel), List.mem_of_getElem? (i := 587) (by decide +kernel)⟩
theorem lw_p14 : lw_okq (⟨"FlagSignals", "canHoist", "(II)Z"⟩, 13) := ⟨⟨by decide +kernel, by decide +kernel⟩, List.mem_of_getElem? (i := 16) (by decide +kernel), List.mem_of_getElem? (i := 629) (by decide +kernel), List.mem_of_getElem? (i := 630) (by decide +kernel)⟩
theorem lw_p15 : lw_okq (⟨"FlagSignals", "refusedDays", "(I)I"⟩, 13) := ⟨⟨by decide +kernel, by decide +kernel⟩, List.mem_of_getElem? (i := 16) (by decide +kernel), List.mem_of_getElem? (i := 661) (by decide +kernel), List.mem_of_getElem? (i := 662) (by decide +kernel)⟩
def lw_privs_1 : List (MethodName × Nat) := [(⟨"FlagSignals", "readySignals", "()I"⟩, 13), (⟨"FlagSignals", "clearNow", "()I"⟩, 13), (⟨"FlagSignals", "watchIn", "(I)V"⟩, 13), (⟨"FlagSignals", "clearest", "()I"⟩, 13), (⟨"FlagSignals", "mostTogether", "()I"⟩, 13), (⟨"FlagSignals", "groupWithin", "(I)V"⟩, 13), (⟨"FlagSignals", "flyTogether", "(I)Z"⟩, 13), (⟨"FlagSignals", "neededFlag", "()I"⟩, 13), (⟨"FlagSignals", "betterFlag", "()I"⟩, 13), (⟨"FlagSignals", "countClearWith", "(III)I"⟩, 13), (⟨"FlagSignals", "possibleWeathers", "()I"⟩, 13), (⟨"FlagSignals", "askedSignal", "()I"⟩, 13), (⟨"FlagSignals", "fillLikes", "()V"⟩, 13), (⟨"FlagSignals", "greatestPart", "(II)I"⟩, 13), (⟨"FlagSignals", "canHoist", "(II)Z"⟩, 13), (⟨"FlagSignals", "refusedDays", "(I)I"⟩, 13)]
theorem lw_r1 : ∀ q ∈ lw_privs_1, lw_okq q := List.forall_mem_cons.mpr ⟨lw_p0, List.forall_mem_cons.mpr ⟨lw_p1, List.forall_mem_cons.mpr ⟨lw_p2, List.forall_mem_cons.mpr ⟨lw_p3, List.forall_mem_cons.mpr ⟨lw_p4, List.forall_mem_cons.mpr ⟨lw_p5, List.forall_mem_cons.mpr ⟨lw_p6, List.forall_mem_cons.mpr ⟨lw_p7, List.forall_mem_cons.mpr ⟨lw_p8, List.forall_mem_cons.mpr ⟨lw_p9, List.forall_mem_cons.mpr ⟨lw_p10, List.forall_mem_cons.mpr ⟨lw_p11, List.forall_mem_cons.mpr ⟨lw_p12, List.forall_mem_cons.mpr ⟨lw_p13, List.forall_mem_cons.mpr ⟨lw_p14, List.forall_mem_cons.mpr ⟨lw_p15, fun _ h => absurd h List.not_mem_nil⟩⟩⟩⟩⟩⟩⟩⟩⟩⟩⟩⟩⟩⟩⟩⟩
theorem lw_p16 : lw_okq (⟨"FlagSignals", "actByDraws", "()V"⟩, 13) := ⟨⟨by decide +kernel, by decide +kernel⟩, List.mem_of_getElem? (i := 16) (by decide +kernel), List.mem_of_getElem? (i := 695) (by decide +kernel), List.mem_of_getElem? (i := 696) (by decide +kernel)⟩
theorem lw_p17 : lw_okq (⟨"FlagSignals", "draw", "(I)I"⟩, 13) := ⟨⟨by decide +kernel, by decide +kernel⟩, List.mem_of_getElem? (i := 16) (by decide +kernel), List.mem_of_getElem? (i := 699) (by decide +kernel), List.mem_of_getElem? (i := 700) (by decide +kernel)⟩
theorem lw_p18 : lw_okq (⟨"FlagSignals", "hoistDrawn", "(I)V"⟩, 13) := ⟨⟨by decide +kernel, by decide +kernel⟩, List.mem_of_getElem? (i := 16) (by decide +kernel), List.mem_of_getElem? (i := 707) (by decide +kernel), List.mem_of_getElem? (i := 708) (by decide +kernel)⟩
theorem lw_p19 : lw_okq (⟨"FlagSignals", "sewDrawn", "()V"⟩, 13) := ⟨⟨by decide +kernel, by decide +kernel⟩, List.mem_of_getElem? (i := 16) (by decide +kernel), List.mem_of_getElem? (i := 711) (by decide +kernel), List.mem_of_getElem? (i := 712) (by decide +kernel)⟩
theorem lw_p20 : lw_okq (⟨"FlagSignalsModel", "here", "()I"⟩, 37) := ⟨⟨by decide +kernel, by decide +kernel⟩, List.mem_of_getElem? (i := 802) (by decide +kernel), List.mem_of_getElem? (i := 934) (by decide +kernel), List.mem_of_getElem? (i := 935) (by decide +kernel)⟩
theorem lw_p21 : lw_okq (⟨"FlagSignalsModel", "takeClause", "()I"⟩, 37) := ⟨⟨by decide +kernel, by decide +kernel⟩, List.mem_of_getElem? (i := 802) (by decide +kernel), List.mem_of_getElem? (i := 938) (by decide +kernel), List.mem_of_getElem? (i := 939) (by decide +kernel)⟩
theorem lw_p22 : lw_okq (⟨"FlagSignalsModel", "fails", "(II)I"⟩, 37) := ⟨⟨by decide +kernel, by decide +kernel⟩, List.mem_of_getElem? (i := 802) (by decide +kernel), List.mem_of_getElem? (i := 942) (by decide +kernel), List.mem_of_getElem? (i := 943) (by decide +kernel)⟩
theorem lw_p23 : lw_okq (⟨"FlagSignalsModel", "takeLines", "()I"⟩, 37) := ⟨⟨by decide +kernel, by decide +kernel⟩, List.mem_of_getElem? (i := 802) (by decide +kernel), List.mem_of_getElem? (i := 946) (by decide +kernel), List.mem_of_getElem? (i := 947) (by decide +kernel)⟩
theorem lw_p24 : lw_okq (⟨"FlagSignalsModel", "takeNumber", "(II)I"⟩, 37) := ⟨⟨by decide +kernel, by decide +kernel⟩, List.mem_of_getElem? (i := 802) (by decide +kernel), List.mem_of_getElem? (i := 950) (by decide +kernel), List.mem_of_getElem? (i := 951) (by decide +kernel)⟩
theorem lw_p25 : lw_okq (⟨"FlagSignalsModel", "takeFlag", "()I"⟩, 37) := ⟨⟨by decide +kernel, by decide +kernel⟩, List.mem_of_getElem? (i := 802) (by decide +kernel), List.mem_of_getElem? (i := 956) (by decide +kernel), List.mem_of_getElem? (i := 957) (by decide +kernel)⟩
theorem lw_p26 : lw_okq (⟨"FlagSignalsModel", "takeSignal", "()I"⟩, 37) := ⟨⟨by decide +kernel, by decide +kernel⟩, List.mem_of_getElem? (i := 802) (by decide +kernel), List.mem_of_getElem? (i := 960) (by decide +kernel), List.mem_of_getElem? (i := 961) (by decide +kernel)⟩
theorem lw_p27 : lw_okq (⟨"FlagSignalsModel", "beginAll", "()V"⟩, 37) := ⟨⟨by decide +kernel, by decide +kernel⟩, List.mem_of_getElem? (i := 802) (by decide +kernel), List.mem_of_getElem? (i := 967) (by decide +kernel), List.mem_of_getElem? (i := 968) (by decide +kernel)⟩
theorem lw_p28 : lw_okq (⟨"FlagSignalsModel", "areSignals", "(I)Z"⟩, 37) := ⟨⟨by decide +kernel, by decide +kernel⟩, List.mem_of_getElem? (i := 802) (by decide +kernel), List.mem_of_getElem? (i := 982) (by decide +kernel), List.mem_of_getElem? (i := 983) (by decide +kernel)⟩
theorem lw_p29 : lw_okq (⟨"FlagSignalsModel", "fly", "(I)Z"⟩, 37) := ⟨⟨by decide +kernel, by decide +kernel⟩, List.mem_of_getElem? (i := 802) (by decide +kernel), List.mem_of_getElem? (i := 987) (by decide +kernel), List.mem_of_getElem? (i := 988) (by decide +kernel)⟩
theorem lw_p30 : lw_okq (⟨"FlagSignalsModel", "tornFlags", "()I"⟩, 37) := ⟨⟨by decide +kernel, by decide +kernel⟩, List.mem_of_getElem? (i := 802) (by decide +kernel), List.mem_of_getElem? (i := 991) (by decide +kernel), List.mem_of_getElem? (i := 992) (by decide +kernel)⟩
theorem lw_p31 : lw_okq (⟨"FlagSignalsModel", "allSubs", "()I"⟩, 37) := ⟨⟨by decide +kernel, by decide +kernel⟩, List.mem_of_getElem? (i := 802) (by decide +kernel), List.mem_of_getElem? (i := 995) (by decide +kernel), List.mem_of_getElem? (i := 996) (by decide +kernel)⟩
def lw_privs_2 : List (MethodName × Nat) := [(⟨"FlagSignals", "actByDraws", "()V"⟩, 13), (⟨"FlagSignals", "draw", "(I)I"⟩, 13), (⟨"FlagSignals", "hoistDrawn", "(I)V"⟩, 13), (⟨"FlagSignals", "sewDrawn", "()V"⟩, 13), (⟨"FlagSignalsModel", "here", "()I"⟩, 37), (⟨"FlagSignalsModel", "takeClause", "()I"⟩, 37), (⟨"FlagSignalsModel", "fails", "(II)I"⟩, 37), (⟨"FlagSignalsModel", "takeLines", "()I"⟩, 37), (⟨"FlagSignalsModel", "takeNumber", "(II)I"⟩, 37), (⟨"FlagSignalsModel", "takeFlag", "()I"⟩, 37), (⟨"FlagSignalsModel", "takeSignal", "()I"⟩, 37), (⟨"FlagSignalsModel", "beginAll", "()V"⟩, 37), (⟨"FlagSignalsModel", "areSignals", "(I)Z"⟩, 37), (⟨"FlagSignalsModel", "fly", "(I)Z"⟩, 37), (⟨"FlagSignalsModel", "tornFlags", "()I"⟩, 37), (⟨"FlagSignalsModel", "allSubs", "()I"⟩, 37)]
theorem lw_r2 : ∀ q ∈ lw_privs_2, lw_okq q := List.forall_mem_cons.mpr ⟨lw_p16, List.forall_mem_cons.mpr ⟨lw_p17, List.forall_mem_cons.mpr ⟨lw_p18, List.forall_mem_cons.mpr ⟨lw_p19, List.forall_mem_cons.mpr ⟨lw_p20, List.forall_mem_cons.mpr ⟨lw_p21, List.forall_mem_cons.mpr ⟨lw_p22, List.forall_mem_cons.mpr ⟨lw_p23, List.forall_mem_cons.mpr ⟨lw_p24, List.forall_mem_cons.mpr ⟨lw_p25, List.forall_mem_cons.mpr ⟨lw_p26, List.forall_mem_cons.mpr ⟨lw_p27, List.forall_mem_cons.mpr ⟨lw_p28, List.forall_mem_cons.mpr ⟨lw_p29, List.forall_mem_cons.mpr ⟨lw_p30, List.forall_mem_cons.mpr ⟨lw_p31, fun _ h => absurd h List.not_mem_nil⟩⟩⟩⟩⟩⟩⟩⟩⟩⟩⟩⟩⟩⟩⟩⟩
theorem lw_p32 : lw_okq (⟨"FlagSignalsModel", "goesUp", "(III)Z"⟩, 37) := ⟨⟨by decide +kernel, by decide +kernel⟩, List.mem_of_getElem? (i := 802) (by decide +kernel), List.mem_of_getElem? (i := 1005) (by decide +kernel), List.mem_of_getElem? (i := 1006) (by decide +kernel)⟩
theorem lw_p33 : lw_okq (⟨"FlagSignalsModel", "itemFor", "(IIII)I"⟩, 37) := ⟨⟨by decide +kernel, by decide +kernel⟩, List.mem_of_getElem? (i := 802) (by decide +kernel), List.mem_of_getElem? (i := 1009) (by decide +kernel), List.mem_of_getElem? (i := 1010) (by decide +kernel)⟩
theorem lw_p34 : lw_okq (⟨"FlagSignalsModel", "isUsed", "(II)Z"⟩, 37) := ⟨⟨by decide +kernel, by decide +kernel⟩, List.mem_of_getElem? (i := 802) (by decide +kernel), List.mem_of_getElem? (i := 1013) (by decide +kernel), List.mem_of_getElem? (i := 1014) (by decide +kernel)⟩
theorem lw_p35 : lw_okq (⟨"FlagSignalsModel", "rowFlags", "()I"⟩, 37) := ⟨⟨by decide +kernel, by decide +kernel⟩, List.mem_of_getElem? (i := 802) (by decide +kernel), List.mem_of_getElem? (i := 1017) (by decide +kernel), List.mem_of_getElem? (i := 1018) (by decide +kernel)⟩
theorem lw_p36 : lw_okq (⟨"FlagSignalsModel", "rowSubs", "()I"⟩, 37) := ⟨⟨by decide +kernel, by decide +kernel⟩, List.mem_of_getElem? (i := 802) (by decide +kernel), List.mem_of_getElem? (i := 1021) (by decide +kernel), List.mem_of_getElem? (i := 1022) (by decide +kernel)⟩
theorem lw_p37 : lw_okq (⟨"FlagSignalsModel", "findTurns", "(I)V"⟩, 37) := ⟨⟨by decide +kernel, by decide +kernel⟩, List.mem_of_getElem? (i := 802) (by decide +kernel), List.mem_of_getElem? (i := 1029) (by decide +kernel), List.mem_of_getElem? (i := 1030) (by decide +kernel)⟩
theorem lw_p38 : lw_okq (⟨"FlagSignalsModel", "freeFlags", "()I"⟩, 37) := ⟨⟨by decide +kernel, by decide +kernel⟩, List.mem_of_getElem? (i := 802) (by decide +kernel), List.mem_of_getElem? (i := 1038) (by decide +kernel), List.mem_of_getElem? (i := 1039) (by decide +kernel)⟩
theorem lw_p39 : lw_okq (⟨"FlagSignalsModel", "canGoUp", "()I"⟩, 37) := ⟨⟨by decide +kernel, by decide +kernel⟩, List.mem_of_getElem? (i := 802) (by decide +kernel), List.mem_of_getElem? (i := 1042) (by decide +kernel), List.mem_of_getElem? (i := 1043) (by decide +kernel)⟩
theorem lw_p40 : lw_okq (⟨"FlagSignalsModel", "freeSubs", "()I"⟩, 37) := ⟨⟨by decide +kernel, by decide +kernel⟩, List.mem_of_getElem? (i := 802) (by decide +kernel), List.mem_of_getElem? (i := 1046) (by decide +kernel), List.mem_of_getElem? (i := 1047) (by decide +kernel)⟩
theorem lw_p41 : lw_okq (⟨"FlagSignalsModel", "clearNow", "()I"⟩, 37) := ⟨⟨by decide +kernel, by decide +kernel⟩, List.mem_of_getElem? (i := 802) (by decide +kernel), List.mem_of_getElem? (i := 1050) (by decide +kernel), List.mem_of_getElem? (i := 1051) (by decide +kernel)⟩
theorem lw_p42 : lw_okq (⟨"FlagSignalsModel", "clearIn", "(II)I"⟩, 37) := ⟨⟨by decide +kernel, by decide +kernel⟩, List.mem_of_getElem? (i := 802) (by decide +kernel), List.mem_of_getElem? (i := 1054) (by decide +kernel), List.mem_of_getElem? (i := 1055) (by decide +kernel)⟩
theorem lw_p43 : lw_okq (⟨"FlagSignalsModel", "layLooks", "(II)V"⟩, 37) := ⟨⟨by decide +kernel, by decide +kernel⟩, List.mem_of_getElem? (i := 802) (by decide +kernel), List.mem_of_getElem? (i := 1058) (by decide +kernel), List.mem_of_getElem? (i := 1059) (by decide +kernel)⟩
theorem lw_p44 : lw_okq (⟨"FlagSignalsModel", "likeOf", "(I)I"⟩, 37) := ⟨⟨by decide +kernel, by decide +kernel⟩, List.mem_of_getElem? (i := 802) (by decide +kernel), List.mem_of_getElem? (i := 1068) (by decide +kernel), List.mem_of_getElem? (i := 1069) (by decide +kernel)⟩
theorem lw_p45 : lw_okq (⟨"FlagSignalsModel", "isLike", "(II)Z"⟩, 37) := ⟨⟨by decide +kernel, by decide +kernel⟩, List.mem_of_getElem? (i := 802) (by decide +kernel), List.mem_of_getElem? (i := 1072) (by decide +kernel), List.mem_of_getElem? (i := 1073) (by decide +kernel)⟩
theorem lw_p46 : lw_okq (⟨"FlagSignalsModel", "clearest", "()I"⟩, 37) := ⟨⟨by decide +kernel, by decide +kernel⟩, List.mem_of_getElem? (i := 802) (by decide +kernel), List.mem_of_getElem? (i := 1076) (by decide +kernel), List.mem_of_getElem? (i := 1077) (by decide +kernel)⟩
theorem lw_p47 : lw_okq (⟨"FlagSignalsModel", "mostTogether", "()I"⟩, 37) := ⟨⟨by decide +kernel, by decide +kernel⟩, List.mem_of_getElem? (i := 802) (by decide +kernel), List.mem_of_getElem? (i := 1080) (by decide +kernel), List.mem_of_getElem? (i := 1081) (by decide +kernel)⟩
def lw_privs_3 : List (MethodName × Nat) := [(⟨"FlagSignalsModel", "goesUp", "(III)Z"⟩, 37), (⟨"FlagSignalsModel", "itemFor", "(IIII)I"⟩, 37), (⟨"FlagSignalsModel", "isUsed", "(II)Z"⟩, 37), (⟨"FlagSignalsModel", "rowFlags", "()I"⟩, 37), (⟨"FlagSignalsModel", "rowSubs", "()I"⟩, 37), (⟨"FlagSignalsModel", "findTurns", "(I)V"⟩, 37), (⟨"FlagSignalsModel", "freeFlags", "()I"⟩, 37), (⟨"FlagSignalsModel", "canGoUp", "()I"⟩, 37), (⟨"FlagSignalsModel", "freeSubs", "()I"⟩, 37), (⟨"FlagSignalsModel", "clearNow", "()I"⟩, 37), (⟨"FlagSignalsModel", "clearIn", "(II)I"⟩, 37), (⟨"FlagSignalsModel", "layLooks", "(II)V"⟩, 37), (⟨"FlagSignalsModel", "likeOf", "(I)I"⟩, 37), (⟨"FlagSignalsModel", "isLike", "(II)Z"⟩, 37), (⟨"FlagSignalsModel", "clearest", "()I"⟩, 37), (⟨"FlagSignalsModel", "mostTogether", "()I"⟩, 37)]
theorem lw_r3 : ∀ q ∈ lw_privs_3, lw_okq q := List.forall_mem_cons.mpr ⟨lw_p32, List.forall_mem_cons.mpr ⟨lw_p33, List.forall_mem_cons.mpr ⟨lw_p34, List.forall_mem_cons.mpr ⟨lw_p35, List.forall_mem_cons.mpr ⟨lw_p36, List.forall_mem_cons.mpr ⟨lw_p37, List.forall_mem_cons.mpr ⟨lw_p38, List.forall_mem_cons.mpr ⟨lw_p39, List.forall_mem_cons.mpr ⟨lw_p40, List.forall_mem_cons.mpr ⟨lw_p41, List.forall_mem_cons.mpr ⟨lw_p42, List.forall_mem_cons.mpr ⟨lw_p43, List.forall_mem_cons.mpr ⟨lw_p44, List.forall_mem_cons.mpr ⟨lw_p45, List.forall_mem_cons.mpr ⟨lw_p46, List.forall_mem_cons.mpr ⟨lw_p47, fun _ h => absurd h List.not_mem_nil⟩⟩⟩⟩⟩⟩⟩⟩⟩⟩⟩⟩⟩⟩⟩⟩
theorem lw_p48 : lw_okq (⟨"FlagSignalsModel", "needed", "()I"⟩, 37) := ⟨⟨by decide +kernel, by decide +kernel⟩, List.mem_of_getElem? (i := 802) (by decide +kernel), List.mem_of_getElem? (i := 1084) (by decide +kernel), List.mem_of_getElem? (i := 1085) (by decide +kernel)⟩
theorem lw_p49 : lw_okq (⟨"FlagSignalsModel", "isToldIn", "(II)Z"⟩, 37) := ⟨⟨by decide +kernel, by decide +kernel⟩, List.mem_of_getElem? (i := 802) (by decide +kernel), List.mem_of_getElem? (i := 1088) (by decide +kernel), List.mem_of_getElem? (i := 1089) (by decide +kernel)⟩
theorem lw_p50 : lw_okq (⟨"FlagSignalsModel", "better", "()I"⟩, 37) := ⟨⟨by decide +kernel, by decide +kernel⟩, List.mem_of_getElem? (i := 802) (by decide +kernel), List.mem_of_getElem? (i := 1092) (by decide +kernel), List.mem_of_getElem? (i := 1093) (by decide +kernel)⟩
theorem lw_p51 : lw_okq (⟨"FlagSignalsModel", "weathers", "()I"⟩, 37) := ⟨⟨by decide +kernel, by decide +kernel⟩, List.mem_of_getElem? (i := 802) (by decide +kernel), List.mem_of_getElem? (i := 1096) (by decide +kernel), List.mem_of_getElem? (i := 1097) (by decide +kernel)⟩
theorem lw_p52 : lw_okq (⟨"FlagSignalsModel", "askNext", "()I"⟩, 37) := ⟨⟨by decide +kernel, by decide +kernel⟩, List.mem_of_getElem? (i := 802) (by decide +kernel), List.mem_of_getElem? (i := 1100) (by decide +kernel), List.mem_of_getElem? (i := 1101) (by decide +kernel)⟩
theorem lw_p53 : lw_okq (⟨"FlagSignalsModel", "layLikes", "()V"⟩, 37) := ⟨⟨by decide +kernel, by decide +kernel⟩, List.mem_of_getElem? (i := 802) (by decide +kernel), List.mem_of_getElem? (i := 1104) (by decide +kernel), List.mem_of_getElem? (i := 1105) (by decide +kernel)⟩
theorem lw_p54 : lw_okq (⟨"FlagSignalsModel", "greatestPart", "(II)I"⟩, 37) := ⟨⟨by decide +kernel, by decide +kernel⟩, List.mem_of_getElem? (i := 802) (by decide +kernel), List.mem_of_getElem? (i := 1108) (by decide +kernel), List.mem_of_getElem? (i := 1109) (by decide +kernel)⟩
theorem lw_p55 : lw_okq (⟨"FlagSignalsModel", "isFlag", "(I)Z"⟩, 37) := ⟨⟨by decide +kernel, by decide +kernel⟩, List.mem_of_getElem? (i := 802) (by decide +kernel), List.mem_of_getElem? (i := 1116) (by decide +kernel), List.mem_of_getElem? (i := 1117) (by decide +kernel)⟩
theorem lw_p56 : lw_okq (⟨"FlagSignalsModel", "isSignal", "(I)Z"⟩, 37) := ⟨⟨by decide +kernel, by decide +kernel⟩, List.mem_of_getElem? (i := 802) (by decide +kernel), List.mem_of_getElem? (i := 1124) (by decide +kernel), List.mem_of_getElem? (i := 1125) (by decide +kernel)⟩
theorem lw_p57 : lw_okq (⟨"FlagSignalsModel", "likeNow", "(I)I"⟩, 37) := ⟨⟨by decide +kernel, by decide +kernel⟩, List.mem_of_getElem? (i := 802) (by decide +kernel), List.mem_of_getElem? (i := 1130) (by decide +kernel), List.mem_of_getElem? (i := 1131) (by decide +kernel)⟩
theorem lw_p58 : lw_okq (⟨"FlagSignalsModel", "lineOf", "(I)I"⟩, 37) := ⟨⟨by decide +kernel, by decide +kernel⟩, List.mem_of_getElem? (i := 802) (by decide +kernel), List.mem_of_getElem? (i := 1134) (by decide +kernel), List.mem_of_getElem? (i := 1135) (by decide +kernel)⟩
theorem lw_p59 : lw_okq (⟨"FlagSignalsModel", "isLine", "(I)Z"⟩, 37) := ⟨⟨by decide +kernel, by decide +kernel⟩, List.mem_of_getElem? (i := 802) (by decide +kernel), List.mem_of_getElem? (i := 1142) (by decide +kernel), List.mem_of_getElem? (i := 1143) (by decide +kernel)⟩
theorem lw_p60 : lw_okq (⟨"FlagSignalsModel", "canHoist", "(II)Z"⟩, 37) := ⟨⟨by decide +kernel, by decide +kernel⟩, List.mem_of_getElem? (i := 802) (by decide +kernel), List.mem_of_getElem? (i := 1154) (by decide +kernel), List.mem_of_getElem? (i := 1155) (by decide +kernel)⟩
theorem lw_p61 : lw_okq (⟨"FlagSignalsModel", "remember", "()V"⟩, 37) := ⟨⟨by decide +kernel, by decide +kernel⟩, List.mem_of_getElem? (i := 802) (by decide +kernel), List.mem_of_getElem? (i := 1159) (by decide +kernel), List.mem_of_getElem? (i := 1160) (by decide +kernel)⟩
theorem lw_p62 : lw_okq (⟨"FlagSignalsModel", "hoistRow", "(II)I"⟩, 37) := ⟨⟨by decide +kernel, by decide +kernel⟩, List.mem_of_getElem? (i := 802) (by decide +kernel), List.mem_of_getElem? (i := 1163) (by decide +kernel), List.mem_of_getElem? (i := 1164) (by decide +kernel)⟩
theorem lw_p63 : lw_okq (⟨"FlagSignalsModel", "haulNow", "(I)I"⟩, 37) := ⟨⟨by decide +kernel, by decide +kernel⟩, List.mem_of_getElem? (i := 802) (by decide +kernel), List.mem_of_getElem? (i := 1171) (by decide +kernel), List.mem_of_getElem? (i := 1172) (by decide +kernel)⟩
def lw_privs_4 : List (MethodName × Nat) := [(⟨"FlagSignalsModel", "needed", "()I"⟩, 37), (⟨"FlagSignalsModel", "isToldIn", "(II)Z"⟩, 37), (⟨"FlagSignalsModel", "better", "()I"⟩, 37), (⟨"FlagSignalsModel", "weathers", "()I"⟩, 37), (⟨"FlagSignalsModel", "askNext", "()I"⟩, 37), (⟨"FlagSignalsModel", "layLikes", "()V"⟩, 37), (⟨"FlagSignalsModel", "greatestPart", "(II)I"⟩, 37), (⟨"FlagSignalsModel", "isFlag", "(I)Z"⟩, 37), (⟨"FlagSignalsModel", "isSignal", "(I)Z"⟩, 37), (⟨"FlagSignalsModel", "likeNow", "(I)I"⟩, 37), (⟨"FlagSignalsModel", "lineOf", "(I)I"⟩, 37), (⟨"FlagSignalsModel", "isLine", "(I)Z"⟩, 37), (⟨"FlagSignalsModel", "canHoist", "(II)Z"⟩, 37), (⟨"FlagSignalsModel", "remember", "()V"⟩, 37), (⟨"FlagSignalsModel", "hoistRow", "(II)I"⟩, 37), (⟨"FlagSignalsModel", "haulNow", "(I)I"⟩, 37)]
theorem lw_r4 : ∀ q ∈ lw_privs_4, lw_okq q := List.forall_mem_cons.mpr ⟨lw_p48, List.forall_mem_cons.mpr ⟨lw_p49, List.forall_mem_cons.mpr ⟨lw_p50, List.forall_mem_cons.mpr ⟨lw_p51, List.forall_mem_cons.mpr ⟨lw_p52, List.forall_mem_cons.mpr ⟨lw_p53, List.forall_mem_cons.mpr ⟨lw_p54, List.forall_mem_cons.mpr ⟨lw_p55, List.forall_mem_cons.mpr ⟨lw_p56, List.forall_mem_cons.mpr ⟨lw_p57, List.forall_mem_cons.mpr ⟨lw_p58, List.forall_mem_cons.mpr ⟨lw_p59, List.forall_mem_cons.mpr ⟨lw_p60, List.forall_mem_cons.mpr ⟨lw_p61, List.forall_mem_cons.mpr ⟨lw_p62, List.forall_mem_cons.mpr ⟨lw_p63, fun _ h => absurd h List.not_mem_nil⟩⟩⟩⟩⟩⟩⟩⟩⟩⟩⟩⟩⟩⟩⟩⟩
theorem lw_p64 : lw_okq (⟨"FlagSignalsModel", "daysRefused", "(I)I"⟩, 37) := ⟨⟨by decide +kernel, by decide +kernel⟩, List.mem_of_getElem? (i := 802) (by decide +kernel), List.mem_of_getElem? (i := 1179) (by decide +kernel), List.mem_of_getElem? (i := 1180) (by decide +kernel)⟩
theorem lw_p65 : lw_okq (⟨"FlagSignalsModel", "pass", "()V"⟩, 37) := ⟨⟨by decide +kernel, by decide +kernel⟩, List.mem_of_getElem? (i := 802) (by decide +kernel), List.mem_of_getElem? (i := 1184) (by decide +kernel), List.mem_of_getElem? (i := 1185) (by decide +kernel)⟩
theorem lw_p66 : lw_okq (⟨"FlagSignalsModel", "canSew", "(I)Z"⟩, 37) := ⟨⟨by decide +kernel, by decide +kernel⟩, List.mem_of_getElem? (i := 802) (by decide +kernel), List.mem_of_getElem? (i := 1192) (by decide +kernel), List.mem_of_getElem? (i := 1193) (by decide +kernel)⟩
theorem lw_p67 : lw_okq (⟨"FlagSignalsModel", "sewNow", "(I)V"⟩, 37) := ⟨⟨by decide +kernel, by decide +kernel⟩, List.mem_of_getElem? (i := 802) (by decide +kernel), List.mem_of_getElem? (i := 1196) (by decide +kernel), List.mem_of_getElem? (i := 1197) (by decide +kernel)⟩
theorem lw_p68 : lw_okq (⟨"FlagSignalsModel", "chance", "()V"⟩, 37) := ⟨⟨by decide +kernel, by decide +kernel⟩, List.mem_of_getElem? (i := 802) (by decide +kernel), List.mem_of_getElem? (i := 1214) (by decide +kernel), List.mem_of_getElem? (i := 1215) (by decide +kernel)⟩
theorem lw_p69 : lw_okq (⟨"FlagSignalsModel", "draw", "(I)I"⟩, 37) := ⟨⟨by decide +kernel, by decide +kernel⟩, List.mem_of_getElem? (i := 802) (by decide +kernel), List.mem_of_getElem? (i := 1218) (by decide +kernel), List.mem_of_getElem? (i := 1219) (by decide +kernel)⟩
theorem lw_p70 : lw_okq (⟨"FlagSignalsModel", "chanceHoist", "(I)V"⟩, 37) := ⟨⟨by decide +kernel, by decide +kernel⟩, List.mem_of_getElem? (i := 802) (by decide +kernel), List.mem_of_getElem? (i := 1226) (by decide +kernel), List.mem_of_getElem? (i := 1227) (by decide +kernel)⟩
theorem lw_p71 : lw_okq (⟨"FlagSignalsModel", "chanceSew", "()V"⟩, 37) := ⟨⟨by decide +kernel, by decide +kernel⟩, List.mem_of_getElem? (i := 802) (by decide +kernel), List.mem_of_getElem? (i := 1230) (by decide +kernel), List.mem_of_getElem? (i := 1231) (by decide +kernel)⟩
def lw_privs_5 : List (MethodName × Nat) := [(⟨"FlagSignalsModel", "daysRefused", "(I)I"⟩, 37), (⟨"FlagSignalsModel", "pass", "()V"⟩, 37), (⟨"FlagSignalsModel", "canSew", "(I)Z"⟩, 37), (⟨"FlagSignalsModel", "sewNow", "(I)V"⟩, 37), (⟨"FlagSignalsModel", "chance", "()V"⟩, 37), (⟨"FlagSignalsModel", "draw", "(I)I"⟩, 37), (⟨"FlagSignalsModel", "chanceHoist", "(I)V"⟩, 37), (⟨"FlagSignalsModel", "chanceSew", "()V"⟩, 37)]
theorem lw_r5 : ∀ q ∈ lw_privs_5, lw_okq q := List.forall_mem_cons.mpr ⟨lw_p64, List.forall_mem_cons.mpr ⟨lw_p65, List.forall_mem_cons.mpr ⟨lw_p66, List.forall_mem_cons.mpr ⟨lw_p67, List.forall_mem_cons.mpr ⟨lw_p68, List.forall_mem_cons.mpr ⟨lw_p69, List.forall_mem_cons.mpr ⟨lw_p70, List.forall_mem_cons.mpr ⟨lw_p71, fun _ h => absurd h List.not_mem_nil⟩⟩⟩⟩⟩⟩⟩⟩
def lw_privs : List (MethodName × Nat) := lw_privs_1 ++ (lw_privs_2 ++ (lw_privs_3 ++ (lw_privs_4 ++ (lw_privs_5))))
def lw_tbl : List Cond := k2_sels lw_privs ++ tables_1
theorem lw_privs_ok : ∀ q ∈ lw_privs, lw_okq q := by
  show ∀ q ∈ lw_privs_1 ++ (lw_privs_2 ++ (lw_privs_3 ++ (lw_privs_4 ++ (lw_privs_5)))), lw_okq q
  exact List.forall_mem_append.mpr ⟨lw_r1, List.forall_mem_append.mpr ⟨lw_r2, List.forall_mem_append.mpr ⟨lw_r3, List.forall_mem_append.mpr ⟨lw_r4, lw_r5⟩⟩⟩⟩
-- names (printed)
def RX0 : String := "FlagSignals$Deck"
def TX0 : u_T := fun k => match k with
  | 0 => ("FlagSignals$Deck", "kinds", "[I", true)
  | 1 => ("FlagSignals$Deck", "fores", "[I", true)
  | 2 => ("FlagSignals$Deck", "backs", "[I", true)
  | 3 => ("FlagSignals$Deck", "wear", "[I", true)
  | 4 => ("FlagSignals$Deck", "where", "[I", true)
  | 5 => ("FlagSignals$Deck", "flown", "[I", true)
  | 6 => ("FlagSignals$Deck", "places", "[I", true)
  | 7 => ("FlagSignals$Deck", "torn", "I", false)
  | 8 => ("FlagSignals$Deck", "substitutesUp", "I", false)
  | 9 => ("FlagSignals$Deck", "days", "I", false)
  | 10 => ("FlagSignals$Deck", "haze", "I", false)
  | _ => ("FlagSignals$Deck", "wind", "I", false)
def tyX0 : Nat → FieldType := fun k => match k with
  | 0 => .array .int
  | 1 => .array .int
  | 2 => .array .int
  | 3 => .array .int
  | 4 => .array .int
  | 5 => .array .int
  | 6 => .array .int
  | 7 => .int
  | 8 => .int
  | 9 => .int
  | 10 => .int
  | _ => .int
abbrev wsX00 : List Cond := u_ws RX0 TX0 12
theorem nmX0 : ∀ a, a < 12 → ∀ b, b < 12 → a ≠ b → (TX0 a).2.1 ≠ (TX0 b).2.1 := by decide +kernel
theorem tyX0_ok : ∀ k, k < 12 → parseFieldDescriptor (TX0 k).2.2.1 = some (tyX0 k) := by decide +kernel
abbrev cX0_init : ByteArray := prog_2_method_1_code
def yX0_init : MethodName := ⟨RX0, "<init>", "()V"⟩
abbrev cX0_rig : ByteArray := prog_2_method_2_code
def yX0_rig : MethodName := ⟨RX0, "rig", "(LFlagSignals$Ship;)V"⟩
abbrev cX0_become : ByteArray := prog_2_method_3_code
def yX0_become : MethodName := ⟨RX0, "become", "(LFlagSignals$Deck;)V"⟩
abbrev cX0_weatherNumber : ByteArray := prog_2_method_4_code
def yX0_weatherNumber : MethodName := ⟨RX0, "weatherNumber", "()I"⟩
abbrev cX0_freeFlags : ByteArray := prog_2_method_5_code
def yX0_freeFlags : MethodName := ⟨RX0, "freeFlags", "(LFlagSignals$Ship;)I"⟩
abbrev cX0_freeSubstitutes : ByteArray := prog_2_method_6_code
def yX0_freeSubstitutes : MethodName := ⟨RX0, "freeSubstitutes", "(LFlagSignals$Ship;)I"⟩
abbrev cX0_lookIn : ByteArray := prog_2_method_7_code
def yX0_lookIn : MethodName := ⟨RX0, "lookIn", "(III)I"⟩
abbrev cX0_lineOf : ByteArray := prog_2_method_8_code
def yX0_lineOf : MethodName := ⟨RX0, "lineOf", "(I)I"⟩
abbrev cX0_canBeSewn : ByteArray := prog_2_method_9_code
def yX0_canBeSewn : MethodName := ⟨RX0, "canBeSewn", "(I)Z"⟩
abbrev cX0_mend : ByteArray := prog_2_method_10_code
def yX0_mend : MethodName := ⟨RX0, "mend", "(I)V"⟩
abbrev cX0_raise : ByteArray := prog_2_method_11_code
def yX0_raise : MethodName := ⟨RX0, "raise", "(II[I)I"⟩
abbrev cX0_lower : ByteArray := prog_2_method_12_code
def yX0_lower : MethodName := ⟨RX0, "lower", "(I)I"⟩
abbrev cX0_emptyLine : ByteArray := prog_2_method_13_code
def yX0_emptyLine : MethodName := ⟨RX0, "emptyLine", "(I)V"⟩
abbrev cX0_passDay : ByteArray := prog_2_method_14_code
def yX0_passDay : MethodName := ⟨RX0, "passDay", "(LFlagSignals$Ship;)V"⟩
def RX1 : String := "FlagSignals$Image"
def TX1 : u_T := fun k => match k with
  | 0 => ("FlagSignals$Image", "deck", "LFlagSignals$Deck;", true)
  | 1 => ("FlagSignals$Image", "seedThen", "I", false)
  | _ => ("FlagSignals$Image", "kept", "Z", false)
def tyX1 : Nat → FieldType := fun k => match k with
  | 0 => .object "FlagSignals$Deck"
  | 1 => .int
  | _ => .boolean
abbrev wsX10 : List Cond := u_ws RX1 TX1 3
theorem nmX1 : ∀ a, a < 3 → ∀ b, b < 3 → a ≠ b → (TX1 a).2.1 ≠ (TX1 b).2.1 := by decide +kernel
theorem tyX1_ok : ∀ k, k < 3 → parseFieldDescriptor (TX1 k).2.2.1 = some (tyX1 k) := by decide +kernel
abbrev cX1_init : ByteArray := prog_3_method_1_code
def yX1_init : MethodName := ⟨RX1, "<init>", "()V"⟩
def RX2 : String := "FlagSignals$Locker"
def TX2 : u_T := fun k => match k with
  | 0 => ("FlagSignals$Locker", "flags", "I", false)
  | 1 => ("FlagSignals$Locker", "substitutes", "I", false)
  | _ => ("FlagSignals$Locker", "row", "[I", true)
def tyX2 : Nat → FieldType := fun k => match k with
  | 0 => .int
  | 1 => .int
  | _ => .array .int
abbrev wsX20 : List Cond := u_ws RX2 TX2 3
theorem nmX2 : ∀ a, a < 3 → ∀ b, b < 3 → a ≠ b → (TX2 a).2.1 ≠ (TX2 b).2.1 := by decide +kernel
theorem tyX2_ok : ∀ k, k < 3 → parseFieldDescriptor (TX2 k).2.2.1 = some (tyX2 k) := by decide +kernel
abbrev cX2_init : ByteArray := prog_4_method_1_code
def yX2_init : MethodName := ⟨RX2, "<init>", "()V"⟩
abbrev cX2_open : ByteArray := prog_4_method_2_code
def yX2_open : MethodName := ⟨RX2, "open", "(II)V"⟩
abbrev cX2_take : ByteArray := prog_4_method_3_code
def yX2_take : MethodName := ⟨RX2, "take", "(LFlagSignals$Ship;I)Z"⟩
abbrev cX2_pieceFor : ByteArray := prog_4_method_4_code
def yX2_pieceFor : MethodName := ⟨RX2, "pieceFor", "(LFlagSignals$Ship;II)I"⟩
abbrev cX2_emptyRow : ByteArray := prog_4_method_5_code
def yX2_emptyRow : MethodName := ⟨RX2, "emptyRow", "()V"⟩
def RX3 : String := "FlagSignals$Log"
def TX3 : u_T := fun k => match k with
  | 0 => ("FlagSignals$Log", "sent", "[I", true)
  | 1 => ("FlagSignals$Log", "seen", "[I", true)
  | 2 => ("FlagSignals$Log", "entryLines", "[I", true)
  | 3 => ("FlagSignals$Log", "entrySignals", "[I", true)
  | 4 => ("FlagSignals$Log", "reads", "I", false)
  | _ => ("FlagSignals$Log", "entries", "I", false)
def tyX3 : Nat → FieldType := fun k => match k with
  | 0 => .array .int
  | 1 => .array .int
  | 2 => .array .int
  | 3 => .array .int
  | 4 => .int
  | _ => .int
abbrev wsX30 : List Cond := u_ws RX3 TX3 6
theorem nmX3 : ∀ a, a < 6 → ∀ b, b < 6 → a ≠ b → (TX3 a).2.1 ≠ (TX3 b).2.1 := by decide +kernel
theorem tyX3_ok : ∀ k, k < 6 → parseFieldDescriptor (TX3 k).2.2.1 = some (tyX3 k) := by decide +kernel
abbrev cX3_init : ByteArray := prog_5_method_1_code
def yX3_init : MethodName := ⟨RX3, "<init>", "()V"⟩
abbrev cX3_addRead : ByteArray := prog_5_method_2_code
def yX3_addRead : MethodName := ⟨RX3, "addRead", "(II)Z"⟩
abbrev cX3_addEntry : ByteArray := prog_5_method_3_code
def yX3_addEntry : MethodName := ⟨RX3, "addEntry", "(II)Z"⟩
abbrev cX3_wipe : ByteArray := prog_5_method_4_code
def yX3_wipe : MethodName := ⟨RX3, "wipe", "()V"⟩
abbrev cX3_fits : ByteArray := prog_5_method_5_code
def yX3_fits : MethodName := ⟨RX3, "fits", "(LFlagSignals$Ship;LFlagSignals$Watch;)Z"⟩
abbrev cX3_firstFalse : ByteArray := prog_5_method_6_code
def yX3_firstFalse : MethodName := ⟨RX3, "firstFalse", "(LFlagSignals$Deck;)I"⟩
def RX4 : String := "FlagSignals$Past"
def TX4 : u_T := fun k => match k with
  | 0 => ("FlagSignals$Past", "decks", "[LFlagSignals$Deck;", true)
  | 1 => ("FlagSignals$Past", "first", "I", false)
  | _ => ("FlagSignals$Past", "count", "I", false)
def tyX4 : Nat → FieldType := fun k => match k with
  | 0 => .array (.object "FlagSignals$Deck")
  | 1 => .int
  | _ => .int
abbrev wsX40 : List Cond := u_ws RX4 TX4 3
theorem nmX4 : ∀ a, a < 3 → ∀ b, b < 3 → a ≠ b → (TX4 a).2.1 ≠ (TX4 b).2.1 := by decide +kernel
theorem tyX4_ok : ∀ k, k < 3 → parseFieldDescriptor (TX4 k).2.2.1 = some (tyX4 k) := by decide +kernel
abbrev cX4_init : ByteArray := prog_6_method_1_code
def yX4_init : MethodName := ⟨RX4, "<init>", "()V"⟩
abbrev cX4_remember : ByteArray := prog_6_method_2_code
def yX4_remember : MethodName := ⟨RX4, "remember", "(LFlagSignals$Deck;)V"⟩
abbrev cX4_giveBack : ByteArray := prog_6_method_3_code
def yX4_giveBack : MethodName := ⟨RX4, "giveBack", "(LFlagSignals$Deck;)V"⟩
abbrev cX4_forget : ByteArray := prog_6_method_4_code
def yX4_forget : MethodName := ⟨RX4, "forget", "()V"⟩
def RX5 : String := "FlagSignals$Rota"
def TX5 : u_T := fun k => match k with
  | 0 => ("FlagSignals$Rota", "flies", "[Z", true)
  | _ => ("FlagSignals$Rota", "fewest", "[I", true)
def tyX5 : Nat → FieldType := fun k => match k with
  | 0 => .array .boolean
  | _ => .array .int
abbrev wsX50 : List Cond := u_ws RX5 TX5 2
theorem nmX5 : ∀ a, a < 2 → ∀ b, b < 2 → a ≠ b → (TX5 a).2.1 ≠ (TX5 b).2.1 := by decide +kernel
theorem tyX5_ok : ∀ k, k < 2 → parseFieldDescriptor (TX5 k).2.2.1 = some (tyX5 k) := by decide +kernel
abbrev cX5_init : ByteArray := prog_7_method_1_code
def yX5_init : MethodName := ⟨RX5, "<init>", "()V"⟩
abbrev cX5_largestGroup : ByteArray := prog_7_method_2_code
def yX5_largestGroup : MethodName := ⟨RX5, "largestGroup", "()I"⟩
abbrev cX5_plan : ByteArray := prog_7_method_3_code
def yX5_plan : MethodName := ⟨RX5, "plan", "(I)V"⟩
abbrev cX5_fewestOf : ByteArray := prog_7_method_4_code
def yX5_fewestOf : MethodName := ⟨RX5, "fewestOf", "(I)I"⟩
abbrev cX5_firstGroup : ByteArray := prog_7_method_5_code
def yX5_firstGroup : MethodName := ⟨RX5, "firstGroup", "(I)I"⟩
def RX6 : String := "FlagSignals$Ship"
def TX6 : u_T := fun k => match k with
  | 0 => ("FlagSignals$Ship", "lines", "I", false)
  | 1 => ("FlagSignals$Ship", "substitutes", "I", false)
  | 2 => ("FlagSignals$Ship", "flags", "I", false)
  | 3 => ("FlagSignals$Ship", "signals", "I", false)
  | 4 => ("FlagSignals$Ship", "kinds", "[I", true)
  | 5 => ("FlagSignals$Ship", "fores", "[I", true)
  | 6 => ("FlagSignals$Ship", "backs", "[I", true)
  | 7 => ("FlagSignals$Ship", "lengths", "[I", true)
  | _ => ("FlagSignals$Ship", "rows", "[I", true)
def tyX6 : Nat → FieldType := fun k => match k with
  | 0 => .int
  | 1 => .int
  | 2 => .int
  | 3 => .int
  | 4 => .array .int
  | 5 => .array .int
  | 6 => .array .int
  | 7 => .array .int
  | _ => .array .int
abbrev wsX60 : List Cond := u_ws RX6 TX6 9
theorem nmX6 : ∀ a, a < 9 → ∀ b, b < 9 → a ≠ b → (TX6 a).2.1 ≠ (TX6 b).2.1 := by decide +kernel
theorem tyX6_ok : ∀ k, k < 9 → parseFieldDescriptor (TX6 k).2.2.1 = some (tyX6 k) := by decide +kernel
abbrev cX6_init : ByteArray := prog_8_method_1_code
def yX6_init : MethodName := ⟨RX6, "<init>", "()V"⟩
abbrev cX6_strike : ByteArray := prog_8_method_2_code
def yX6_strike : MethodName := ⟨RX6, "strike", "()V"⟩
abbrev cX6_stands : ByteArray := prog_8_method_3_code
def yX6_stands : MethodName := ⟨RX6, "stands", "()Z"⟩
abbrev cX6_hasLine : ByteArray := prog_8_method_4_code
def yX6_hasLine : MethodName := ⟨RX6, "hasLine", "(I)Z"⟩
abbrev cX6_hasFlag : ByteArray := prog_8_method_5_code
def yX6_hasFlag : MethodName := ⟨RX6, "hasFlag", "(I)Z"⟩
abbrev cX6_hasSignal : ByteArray := prog_8_method_6_code
def yX6_hasSignal : MethodName := ⟨RX6, "hasSignal", "(I)Z"⟩
abbrev cX6_hasAll : ByteArray := prog_8_method_7_code
def yX6_hasAll : MethodName := ⟨RX6, "hasAll", "(I)Z"⟩
abbrev cX6_allSignals : ByteArray := prog_8_method_8_code
def yX6_allSignals : MethodName := ⟨RX6, "allSignals", "()I"⟩
abbrev cX6_allFlags : ByteArray := prog_8_method_9_code
def yX6_allFlags : MethodName := ⟨RX6, "allFlags", "()I"⟩
abbrev cX6_allSubstitutes : ByteArray := prog_8_method_10_code
def yX6_allSubstitutes : MethodName := ⟨RX6, "allSubstitutes", "()I"⟩
abbrev cX6_addFlag : ByteArray := prog_8_method_11_code
def yX6_addFlag : MethodName := ⟨RX6, "addFlag", "(III)V"⟩
abbrev cX6_startSignal : ByteArray := prog_8_method_12_code
def yX6_startSignal : MethodName := ⟨RX6, "startSignal", "()V"⟩
abbrev cX6_addToSignal : ByteArray := prog_8_method_13_code
def yX6_addToSignal : MethodName := ⟨RX6, "addToSignal", "(I)V"⟩
abbrev cX6_endSignal : ByteArray := prog_8_method_14_code
def yX6_endSignal : MethodName := ⟨RX6, "endSignal", "()V"⟩
abbrev cX6_flagAt : ByteArray := prog_8_method_15_code
def yX6_flagAt : MethodName := ⟨RX6, "flagAt", "(II)I"⟩
abbrev cX6_signalsWith : ByteArray := prog_8_method_16_code
def yX6_signalsWith : MethodName := ⟨RX6, "signalsWith", "(I)I"⟩
def RX7 : String := "FlagSignals$Text"
def TX7 : u_T := fun k => match k with
  | 0 => ("FlagSignals$Text", "letters", "[I", true)
  | 1 => ("FlagSignals$Text", "count", "I", false)
  | 2 => ("FlagSignals$Text", "at", "I", false)
  | 3 => ("FlagSignals$Text", "wrong", "I", false)
  | _ => ("FlagSignals$Text", "wrongAt", "I", false)
def tyX7 : Nat → FieldType := fun k => match k with
  | 0 => .array .int
  | 1 => .int
  | 2 => .int
  | 3 => .int
  | _ => .int
abbrev wsX70 : List Cond := u_ws RX7 TX7 5
theorem nmX7 : ∀ a, a < 5 → ∀ b, b < 5 → a ≠ b → (TX7 a).2.1 ≠ (TX7 b).2.1 := by decide +kernel
theorem tyX7_ok : ∀ k, k < 5 → parseFieldDescriptor (TX7 k).2.2.1 = some (tyX7 k) := by decide +kernel
abbrev cX7_init : ByteArray := prog_9_method_1_code
def yX7_init : MethodName := ⟨RX7, "<init>", "()V"⟩
abbrev cX7_append : ByteArray := prog_9_method_2_code
def yX7_append : MethodName := ⟨RX7, "append", "(I)Z"⟩
abbrev cX7_parseInto : ByteArray := prog_9_method_3_code
def yX7_parseInto : MethodName := ⟨RX7, "parseInto", "(LFlagSignals$Ship;)I"⟩
abbrev cX7_nextLetter : ByteArray := prog_9_method_4_code
def yX7_nextLetter : MethodName := ⟨RX7, "nextLetter", "()I"⟩
abbrev cX7_blame : ByteArray := prog_9_method_5_code
def yX7_blame : MethodName := ⟨RX7, "blame", "(II)V"⟩
abbrev cX7_parseLines : ByteArray := prog_9_method_6_code
def yX7_parseLines : MethodName := ⟨RX7, "parseLines", "(LFlagSignals$Ship;)V"⟩
abbrev cX7_parseClause : ByteArray := prog_9_method_7_code
def yX7_parseClause : MethodName := ⟨RX7, "parseClause", "(LFlagSignals$Ship;)V"⟩
abbrev cX7_parseFlag : ByteArray := prog_9_method_8_code
def yX7_parseFlag : MethodName := ⟨RX7, "parseFlag", "(LFlagSignals$Ship;)V"⟩
abbrev cX7_parseSignal : ByteArray := prog_9_method_9_code
def yX7_parseSignal : MethodName := ⟨RX7, "parseSignal", "(LFlagSignals$Ship;)V"⟩
abbrev cX7_pass : ByteArray := prog_9_method_10_code
def yX7_pass : MethodName := ⟨RX7, "pass", "(I)V"⟩
abbrev cX7_parseNumber : ByteArray := prog_9_method_11_code
def yX7_parseNumber : MethodName := ⟨RX7, "parseNumber", "(II)I"⟩
def RX8 : String := "FlagSignals$Watch"
def TX8 : u_T := fun k => match k with
  | 0 => ("FlagSignals$Watch", "rows", "[I", true)
  | 1 => ("FlagSignals$Watch", "looks", "[I", true)
  | 2 => ("FlagSignals$Watch", "signs", "[I", true)
  | _ => ("FlagSignals$Watch", "up", "I", false)
def tyX8 : Nat → FieldType := fun k => match k with
  | 0 => .array .int
  | 1 => .array .int
  | 2 => .array .int
  | _ => .int
abbrev wsX80 : List Cond := u_ws RX8 TX8 4
theorem nmX8 : ∀ a, a < 4 → ∀ b, b < 4 → a ≠ b → (TX8 a).2.1 ≠ (TX8 b).2.1 := by decide +kernel
theorem tyX8_ok : ∀ k, k < 4 → parseFieldDescriptor (TX8 k).2.2.1 = some (tyX8 k) := by decide +kernel
abbrev cX8_init : ByteArray := prog_10_method_1_code
def yX8_init : MethodName := ⟨RX8, "<init>", "()V"⟩
abbrev cX8_raiseAll : ByteArray := prog_10_method_2_code
def yX8_raiseAll : MethodName := ⟨RX8, "raiseAll", "(LFlagSignals$Ship;LFlagSignals$Locker;I)V"⟩
abbrev cX8_see : ByteArray := prog_10_method_3_code
def yX8_see : MethodName := ⟨RX8, "see", "(LFlagSignals$Ship;LFlagSignals$Deck;I)V"⟩
abbrev cX8_sign : ByteArray := prog_10_method_4_code
def yX8_sign : MethodName := ⟨RX8, "sign", "(LFlagSignals$Ship;I)V"⟩
abbrev cX8_lookOfPiece : ByteArray := prog_10_method_5_code
def yX8_lookOfPiece : MethodName := ⟨RX8, "lookOfPiece", "(I)I"⟩
abbrev cX8_likeOf : ByteArray := prog_10_method_6_code
def yX8_likeOf : MethodName := ⟨RX8, "likeOf", "(LFlagSignals$Ship;I)I"⟩
abbrev cX8_clearOnes : ByteArray := prog_10_method_7_code
def yX8_clearOnes : MethodName := ⟨RX8, "clearOnes", "(LFlagSignals$Ship;)I"⟩
def RX9 : String := "FlagSignals"
def TX9 : u_T := fun k => match k with
  | 0 => ("FlagSignals", "text", "LFlagSignals$Text;", true)
  | 1 => ("FlagSignals", "ship", "LFlagSignals$Ship;", false)
  | 2 => ("FlagSignals", "draft", "LFlagSignals$Ship;", false)
  | 3 => ("FlagSignals", "now", "LFlagSignals$Deck;", true)
  | 4 => ("FlagSignals", "past", "LFlagSignals$Past;", true)
  | 5 => ("FlagSignals", "images", "[LFlagSignals$Image;", true)
  | 6 => ("FlagSignals", "log", "LFlagSignals$Log;", true)
  | 7 => ("FlagSignals", "locker", "LFlagSignals$Locker;", true)
  | 8 => ("FlagSignals", "watch", "LFlagSignals$Watch;", true)
  | 9 => ("FlagSignals", "rota", "LFlagSignals$Rota;", true)
  | 10 => ("FlagSignals", "likes", "[I", true)
  | 11 => ("FlagSignals", "faultAt", "I", false)
  | _ => ("FlagSignals", "seedNow", "I", false)
def tyX9 : Nat → FieldType := fun k => match k with
  | 0 => .object "FlagSignals$Text"
  | 1 => .object "FlagSignals$Ship"
  | 2 => .object "FlagSignals$Ship"
  | 3 => .object "FlagSignals$Deck"
  | 4 => .object "FlagSignals$Past"
  | 5 => .array (.object "FlagSignals$Image")
  | 6 => .object "FlagSignals$Log"
  | 7 => .object "FlagSignals$Locker"
  | 8 => .object "FlagSignals$Watch"
  | 9 => .object "FlagSignals$Rota"
  | 10 => .array .int
  | 11 => .int
  | _ => .int
abbrev wsX90 : List Cond := u_ws RX9 TX9 13
theorem nmX9 : ∀ a, a < 13 → ∀ b, b < 13 → a ≠ b → (TX9 a).2.1 ≠ (TX9 b).2.1 := by decide +kernel
theorem tyX9_ok : ∀ k, k < 13 → parseFieldDescriptor (TX9 k).2.2.1 = some (tyX9 k) := by decide +kernel
abbrev cX9_init : ByteArray := prog_1_method_1_code
def yX9_init : MethodName := ⟨RX9, "<init>", "()V"⟩
abbrev cX9_feed : ByteArray := prog_1_method_2_code
def yX9_feed : MethodName := ⟨RX9, "feed", "(I)I"⟩
abbrev cX9_ship : ByteArray := prog_1_method_3_code
def yX9_ship : MethodName := ⟨RX9, "ship", "()I"⟩
abbrev cX9_fault : ByteArray := prog_1_method_4_code
def yX9_fault : MethodName := ⟨RX9, "fault", "()I"⟩
abbrev cX9_told : ByteArray := prog_1_method_5_code
def yX9_told : MethodName := ⟨RX9, "told", "(I)I"⟩
abbrev cX9_flag : ByteArray := prog_1_method_6_code
def yX9_flag : MethodName := ⟨RX9, "flag", "(II)I"⟩
abbrev cX9_signal : ByteArray := prog_1_method_7_code
def yX9_signal : MethodName := ⟨RX9, "signal", "(II)I"⟩
abbrev cX9_line : ByteArray := prog_1_method_8_code
def yX9_line : MethodName := ⟨RX9, "line", "(II)I"⟩
abbrev cX9_needs : ByteArray := prog_1_method_9_code
def yX9_needs : MethodName := ⟨RX9, "needs", "(II)I"⟩
abbrev cX9_hoist : ByteArray := prog_1_method_10_code
def yX9_hoist : MethodName := ⟨RX9, "hoist", "(II)I"⟩
abbrev cX9_haul : ByteArray := prog_1_method_11_code
def yX9_haul : MethodName := ⟨RX9, "haul", "(I)I"⟩
abbrev cX9_day : ByteArray := prog_1_method_12_code
def yX9_day : MethodName := ⟨RX9, "day", "(I)I"⟩
abbrev cX9_sew : ByteArray := prog_1_method_13_code
def yX9_sew : MethodName := ⟨RX9, "sew", "(I)I"⟩
abbrev cX9_anew : ByteArray := prog_1_method_14_code
def yX9_anew : MethodName := ⟨RX9, "anew", "(IIII)I"⟩
abbrev cX9_weather : ByteArray := prog_1_method_15_code
def yX9_weather : MethodName := ⟨RX9, "weather", "(IZ)I"⟩
abbrev cX9_drift : ByteArray := prog_1_method_16_code
def yX9_drift : MethodName := ⟨RX9, "drift", "(I)I"⟩
abbrev cX9_undo : ByteArray := prog_1_method_17_code
def yX9_undo : MethodName := ⟨RX9, "undo", "()I"⟩
abbrev cX9_look : ByteArray := prog_1_method_18_code
def yX9_look : MethodName := ⟨RX9, "look", "(IIZ)I"⟩
abbrev cX9_together : ByteArray := prog_1_method_19_code
def yX9_together : MethodName := ⟨RX9, "together", "(I)I"⟩
abbrev cX9_turns : ByteArray := prog_1_method_20_code
def yX9_turns : MethodName := ⟨RX9, "turns", "(II)I"⟩
abbrev cX9_clear : ByteArray := prog_1_method_21_code
def yX9_clear : MethodName := ⟨RX9, "clear", "(II)I"⟩
abbrev cX9_read : ByteArray := prog_1_method_22_code
def yX9_read : MethodName := ⟨RX9, "read", "(II)I"⟩
abbrev cX9_write : ByteArray := prog_1_method_23_code
def yX9_write : MethodName := ⟨RX9, "write", "(II)I"⟩
abbrev cX9_tear : ByteArray := prog_1_method_24_code
def yX9_tear : MethodName := ⟨RX9, "tear", "()I"⟩
abbrev cX9_judge : ByteArray := prog_1_method_25_code
def yX9_judge : MethodName := ⟨RX9, "judge", "()I"⟩
abbrev cX9_seed : ByteArray := prog_1_method_26_code
def yX9_seed : MethodName := ⟨RX9, "seed", "(I)I"⟩
abbrev cX9_keep : ByteArray := prog_1_method_27_code
def yX9_keep : MethodName := ⟨RX9, "keep", "(I)I"⟩
abbrev cX9_goBack : ByteArray := prog_1_method_28_code
def yX9_goBack : MethodName := ⟨RX9, "goBack", "(I)I"⟩
abbrev cX9_has : ByteArray := prog_1_method_29_code
def yX9_has : MethodName := ⟨RX9, "has", "(II)Z"⟩
abbrev cX9_canHoist : ByteArray := prog_1_method_30_code
def yX9_canHoist : MethodName := ⟨RX9, "canHoist", "(II)Z"⟩
abbrev cX9_refusedDays : ByteArray := prog_1_method_31_code
def yX9_refusedDays : MethodName := ⟨RX9, "refusedDays", "(I)I"⟩
abbrev cX9_draw : ByteArray := prog_1_method_32_code
def yX9_draw : MethodName := ⟨RX9, "draw", "(I)I"⟩
abbrev cX9_actByDraws : ByteArray := prog_1_method_33_code
def yX9_actByDraws : MethodName := ⟨RX9, "actByDraws", "()V"⟩
abbrev cX9_hoistDrawn : ByteArray := prog_1_method_34_code
def yX9_hoistDrawn : MethodName := ⟨RX9, "hoistDrawn", "(I)V"⟩
abbrev cX9_sewDrawn : ByteArray := prog_1_method_35_code
def yX9_sewDrawn : MethodName := ⟨RX9, "sewDrawn", "()V"⟩
abbrev cX9_readySignals : ByteArray := prog_1_method_36_code
def yX9_readySignals : MethodName := ⟨RX9, "readySignals", "()I"⟩
abbrev cX9_watchIn : ByteArray := prog_1_method_37_code
def yX9_watchIn : MethodName := ⟨RX9, "watchIn", "(I)V"⟩
abbrev cX9_clearNow : ByteArray := prog_1_method_38_code
def yX9_clearNow : MethodName := ⟨RX9, "clearNow", "()I"⟩
abbrev cX9_clearest : ByteArray := prog_1_method_39_code
def yX9_clearest : MethodName := ⟨RX9, "clearest", "()I"⟩
abbrev cX9_flyTogether : ByteArray := prog_1_method_40_code
def yX9_flyTogether : MethodName := ⟨RX9, "flyTogether", "(I)Z"⟩
abbrev cX9_groupWithin : ByteArray := prog_1_method_41_code
def yX9_groupWithin : MethodName := ⟨RX9, "groupWithin", "(I)V"⟩
abbrev cX9_mostTogether : ByteArray := prog_1_method_42_code
def yX9_mostTogether : MethodName := ⟨RX9, "mostTogether", "()I"⟩
abbrev cX9_neededFlag : ByteArray := prog_1_method_43_code
def yX9_neededFlag : MethodName := ⟨RX9, "neededFlag", "()I"⟩
abbrev cX9_betterFlag : ByteArray := prog_1_method_44_code
def yX9_betterFlag : MethodName := ⟨RX9, "betterFlag", "()I"⟩
abbrev cX9_countClearWith : ByteArray := prog_1_method_45_code
def yX9_countClearWith : MethodName := ⟨RX9, "countClearWith", "(III)I"⟩
abbrev cX9_possibleWeathers : ByteArray := prog_1_method_46_code
def yX9_possibleWeathers : MethodName := ⟨RX9, "possibleWeathers", "()I"⟩
abbrev cX9_askedSignal : ByteArray := prog_1_method_47_code
def yX9_askedSignal : MethodName := ⟨RX9, "askedSignal", "()I"⟩
abbrev cX9_fillLikes : ByteArray := prog_1_method_48_code
def yX9_fillLikes : MethodName := ⟨RX9, "fillLikes", "()V"⟩
abbrev cX9_greatestPart : ByteArray := prog_1_method_49_code
def yX9_greatestPart : MethodName := ⟨RX9, "greatestPart", "(II)I"⟩
abbrev cX9_seenPattern : ByteArray := prog_1_method_50_code
def yX9_seenPattern : MethodName := ⟨RX9, "seenPattern", "(IIIII)I"⟩
abbrev cX9_seenColour : ByteArray := prog_1_method_51_code
def yX9_seenColour : MethodName := ⟨RX9, "seenColour", "(II)I"⟩
def RX10 : String := "FlagSignalsModel"
def TX10 : u_T := fun k => match k with
  | 0 => ("FlagSignalsModel", "lines", "I", false)
  | 1 => ("FlagSignalsModel", "subs", "I", false)
  | 2 => ("FlagSignalsModel", "flags", "I", false)
  | 3 => ("FlagSignalsModel", "pattern", "[I", true)
  | 4 => ("FlagSignalsModel", "signals", "I", false)
  | 5 => ("FlagSignalsModel", "longs", "[I", true)
  | 6 => ("FlagSignalsModel", "told", "[I", true)
  | 7 => ("FlagSignalsModel", "now", "[I", true)
  | 8 => ("FlagSignalsModel", "seed", "I", false)
  | 9 => ("FlagSignalsModel", "text", "[I", true)
  | 10 => ("FlagSignalsModel", "texted", "I", false)
  | 11 => ("FlagSignalsModel", "faultPlace", "I", false)
  | 12 => ("FlagSignalsModel", "at0", "I", false)
  | 13 => ("FlagSignalsModel", "number", "I", false)
  | 14 => ("FlagSignalsModel", "readLines", "I", false)
  | 15 => ("FlagSignalsModel", "readSubs", "I", false)
  | 16 => ("FlagSignalsModel", "readFlags", "I", false)
  | 17 => ("FlagSignalsModel", "readPattern", "[I", true)
  | 18 => ("FlagSignalsModel", "readSignals", "I", false)
  | 19 => ("FlagSignalsModel", "readLongs", "[I", true)
  | 20 => ("FlagSignalsModel", "readTold", "[I", true)
  | 21 => ("FlagSignalsModel", "row", "[I", true)
  | 22 => ("FlagSignalsModel", "shows", "[Z", true)
  | 23 => ("FlagSignalsModel", "looks", "[I", true)
  | 24 => ("FlagSignalsModel", "flying", "[Z", true)
  | 25 => ("FlagSignalsModel", "fewest", "[I", true)
  | 26 => ("FlagSignalsModel", "reads", "I", false)
  | 27 => ("FlagSignalsModel", "sentOnes", "[I", true)
  | 28 => ("FlagSignalsModel", "readOnes", "[I", true)
  | 29 => ("FlagSignalsModel", "likes", "[I", true)
  | 30 => ("FlagSignalsModel", "undos", "I", false)
  | 31 => ("FlagSignalsModel", "past", "[I", true)
  | 32 => ("FlagSignalsModel", "booked", "I", false)
  | 33 => ("FlagSignalsModel", "bookOf", "[I", true)
  | 34 => ("FlagSignalsModel", "bookIs", "[I", true)
  | 35 => ("FlagSignalsModel", "images", "[I", true)
  | _ => ("FlagSignalsModel", "isKept", "[Z", true)
def tyX10 : Nat → FieldType := fun k => match k with
  | 0 => .int
  | 1 => .int
  | 2 => .int
  | 3 => .array .int
  | 4 => .int
  | 5 => .array .int
  | 6 => .array .int
  | 7 => .array .int
  | 8 => .int
  | 9 => .array .int
  | 10 => .int
  | 11 => .int
  | 12 => .int
  | 13 => .int
  | 14 => .int
  | 15 => .int
  | 16 => .int
  | 17 => .array .int
  | 18 => .int
  | 19 => .array .int
  | 20 => .array .int
  | 21 => .array .int
  | 22 => .array .boolean
  | 23 => .array .int
  | 24 => .array .boolean
  | 25 => .array .int
  | 26 => .int
  | 27 => .array .int
  | 28 => .array .int
  | 29 => .array .int
  | 30 => .int
  | 31 => .array .int
  | 32 => .int
  | 33 => .array .int
  | 34 => .array .int
  | 35 => .array .int
  | _ => .array .boolean
abbrev wsX100 : List Cond := u_ws RX10 TX10 37
theorem nmX10 : ∀ a, a < 37 → ∀ b, b < 37 → a ≠ b → (TX10 a).2.1 ≠ (TX10 b).2.1 := by decide +kernel
theorem tyX10_ok : ∀ k, k < 37 → parseFieldDescriptor (TX10 k).2.2.1 = some (tyX10 k) := by decide +kernel
abbrev cX10_init : ByteArray := prog_12_method_1_code
def yX10_init : MethodName := ⟨RX10, "<init>", "()V"⟩
abbrev cX10_in : ByteArray := prog_12_method_3_code
def yX10_in : MethodName := ⟨RX10, "in", "(JJJ)Z"⟩
abbrev cX10_has : ByteArray := prog_12_method_4_code
def yX10_has : MethodName := ⟨RX10, "has", "(II)Z"⟩
abbrev cX10_bits : ByteArray := prog_12_method_5_code
def yX10_bits : MethodName := ⟨RX10, "bits", "(I)I"⟩
abbrev cX10_isLine : ByteArray := prog_12_method_6_code
def yX10_isLine : MethodName := ⟨RX10, "isLine", "(I)Z"⟩
abbrev cX10_isFlag : ByteArray := prog_12_method_7_code
def yX10_isFlag : MethodName := ⟨RX10, "isFlag", "(I)Z"⟩
abbrev cX10_isSignal : ByteArray := prog_12_method_8_code
def yX10_isSignal : MethodName := ⟨RX10, "isSignal", "(I)Z"⟩
abbrev cX10_feed : ByteArray := prog_12_method_9_code
def yX10_feed : MethodName := ⟨RX10, "feed", "(I)I"⟩
abbrev cX10_here : ByteArray := prog_12_method_10_code
def yX10_here : MethodName := ⟨RX10, "here", "()I"⟩
abbrev cX10_fails : ByteArray := prog_12_method_11_code
def yX10_fails : MethodName := ⟨RX10, "fails", "(II)I"⟩
abbrev cX10_takeNumber : ByteArray := prog_12_method_12_code
def yX10_takeNumber : MethodName := ⟨RX10, "takeNumber", "(II)I"⟩
abbrev cX10_takeLines : ByteArray := prog_12_method_13_code
def yX10_takeLines : MethodName := ⟨RX10, "takeLines", "()I"⟩
abbrev cX10_takeFlag : ByteArray := prog_12_method_14_code
def yX10_takeFlag : MethodName := ⟨RX10, "takeFlag", "()I"⟩
abbrev cX10_takeSignal : ByteArray := prog_12_method_15_code
def yX10_takeSignal : MethodName := ⟨RX10, "takeSignal", "()I"⟩
abbrev cX10_takeClause : ByteArray := prog_12_method_16_code
def yX10_takeClause : MethodName := ⟨RX10, "takeClause", "()I"⟩
abbrev cX10_copyRow : ByteArray := prog_12_method_17_code
def yX10_copyRow : MethodName := ⟨RX10, "copyRow", "([I[II)V"⟩
abbrev cX10_beginAll : ByteArray := prog_12_method_18_code
def yX10_beginAll : MethodName := ⟨RX10, "beginAll", "()V"⟩
abbrev cX10_ship : ByteArray := prog_12_method_19_code
def yX10_ship : MethodName := ⟨RX10, "ship", "()I"⟩
abbrev cX10_fault : ByteArray := prog_12_method_20_code
def yX10_fault : MethodName := ⟨RX10, "fault", "()I"⟩
abbrev cX10_freeFlags : ByteArray := prog_12_method_21_code
def yX10_freeFlags : MethodName := ⟨RX10, "freeFlags", "()I"⟩
abbrev cX10_tornFlags : ByteArray := prog_12_method_22_code
def yX10_tornFlags : MethodName := ⟨RX10, "tornFlags", "()I"⟩
abbrev cX10_freeSubs : ByteArray := prog_12_method_23_code
def yX10_freeSubs : MethodName := ⟨RX10, "freeSubs", "()I"⟩
abbrev cX10_allSubs : ByteArray := prog_12_method_24_code
def yX10_allSubs : MethodName := ⟨RX10, "allSubs", "()I"⟩
abbrev cX10_isUsed : ByteArray := prog_12_method_25_code
def yX10_isUsed : MethodName := ⟨RX10, "isUsed", "(II)Z"⟩
abbrev cX10_itemFor : ByteArray := prog_12_method_26_code
def yX10_itemFor : MethodName := ⟨RX10, "itemFor", "(IIII)I"⟩
abbrev cX10_goesUp : ByteArray := prog_12_method_27_code
def yX10_goesUp : MethodName := ⟨RX10, "goesUp", "(III)Z"⟩
abbrev cX10_canGoUp : ByteArray := prog_12_method_28_code
def yX10_canGoUp : MethodName := ⟨RX10, "canGoUp", "()I"⟩
abbrev cX10_seenColour : ByteArray := prog_12_method_29_code
def yX10_seenColour : MethodName := ⟨RX10, "seenColour", "(II)I"⟩
abbrev cX10_lookOf : ByteArray := prog_12_method_30_code
def yX10_lookOf : MethodName := ⟨RX10, "lookOf", "(III)I"⟩
abbrev cX10_layLooks : ByteArray := prog_12_method_31_code
def yX10_layLooks : MethodName := ⟨RX10, "layLooks", "(II)V"⟩
abbrev cX10_isLike : ByteArray := prog_12_method_32_code
def yX10_isLike : MethodName := ⟨RX10, "isLike", "(II)Z"⟩
abbrev cX10_likeOf : ByteArray := prog_12_method_33_code
def yX10_likeOf : MethodName := ⟨RX10, "likeOf", "(I)I"⟩
abbrev cX10_clearIn : ByteArray := prog_12_method_34_code
def yX10_clearIn : MethodName := ⟨RX10, "clearIn", "(II)I"⟩
abbrev cX10_clearNow : ByteArray := prog_12_method_35_code
def yX10_clearNow : MethodName := ⟨RX10, "clearNow", "()I"⟩
abbrev cX10_clearest : ByteArray := prog_12_method_36_code
def yX10_clearest : MethodName := ⟨RX10, "clearest", "()I"⟩
abbrev cX10_isToldIn : ByteArray := prog_12_method_37_code
def yX10_isToldIn : MethodName := ⟨RX10, "isToldIn", "(II)Z"⟩
abbrev cX10_needed : ByteArray := prog_12_method_38_code
def yX10_needed : MethodName := ⟨RX10, "needed", "()I"⟩
abbrev cX10_better : ByteArray := prog_12_method_39_code
def yX10_better : MethodName := ⟨RX10, "better", "()I"⟩
abbrev cX10_rowFlags : ByteArray := prog_12_method_40_code
def yX10_rowFlags : MethodName := ⟨RX10, "rowFlags", "()I"⟩
abbrev cX10_rowSubs : ByteArray := prog_12_method_41_code
def yX10_rowSubs : MethodName := ⟨RX10, "rowSubs", "()I"⟩
abbrev cX10_fly : ByteArray := prog_12_method_42_code
def yX10_fly : MethodName := ⟨RX10, "fly", "(I)Z"⟩
abbrev cX10_mostTogether : ByteArray := prog_12_method_43_code
def yX10_mostTogether : MethodName := ⟨RX10, "mostTogether", "()I"⟩
abbrev cX10_areSignals : ByteArray := prog_12_method_44_code
def yX10_areSignals : MethodName := ⟨RX10, "areSignals", "(I)Z"⟩
abbrev cX10_together : ByteArray := prog_12_method_45_code
def yX10_together : MethodName := ⟨RX10, "together", "(I)I"⟩
abbrev cX10_findTurns : ByteArray := prog_12_method_46_code
def yX10_findTurns : MethodName := ⟨RX10, "findTurns", "(I)V"⟩
abbrev cX10_turns : ByteArray := prog_12_method_47_code
def yX10_turns : MethodName := ⟨RX10, "turns", "(II)I"⟩
abbrev cX10_weathers : ByteArray := prog_12_method_48_code
def yX10_weathers : MethodName := ⟨RX10, "weathers", "()I"⟩
abbrev cX10_layLikes : ByteArray := prog_12_method_49_code
def yX10_layLikes : MethodName := ⟨RX10, "layLikes", "()V"⟩
abbrev cX10_greatestPart : ByteArray := prog_12_method_50_code
def yX10_greatestPart : MethodName := ⟨RX10, "greatestPart", "(II)I"⟩
abbrev cX10_askNext : ByteArray := prog_12_method_51_code
def yX10_askNext : MethodName := ⟨RX10, "askNext", "()I"⟩
abbrev cX10_told : ByteArray := prog_12_method_52_code
def yX10_told : MethodName := ⟨RX10, "told", "(I)I"⟩
abbrev cX10_flag : ByteArray := prog_12_method_53_code
def yX10_flag : MethodName := ⟨RX10, "flag", "(II)I"⟩
abbrev cX10_lineOf : ByteArray := prog_12_method_54_code
def yX10_lineOf : MethodName := ⟨RX10, "lineOf", "(I)I"⟩
abbrev cX10_likeNow : ByteArray := prog_12_method_55_code
def yX10_likeNow : MethodName := ⟨RX10, "likeNow", "(I)I"⟩
abbrev cX10_signal : ByteArray := prog_12_method_56_code
def yX10_signal : MethodName := ⟨RX10, "signal", "(II)I"⟩
abbrev cX10_line : ByteArray := prog_12_method_57_code
def yX10_line : MethodName := ⟨RX10, "line", "(II)I"⟩
abbrev cX10_needs : ByteArray := prog_12_method_58_code
def yX10_needs : MethodName := ⟨RX10, "needs", "(II)I"⟩
abbrev cX10_remember : ByteArray := prog_12_method_59_code
def yX10_remember : MethodName := ⟨RX10, "remember", "()V"⟩
abbrev cX10_canHoist : ByteArray := prog_12_method_60_code
def yX10_canHoist : MethodName := ⟨RX10, "canHoist", "(II)Z"⟩
abbrev cX10_hoistRow : ByteArray := prog_12_method_61_code
def yX10_hoistRow : MethodName := ⟨RX10, "hoistRow", "(II)I"⟩
abbrev cX10_hoist : ByteArray := prog_12_method_62_code
def yX10_hoist : MethodName := ⟨RX10, "hoist", "(II)I"⟩
abbrev cX10_haulNow : ByteArray := prog_12_method_63_code
def yX10_haulNow : MethodName := ⟨RX10, "haulNow", "(I)I"⟩
abbrev cX10_haul : ByteArray := prog_12_method_64_code
def yX10_haul : MethodName := ⟨RX10, "haul", "(I)I"⟩
abbrev cX10_pass : ByteArray := prog_12_method_65_code
def yX10_pass : MethodName := ⟨RX10, "pass", "()V"⟩
abbrev cX10_daysRefused : ByteArray := prog_12_method_66_code
def yX10_daysRefused : MethodName := ⟨RX10, "daysRefused", "(I)I"⟩
abbrev cX10_day : ByteArray := prog_12_method_67_code
def yX10_day : MethodName := ⟨RX10, "day", "(I)I"⟩
abbrev cX10_canSew : ByteArray := prog_12_method_68_code
def yX10_canSew : MethodName := ⟨RX10, "canSew", "(I)Z"⟩
abbrev cX10_sewNow : ByteArray := prog_12_method_69_code
def yX10_sewNow : MethodName := ⟨RX10, "sewNow", "(I)V"⟩
abbrev cX10_sew : ByteArray := prog_12_method_70_code
def yX10_sew : MethodName := ⟨RX10, "sew", "(I)I"⟩
abbrev cX10_anew : ByteArray := prog_12_method_71_code
def yX10_anew : MethodName := ⟨RX10, "anew", "(IIII)I"⟩
abbrev cX10_weather : ByteArray := prog_12_method_72_code
def yX10_weather : MethodName := ⟨RX10, "weather", "(IZ)I"⟩
abbrev cX10_draw : ByteArray := prog_12_method_73_code
def yX10_draw : MethodName := ⟨RX10, "draw", "(I)I"⟩
abbrev cX10_chanceHoist : ByteArray := prog_12_method_74_code
def yX10_chanceHoist : MethodName := ⟨RX10, "chanceHoist", "(I)V"⟩
abbrev cX10_chanceSew : ByteArray := prog_12_method_75_code
def yX10_chanceSew : MethodName := ⟨RX10, "chanceSew", "()V"⟩
abbrev cX10_chance : ByteArray := prog_12_method_76_code
def yX10_chance : MethodName := ⟨RX10, "chance", "()V"⟩
abbrev cX10_drift : ByteArray := prog_12_method_77_code
def yX10_drift : MethodName := ⟨RX10, "drift", "(I)I"⟩
abbrev cX10_undo : ByteArray := prog_12_method_78_code
def yX10_undo : MethodName := ⟨RX10, "undo", "()I"⟩
abbrev cX10_look : ByteArray := prog_12_method_79_code
def yX10_look : MethodName := ⟨RX10, "look", "(IIZ)I"⟩
abbrev cX10_clear : ByteArray := prog_12_method_80_code
def yX10_clear : MethodName := ⟨RX10, "clear", "(II)I"⟩
abbrev cX10_read : ByteArray := prog_12_method_81_code
def yX10_read : MethodName := ⟨RX10, "read", "(II)I"⟩
abbrev cX10_write : ByteArray := prog_12_method_82_code
def yX10_write : MethodName := ⟨RX10, "write", "(II)I"⟩
abbrev cX10_tear : ByteArray := prog_12_method_83_code
def yX10_tear : MethodName := ⟨RX10, "tear", "()I"⟩
abbrev cX10_judge : ByteArray := prog_12_method_84_code
def yX10_judge : MethodName := ⟨RX10, "judge", "()I"⟩
abbrev cX10_seed : ByteArray := prog_12_method_85_code
def yX10_seed : MethodName := ⟨RX10, "seed", "(I)I"⟩
abbrev cX10_keep : ByteArray := prog_12_method_86_code
def yX10_keep : MethodName := ⟨RX10, "keep", "(I)I"⟩
abbrev cX10_goBack : ByteArray := prog_12_method_87_code
def yX10_goBack : MethodName := ⟨RX10, "goBack", "(I)I"⟩
def RJ6 : String := "java/lang/Integer"
def TJ6 : u_T := fun k => match k with
  | _ => ("", "", "", false)
def tyJ6 : Nat → FieldType := fun k => match k with
  | _ => .int
abbrev wsJ60 : List Cond := u_ws RJ6 TJ6 0
theorem nmJ6 : ∀ a, a < 0 → ∀ b, b < 0 → a ≠ b → (TJ6 a).2.1 ≠ (TJ6 b).2.1 := by decide +kernel
theorem tyJ6_ok : ∀ k, k < 0 → parseFieldDescriptor (TJ6 k).2.2.1 = some (tyJ6 k) := by decide +kernel
abbrev cJ6_bitCount_0f7a4 : ByteArray := prog_13_method_49_code
def yJ6_bitCount_0f7a4 : MethodName := ⟨RJ6, "bitCount", "(I)I"⟩
def RJ9 : String := "java/lang/Math"
def TJ9 : u_T := fun k => match k with
  | _ => ("", "", "", false)
def tyJ9 : Nat → FieldType := fun k => match k with
  | _ => .int
abbrev wsJ90 : List Cond := u_ws RJ9 TJ9 0
theorem nmJ9 : ∀ a, a < 0 → ∀ b, b < 0 → a ≠ b → (TJ9 a).2.1 ≠ (TJ9 b).2.1 := by decide +kernel
theorem tyJ9_ok : ∀ k, k < 0 → parseFieldDescriptor (TJ9 k).2.2.1 = some (tyJ9 k) := by decide +kernel
abbrev cJ9_max_7cf53 : ByteArray := prog_14_method_65_code
def yJ9_max_7cf53 : MethodName := ⟨RJ9, "max", "(II)I"⟩
abbrev cJ9_min_7cf53 : ByteArray := prog_14_method_69_code
def yJ9_min_7cf53 : MethodName := ⟨RJ9, "min", "(II)I"⟩
def RJ10 : String := "java/lang/System"
def TJ10 : u_T := fun k => match k with
  | _ => ("", "", "", false)
def tyJ10 : Nat → FieldType := fun k => match k with
  | _ => .int
abbrev wsJ100 : List Cond := u_ws RJ10 TJ10 0
theorem nmJ10 : ∀ a, a < 0 → ∀ b, b < 0 → a ≠ b → (TJ10 a).2.1 ≠ (TJ10 b).2.1 := by decide +kernel
theorem tyJ10_ok : ∀ k, k < 0 → parseFieldDescriptor (TJ10 k).2.2.1 = some (tyJ10 k) := by decide +kernel
def RL : String := "FlagSignalsLaw"
abbrev cL_law : ByteArray := code
def yL_law : MethodName := ⟨RL, "law", "([I)Z"⟩
abbrev vwCl : List vw_C := [(RX0, TX0, 12), (RX1, TX1, 3), (RX2, TX2, 3), (RX3, TX3, 6), (RX4, TX4, 3), (RX5, TX5, 2), (RX6, TX6, 9), (RX7, TX7, 5), (RX8, TX8, 4), (RX9, TX9, 13), (RX10, TX10, 37)]
end
section
/-- an instruction of the abstract machine: place, next place, what it is, two numbers, a constant, the place of its word -/
abbrev fg_I : Type := Nat × Nat × Nat × Nat × Nat × Int32 × Nat
/-- 0: FlagSignals$Deck.rig(LFlagSignals$Ship;)V -/
def fg_c0 : List fg_I := [(0, 1, 0, 0, 0, 0, 0), (1, 2, 5, 2, 0, 0, 0), (2, 3, 2, 2, 0, 0, 0), (3, 5, 0, 0, 0, 10, 0), (5, 8, 24, 64, 3, 0, 0), (8, 9, 3, 0, 0, 0, 0), (9, 12, 27, 0, 0, 0, 175), (12, 13, 2, 2, 0, 0, 0), (13, 14, 3, 1, 0, 0, 0), (14, 17, 27, 6, 4, 0, 141), (17, 18, 2, 2, 0, 0, 0), (18, 19, 31, 0, 0, 0, 0), (19, 20, 32, 0, 0, 0, 0), (20, 21, 3, 0, 0, 0, 0), (21, 24, 27, 0, 1, 0, 177), (24, 25, 2, 2, 0, 0, 0), (25, 26, 3, 1, 0, 0, 0), (26, 29, 27, 6, 5, 0, 143), (29, 30, 2, 2, 0, 0, 0), (30, 31, 31, 0, 0, 0, 0), (31, 32, 32, 0, 0, 0, 0), (32, 33, 3, 0, 0, 0, 0), (33, 36, 27, 0, 2, 0, 179), (36, 37, 2, 2, 0, 0, 0), (37, 38, 3, 1, 0, 0, 0), (38, 41, 27, 6, 6, 0, 145), (41, 42, 2, 2, 0, 0, 0), (42, 43, 31, 0, 0, 0, 0), (43, 44, 32, 0, 0, 0, 0), (44, 45, 3, 0, 0, 0, 0), (45, 48, 27, 0, 3, 0, 181), (48, 49, 2, 2, 0, 0, 0), (49, 50, 0, 0, 0, 0, 0), (50, 51, 32, 0, 0, 0, 0), (51, 52, 3, 0, 0, 0, 0), (52, 55, 27, 0, 4, 0, 183), (55, 56, 2, 2, 0, 0, 0), (56, 57, 0, 0, 0, (-1), 0), (57, 58, 32, 0, 0, 0, 0), (58, 61, 8, 2, 0, 1, 0), (61, 64, 22, 2, 0, 0, 0), (64, 65, 0, 0, 0, 0, 0), (65, 66, 5, 2, 0, 0, 0), (66, 67, 2, 2, 0, 0, 0), (67, 68, 0, 0, 0, 3, 0), (68, 71, 24, 82, 3, 0, 0), (71, 72, 3, 0, 0, 0, 0), (72, 73, 2, 2, 0, 0, 0), (73, 76, 38, 11, 1, 0, 352), (76, 79, 8, 2, 0, 1, 0), (79, 82, 22, 66, 0, 0, 0), (82, 83, 3, 0, 0, 0, 0), (83, 84, 0, 0, 0, 0, 0), (84, 87, 28, 0, 7, 0, 190), (87, 88, 3, 0, 0, 0, 0), (88, 89, 0, 0, 0, 0, 0), (89, 92, 28, 0, 8, 0, 192), (92, 93, 3, 0, 0, 0, 0), (93, 94, 0, 0, 0, 0, 0), (94, 97, 28, 0, 9, 0, 193), (97, 98, 3, 0, 0, 0, 0), (98, 99, 0, 0, 0, 0, 0), (99, 102, 28, 0, 10, 0, 195), (102, 103, 3, 0, 0, 0, 0), (103, 104, 3, 1, 0, 0, 0), (104, 107, 37, 30, 0, 0, 356), (107, 110, 23, 114, 0, 0, 0), (110, 111, 0, 0, 0, 1, 0), (111, 114, 22, 115, 0, 0, 0), (114, 115, 0, 0, 0, 0, 0), (115, 118, 28, 0, 11, 0, 197), (118, 119, 45, 0, 0, 0, 0)]
/-- 1: FlagSignals$Deck.become(LFlagSignals$Deck;)V -/
def fg_c1 : List fg_I := [(0, 1, 3, 1, 0, 0, 0), (1, 4, 27, 0, 0, 0, 175), (4, 5, 0, 0, 0, 0, 0), (5, 6, 3, 0, 0, 0, 0), (6, 9, 27, 0, 0, 0, 175), (9, 10, 0, 0, 0, 0, 0), (10, 12, 0, 0, 0, 10, 0), (12, 15, 42, 0, 0, 0, 713), (15, 16, 3, 1, 0, 0, 0), (16, 19, 27, 0, 1, 0, 177), (19, 20, 0, 0, 0, 0, 0), (20, 21, 3, 0, 0, 0, 0), (21, 24, 27, 0, 1, 0, 177), (24, 25, 0, 0, 0, 0, 0), (25, 27, 0, 0, 0, 10, 0), (27, 30, 42, 0, 0, 0, 713), (30, 31, 3, 1, 0, 0, 0), (31, 34, 27, 0, 2, 0, 179), (34, 35, 0, 0, 0, 0, 0), (35, 36, 3, 0, 0, 0, 0), (36, 39, 27, 0, 2, 0, 179), (39, 40, 0, 0, 0, 0, 0), (40, 42, 0, 0, 0, 10, 0), (42, 45, 42, 0, 0, 0, 713), (45, 46, 3, 1, 0, 0, 0), (46, 49, 27, 0, 3, 0, 181), (49, 50, 0, 0, 0, 0, 0), (50, 51, 3, 0, 0, 0, 0), (51, 54, 27, 0, 3, 0, 181), (54, 55, 0, 0, 0, 0, 0), (55, 57, 0, 0, 0, 10, 0), (57, 60, 42, 0, 0, 0, 713), (60, 61, 3, 1, 0, 0, 0), (61, 64, 27, 0, 4, 0, 183), (64, 65, 0, 0, 0, 0, 0), (65, 66, 3, 0, 0, 0, 0), (66, 69, 27, 0, 4, 0, 183), (69, 70, 0, 0, 0, 0, 0), (70, 72, 0, 0, 0, 10, 0), (72, 75, 42, 0, 0, 0, 713), (75, 76, 3, 1, 0, 0, 0), (76, 79, 27, 0, 5, 0, 185), (79, 80, 0, 0, 0, 0, 0), (80, 81, 3, 0, 0, 0, 0), (81, 84, 27, 0, 5, 0, 185), (84, 85, 0, 0, 0, 0, 0), (85, 86, 0, 0, 0, 3, 0), (86, 89, 42, 0, 0, 0, 713), (89, 90, 3, 1, 0, 0, 0), (90, 93, 27, 0, 6, 0, 188), (93, 94, 0, 0, 0, 0, 0), (94, 95, 3, 0, 0, 0, 0), (95, 98, 27, 0, 6, 0, 188), (98, 99, 0, 0, 0, 0, 0), (99, 101, 0, 0, 0, 12, 0), (101, 104, 42, 0, 0, 0, 713), (104, 105, 3, 0, 0, 0, 0), (105, 106, 3, 1, 0, 0, 0), (106, 109, 26, 0, 7, 0, 190), (109, 112, 28, 0, 7, 0, 190), (112, 113, 3, 0, 0, 0, 0), (113, 114, 3, 1, 0, 0, 0), (114, 117, 26, 0, 8, 0, 192), (117, 120, 28, 0, 8, 0, 192), (120, 121, 3, 0, 0, 0, 0), (121, 122, 3, 1, 0, 0, 0), (122, 125, 26, 0, 9, 0, 193), (125, 128, 28, 0, 9, 0, 193), (128, 129, 3, 0, 0, 0, 0), (129, 130, 3, 1, 0, 0, 0), (130, 133, 26, 0, 10, 0, 195), (133, 136, 28, 0, 10, 0, 195), (136, 137, 3, 0, 0, 0, 0), (137, 138, 3, 1, 0, 0, 0), (138, 141, 26, 0, 11, 0, 197), (141, 144, 28, 0, 11, 0, 197), (144, 145, 45, 0, 0, 0, 0)]
/-- 2: FlagSignals$Deck.weatherNumber()I -/
def fg_c2 : List fg_I := [(0, 1, 0, 0, 0, 2, 0), (1, 2, 3, 0, 0, 0, 0), (2, 5, 26, 0, 10, 0, 195), (5, 6, 9, 0, 2, 0, 0), (6, 7, 3, 0, 0, 0, 0), (7, 10, 26, 0, 11, 0, 197), (10, 11, 9, 0, 0, 0, 0), (11, 12, 43, 0, 0, 0, 0)]
/-- 3: FlagSignals$Deck.freeFlags(LFlagSignals$Ship;)I -/
def fg_c3 : List fg_I := [(0, 1, 3, 1, 0, 0, 0), (1, 4, 37, 36, 0, 0, 490), (4, 5, 3, 0, 0, 0, 0), (5, 8, 26, 0, 7, 0, 190), (8, 9, 0, 0, 0, (-1), 0), (9, 10, 9, 0, 5, 0, 0), (10, 11, 9, 0, 3, 0, 0), (11, 12, 5, 2, 0, 0, 0), (12, 13, 0, 0, 0, 0, 0), (13, 14, 5, 3, 0, 0, 0), (14, 15, 2, 3, 0, 0, 0), (15, 17, 0, 0, 0, 10, 0), (17, 20, 24, 44, 3, 0, 0), (20, 21, 3, 0, 0, 0, 0), (21, 24, 27, 0, 4, 0, 183), (24, 25, 2, 3, 0, 0, 0), (25, 26, 31, 0, 0, 0, 0), (26, 27, 0, 0, 0, (-1), 0), (27, 30, 24, 38, 0, 0, 0), (30, 31, 2, 2, 0, 0, 0), (31, 32, 0, 0, 0, 1, 0), (32, 33, 2, 3, 0, 0, 0), (33, 34, 9, 0, 6, 0, 0), (34, 35, 0, 0, 0, (-1), 0), (35, 36, 9, 0, 5, 0, 0), (36, 37, 9, 0, 3, 0, 0), (37, 38, 5, 2, 0, 0, 0), (38, 41, 8, 3, 0, 1, 0), (41, 44, 22, 14, 0, 0, 0), (44, 45, 2, 2, 0, 0, 0), (45, 46, 43, 0, 0, 0, 0)]
/-- 4: FlagSignals$Deck.freeSubstitutes(LFlagSignals$Ship;)I -/
def fg_c4 : List fg_I := [(0, 1, 3, 1, 0, 0, 0), (1, 4, 37, 37, 0, 0, 502), (4, 5, 3, 0, 0, 0, 0), (5, 8, 26, 0, 8, 0, 192), (8, 9, 0, 0, 0, (-1), 0), (9, 10, 9, 0, 5, 0, 0), (10, 11, 9, 0, 3, 0, 0), (11, 12, 43, 0, 0, 0, 0)]
/-- 5: FlagSignals$Deck.lookIn(III)I -/
def fg_c5 : List fg_I := [(0, 1, 2, 1, 0, 0, 0), (1, 4, 23, 10, 2, 0, 0), (4, 5, 2, 1, 0, 0, 0), (5, 7, 0, 0, 0, 10, 0), (7, 10, 24, 12, 2, 0, 0), (10, 11, 0, 0, 0, (-1), 0), (11, 12, 43, 0, 0, 0, 0), (12, 13, 3, 0, 0, 0, 0), (13, 16, 27, 0, 0, 0, 175), (16, 17, 2, 1, 0, 0, 0), (17, 18, 31, 0, 0, 0, 0), (18, 19, 3, 0, 0, 0, 0), (19, 22, 27, 0, 1, 0, 177), (22, 23, 2, 1, 0, 0, 0), (23, 24, 31, 0, 0, 0, 0), (24, 25, 3, 0, 0, 0, 0), (25, 28, 27, 0, 2, 0, 179), (28, 29, 2, 1, 0, 0, 0), (29, 30, 31, 0, 0, 0, 0), (30, 31, 2, 2, 0, 0, 0), (31, 32, 2, 3, 0, 0, 0), (32, 35, 41, 108, 5, 0, 1), (35, 36, 43, 0, 0, 0, 0)]
/-- 6: FlagSignals$Deck.lineOf(I)I -/
def fg_c6 : List fg_I := [(0, 1, 0, 0, 0, 0, 0), (1, 2, 5, 2, 0, 0, 0), (2, 3, 2, 2, 0, 0, 0), (3, 4, 0, 0, 0, 3, 0), (4, 7, 24, 25, 3, 0, 0), (7, 8, 3, 0, 0, 0, 0), (8, 11, 27, 0, 5, 0, 185), (11, 12, 2, 2, 0, 0, 0), (12, 13, 31, 0, 0, 0, 0), (13, 14, 2, 1, 0, 0, 0), (14, 17, 24, 19, 1, 0, 0), (17, 18, 2, 2, 0, 0, 0), (18, 19, 43, 0, 0, 0, 0), (19, 22, 8, 2, 0, 1, 0), (22, 25, 22, 2, 0, 0, 0), (25, 26, 0, 0, 0, (-1), 0), (26, 27, 43, 0, 0, 0, 0)]
/-- 7: FlagSignals$Deck.canBeSewn(I)Z -/
def fg_c7 : List fg_I := [(0, 1, 2, 1, 0, 0, 0), (1, 4, 23, 35, 2, 0, 0), (4, 5, 2, 1, 0, 0, 0), (5, 7, 0, 0, 0, 10, 0), (7, 10, 24, 35, 3, 0, 0), (10, 11, 3, 0, 0, 0, 0), (11, 14, 27, 0, 4, 0, 183), (14, 15, 2, 1, 0, 0, 0), (15, 16, 31, 0, 0, 0, 0), (16, 17, 0, 0, 0, (-1), 0), (17, 20, 24, 35, 1, 0, 0), (20, 21, 3, 0, 0, 0, 0), (21, 24, 26, 0, 7, 0, 190), (24, 25, 2, 1, 0, 0, 0), (25, 28, 41, 87, 2, 0, 4), (28, 31, 23, 35, 0, 0, 0), (31, 32, 0, 0, 0, 1, 0), (32, 35, 22, 36, 0, 0, 0), (35, 36, 0, 0, 0, 0, 0), (36, 37, 44, 0, 0, 0, 0)]
/-- 8: FlagSignals$Deck.mend(I)V -/
def fg_c8 : List fg_I := [(0, 1, 2, 1, 0, 0, 0), (1, 4, 23, 31, 2, 0, 0), (4, 5, 2, 1, 0, 0, 0), (5, 7, 0, 0, 0, 10, 0), (7, 10, 24, 31, 3, 0, 0), (10, 11, 3, 0, 0, 0, 0), (11, 14, 27, 0, 3, 0, 181), (14, 15, 2, 1, 0, 0, 0), (15, 16, 0, 0, 0, 0, 0), (16, 17, 32, 0, 0, 0, 0), (17, 18, 3, 0, 0, 0, 0), (18, 19, 19, 0, 0, 0, 0), (19, 22, 26, 0, 7, 0, 190), (22, 23, 0, 0, 0, 1, 0), (23, 24, 2, 1, 0, 0, 0), (24, 25, 9, 0, 6, 0, 0), (25, 26, 0, 0, 0, (-1), 0), (26, 27, 9, 0, 5, 0, 0), (27, 28, 9, 0, 3, 0, 0), (28, 31, 28, 0, 7, 0, 190), (31, 32, 45, 0, 0, 0, 0)]
/-- 9: FlagSignals$Deck.raise(II[I)I -/
def fg_c9 : List fg_I := [(0, 1, 0, 0, 0, 0, 0), (1, 3, 5, 4, 0, 0, 0), (3, 4, 3, 0, 0, 0, 0), (4, 7, 27, 0, 5, 0, 185), (7, 8, 2, 1, 0, 0, 0), (8, 9, 2, 2, 0, 0, 0), (9, 10, 32, 0, 0, 0, 0), (10, 11, 0, 0, 0, 0, 0), (11, 13, 5, 5, 0, 0, 0), (13, 15, 2, 5, 0, 0, 0), (15, 16, 0, 0, 0, 4, 0), (16, 19, 24, 100, 3, 0, 0), (19, 21, 2, 5, 0, 0, 0), (21, 22, 3, 3, 0, 0, 0), (22, 23, 36, 0, 0, 0, 0), (23, 26, 24, 100, 3, 0, 0), (26, 27, 3, 3, 0, 0, 0), (27, 29, 2, 5, 0, 0, 0), (29, 30, 31, 0, 0, 0, 0), (30, 32, 5, 6, 0, 0, 0), (32, 33, 3, 0, 0, 0, 0), (33, 36, 27, 0, 6, 0, 188), (36, 37, 2, 1, 0, 0, 0), (37, 38, 0, 0, 0, 4, 0), (38, 39, 9, 0, 2, 0, 0), (39, 41, 2, 5, 0, 0, 0), (41, 42, 9, 0, 0, 0, 0), (42, 44, 2, 6, 0, 0, 0), (44, 45, 32, 0, 0, 0, 0), (45, 47, 2, 6, 0, 0, 0), (47, 49, 0, 0, 0, 20, 0), (49, 52, 24, 74, 5, 0, 0), (52, 53, 3, 0, 0, 0, 0), (53, 54, 19, 0, 0, 0, 0), (54, 57, 26, 0, 8, 0, 192), (57, 58, 0, 0, 0, 1, 0), (58, 60, 2, 6, 0, 0, 0), (60, 62, 0, 0, 0, 20, 0), (62, 63, 9, 0, 1, 0, 0), (63, 64, 9, 0, 6, 0, 0), (64, 65, 9, 0, 4, 0, 0), (65, 68, 28, 0, 8, 0, 192), (68, 71, 8, 4, 0, 1, 0), (71, 74, 22, 94, 0, 0, 0), (74, 76, 2, 6, 0, 0, 0), (76, 79, 23, 94, 2, 0, 0), (79, 81, 2, 6, 0, 0, 0), (81, 83, 0, 0, 0, 10, 0), (83, 86, 24, 94, 3, 0, 0), (86, 87, 3, 0, 0, 0, 0), (87, 90, 27, 0, 4, 0, 183), (90, 92, 2, 6, 0, 0, 0), (92, 93, 2, 1, 0, 0, 0), (93, 94, 32, 0, 0, 0, 0), (94, 97, 8, 5, 0, 1, 0), (97, 100, 22, 13, 0, 0, 0), (100, 102, 2, 4, 0, 0, 0), (102, 103, 43, 0, 0, 0, 0)]
/-- 10: FlagSignals$Deck.lower(I)I -/
def fg_c10 : List fg_I := [(0, 1, 3, 0, 0, 0, 0), (1, 4, 27, 0, 5, 0, 185), (4, 5, 2, 1, 0, 0, 0), (5, 6, 31, 0, 0, 0, 0), (6, 7, 5, 2, 0, 0, 0), (7, 8, 0, 0, 0, 0, 0), (8, 9, 5, 3, 0, 0, 0), (9, 10, 2, 3, 0, 0, 0), (10, 11, 0, 0, 0, 4, 0), (11, 14, 24, 80, 3, 0, 0), (14, 15, 3, 0, 0, 0, 0), (15, 18, 27, 0, 6, 0, 188), (18, 19, 2, 1, 0, 0, 0), (19, 20, 0, 0, 0, 4, 0), (20, 21, 9, 0, 2, 0, 0), (21, 22, 2, 3, 0, 0, 0), (22, 23, 9, 0, 0, 0, 0), (23, 24, 31, 0, 0, 0, 0), (24, 26, 5, 4, 0, 0, 0), (26, 28, 2, 4, 0, 0, 0), (28, 30, 0, 0, 0, 20, 0), (30, 33, 24, 54, 5, 0, 0), (33, 34, 3, 0, 0, 0, 0), (34, 35, 19, 0, 0, 0, 0), (35, 38, 26, 0, 8, 0, 192), (38, 39, 0, 0, 0, 1, 0), (39, 41, 2, 4, 0, 0, 0), (41, 43, 0, 0, 0, 20, 0), (43, 44, 9, 0, 1, 0, 0), (44, 45, 9, 0, 6, 0, 0), (45, 46, 0, 0, 0, (-1), 0), (46, 47, 9, 0, 5, 0, 0), (47, 48, 9, 0, 3, 0, 0), (48, 51, 28, 0, 8, 0, 192), (51, 54, 22, 74, 0, 0, 0), (54, 56, 2, 4, 0, 0, 0), (56, 59, 23, 74, 2, 0, 0), (59, 61, 2, 4, 0, 0, 0), (61, 63, 0, 0, 0, 10, 0), (63, 66, 24, 74, 3, 0, 0), (66, 67, 3, 0, 0, 0, 0), (67, 70, 27, 0, 4, 0, 183), (70, 72, 2, 4, 0, 0, 0), (72, 73, 0, 0, 0, (-1), 0), (73, 74, 32, 0, 0, 0, 0), (74, 77, 8, 3, 0, 1, 0), (77, 80, 22, 9, 0, 0, 0), (80, 81, 3, 0, 0, 0, 0), (81, 82, 2, 1, 0, 0, 0), (82, 85, 38, 11, 1, 0, 352), (85, 86, 2, 2, 0, 0, 0), (86, 87, 43, 0, 0, 0, 0)]
/-- 11: FlagSignals$Deck.emptyLine(I)V -/
def fg_c11 : List fg_I := [(0, 1, 3, 0, 0, 0, 0), (1, 4, 27, 0, 5, 0, 185), (4, 5, 2, 1, 0, 0, 0), (5, 6, 0, 0, 0, (-1), 0), (6, 7, 32, 0, 0, 0, 0), (7, 8, 0, 0, 0, 0, 0), (8, 9, 5, 2, 0, 0, 0), (9, 10, 2, 2, 0, 0, 0), (10, 11, 0, 0, 0, 4, 0), (11, 14, 24, 31, 3, 0, 0), (14, 15, 3, 0, 0, 0, 0), (15, 18, 27, 0, 6, 0, 188), (18, 19, 2, 1, 0, 0, 0), (19, 20, 0, 0, 0, 4, 0), (20, 21, 9, 0, 2, 0, 0), (21, 22, 2, 2, 0, 0, 0), (22, 23, 9, 0, 0, 0, 0), (23, 24, 0, 0, 0, (-1), 0), (24, 25, 32, 0, 0, 0, 0), (25, 28, 8, 2, 0, 1, 0), (28, 31, 22, 9, 0, 0, 0), (31, 32, 45, 0, 0, 0, 0)]
/-- 12: FlagSignals$Deck.passDay(LFlagSignals$Ship;)V -/
def fg_c12 : List fg_I := [(0, 1, 0, 0, 0, 0, 0), (1, 2, 5, 2, 0, 0, 0), (2, 3, 2, 2, 0, 0, 0), (3, 4, 3, 1, 0, 0, 0), (4, 7, 26, 6, 2, 0, 135), (7, 10, 24, 75, 3, 0, 0), (10, 11, 2, 2, 0, 0, 0), (11, 13, 0, 0, 0, 10, 0), (13, 16, 24, 75, 3, 0, 0), (16, 17, 3, 0, 0, 0, 0), (17, 20, 27, 0, 4, 0, 183), (20, 21, 2, 2, 0, 0, 0), (21, 22, 31, 0, 0, 0, 0), (22, 23, 0, 0, 0, (-1), 0), (23, 26, 24, 69, 0, 0, 0), (26, 27, 3, 0, 0, 0, 0), (27, 30, 26, 0, 7, 0, 190), (30, 31, 2, 2, 0, 0, 0), (31, 34, 41, 87, 2, 0, 4), (34, 37, 23, 69, 1, 0, 0), (37, 38, 3, 0, 0, 0, 0), (38, 41, 27, 0, 3, 0, 181), (41, 42, 2, 2, 0, 0, 0), (42, 43, 21, 0, 0, 0, 0), (43, 44, 31, 0, 0, 0, 0), (44, 45, 0, 0, 0, 1, 0), (45, 46, 9, 0, 0, 0, 0), (46, 47, 32, 0, 0, 0, 0), (47, 48, 3, 0, 0, 0, 0), (48, 51, 27, 0, 3, 0, 181), (51, 52, 2, 2, 0, 0, 0), (52, 53, 31, 0, 0, 0, 0), (53, 54, 0, 0, 0, 5, 0), (54, 57, 24, 69, 2, 0, 0), (57, 58, 3, 0, 0, 0, 0), (58, 59, 19, 0, 0, 0, 0), (59, 62, 26, 0, 7, 0, 190), (62, 63, 0, 0, 0, 1, 0), (63, 64, 2, 2, 0, 0, 0), (64, 65, 9, 0, 6, 0, 0), (65, 66, 9, 0, 4, 0, 0), (66, 69, 28, 0, 7, 0, 190), (69, 72, 8, 2, 0, 1, 0), (72, 75, 22, 2, 0, 0, 0), (75, 76, 3, 0, 0, 0, 0), (76, 77, 19, 0, 0, 0, 0), (77, 80, 26, 0, 9, 0, 193), (80, 81, 0, 0, 0, 1, 0), (81, 82, 9, 0, 0, 0, 0), (82, 85, 28, 0, 9, 0, 193), (85, 86, 45, 0, 0, 0, 0)]
/-- 13: FlagSignals$Locker.open(II)V -/
def fg_c13 : List fg_I := [(0, 1, 3, 0, 0, 0, 0), (1, 2, 2, 1, 0, 0, 0), (2, 5, 28, 2, 0, 0, 279), (5, 6, 3, 0, 0, 0, 0), (6, 7, 2, 2, 0, 0, 0), (7, 10, 28, 2, 1, 0, 280), (10, 11, 45, 0, 0, 0, 0)]
/-- 14: FlagSignals$Locker.take(LFlagSignals$Ship;I)Z -/
def fg_c14 : List fg_I := [(0, 1, 3, 0, 0, 0, 0), (1, 4, 38, 16, 0, 0, 514), (4, 5, 3, 1, 0, 0, 0), (5, 6, 2, 2, 0, 0, 0), (6, 9, 37, 33, 1, 0, 518), (9, 12, 23, 14, 1, 0, 0), (12, 13, 0, 0, 0, 0, 0), (13, 14, 44, 0, 0, 0, 0), (14, 15, 3, 0, 0, 0, 0), (15, 18, 26, 2, 0, 0, 279), (18, 19, 5, 3, 0, 0, 0), (19, 20, 3, 0, 0, 0, 0), (20, 23, 26, 2, 1, 0, 280), (23, 25, 5, 4, 0, 0, 0), (25, 26, 0, 0, 0, 0, 0), (26, 28, 5, 5, 0, 0, 0), (28, 30, 2, 5, 0, 0, 0), (30, 31, 3, 1, 0, 0, 0), (31, 34, 27, 6, 7, 0, 147), (34, 35, 2, 2, 0, 0, 0), (35, 36, 31, 0, 0, 0, 0), (36, 39, 24, 132, 3, 0, 0), (39, 41, 2, 5, 0, 0, 0), (41, 42, 0, 0, 0, 4, 0), (42, 45, 24, 132, 3, 0, 0), (45, 46, 3, 0, 0, 0, 0), (46, 47, 3, 1, 0, 0, 0), (47, 48, 2, 2, 0, 0, 0), (48, 50, 2, 5, 0, 0, 0), (50, 53, 37, 15, 3, 0, 522), (53, 55, 5, 6, 0, 0, 0), (55, 57, 2, 6, 0, 0, 0), (57, 58, 0, 0, 0, (-1), 0), (58, 61, 24, 74, 1, 0, 0), (61, 62, 3, 0, 0, 0, 0), (62, 63, 2, 3, 0, 0, 0), (63, 65, 2, 4, 0, 0, 0), (65, 68, 38, 13, 2, 0, 533), (68, 69, 3, 0, 0, 0, 0), (69, 72, 38, 16, 0, 0, 514), (72, 73, 0, 0, 0, 0, 0), (73, 74, 44, 0, 0, 0, 0), (74, 75, 3, 0, 0, 0, 0), (75, 78, 27, 2, 2, 0, 281), (78, 80, 2, 5, 0, 0, 0), (80, 82, 2, 6, 0, 0, 0), (82, 83, 32, 0, 0, 0, 0), (83, 85, 2, 6, 0, 0, 0), (85, 87, 0, 0, 0, 20, 0), (87, 90, 24, 111, 5, 0, 0), (90, 91, 3, 0, 0, 0, 0), (91, 92, 19, 0, 0, 0, 0), (92, 95, 26, 2, 1, 0, 280), (95, 96, 0, 0, 0, 1, 0), (96, 98, 2, 6, 0, 0, 0), (98, 100, 0, 0, 0, 20, 0), (100, 101, 9, 0, 1, 0, 0), (101, 102, 9, 0, 6, 0, 0), (102, 103, 0, 0, 0, (-1), 0), (103, 104, 9, 0, 5, 0, 0), (104, 105, 9, 0, 3, 0, 0), (105, 108, 28, 2, 1, 0, 280), (108, 111, 22, 126, 0, 0, 0), (111, 112, 3, 0, 0, 0, 0), (112, 113, 19, 0, 0, 0, 0), (113, 116, 26, 2, 0, 0, 279), (116, 117, 0, 0, 0, 1, 0), (117, 119, 2, 6, 0, 0, 0), (119, 120, 9, 0, 6, 0, 0), (120, 121, 0, 0, 0, (-1), 0), (121, 122, 9, 0, 5, 0, 0), (122, 123, 9, 0, 3, 0, 0), (123, 126, 28, 2, 0, 0, 279), (126, 129, 8, 5, 0, 1, 0), (129, 132, 22, 28, 0, 0, 0), (132, 133, 0, 0, 0, 1, 0), (133, 134, 44, 0, 0, 0, 0)]
/-- 15: FlagSignals$Locker.pieceFor(LFlagSignals$Ship;II)I -/
def fg_c15 : List fg_I := [(0, 1, 3, 1, 0, 0, 0), (1, 2, 2, 2, 0, 0, 0), (2, 3, 2, 3, 0, 0, 0), (3, 6, 37, 42, 2, 0, 526), (6, 8, 5, 4, 0, 0, 0), (8, 9, 3, 0, 0, 0, 0), (9, 12, 26, 2, 0, 0, 279), (12, 14, 2, 4, 0, 0, 0), (14, 17, 41, 87, 2, 0, 0), (17, 20, 23, 23, 0, 0, 0), (20, 22, 2, 4, 0, 0, 0), (22, 23, 43, 0, 0, 0, 0), (23, 24, 0, 0, 0, 1, 0), (24, 26, 5, 5, 0, 0, 0), (26, 28, 2, 5, 0, 0, 0), (28, 29, 2, 3, 0, 0, 0), (29, 32, 24, 76, 4, 0, 0), (32, 34, 2, 5, 0, 0, 0), (34, 35, 0, 0, 0, 3, 0), (35, 38, 24, 76, 4, 0, 0), (38, 39, 3, 0, 0, 0, 0), (39, 42, 26, 2, 1, 0, 280), (42, 44, 2, 5, 0, 0, 0), (44, 47, 41, 87, 2, 0, 0), (47, 50, 23, 70, 0, 0, 0), (50, 51, 3, 1, 0, 0, 0), (51, 52, 2, 2, 0, 0, 0), (52, 54, 2, 5, 0, 0, 0), (54, 55, 0, 0, 0, 1, 0), (55, 56, 9, 0, 1, 0, 0), (56, 59, 37, 42, 2, 0, 526), (59, 61, 2, 4, 0, 0, 0), (61, 64, 24, 70, 1, 0, 0), (64, 66, 0, 0, 0, 20, 0), (66, 68, 2, 5, 0, 0, 0), (68, 69, 9, 0, 0, 0, 0), (69, 70, 43, 0, 0, 0, 0), (70, 73, 8, 5, 0, 1, 0), (73, 76, 22, 26, 0, 0, 0), (76, 77, 0, 0, 0, (-1), 0), (77, 78, 43, 0, 0, 0, 0)]
/-- 16: FlagSignals$Locker.emptyRow()V -/
def fg_c16 : List fg_I := [(0, 1, 0, 0, 0, 0, 0), (1, 2, 5, 1, 0, 0, 0), (2, 3, 2, 1, 0, 0, 0), (3, 4, 0, 0, 0, 4, 0), (4, 7, 24, 20, 3, 0, 0), (7, 8, 3, 0, 0, 0, 0), (8, 11, 27, 2, 2, 0, 281), (11, 12, 2, 1, 0, 0, 0), (12, 13, 0, 0, 0, (-1), 0), (13, 14, 32, 0, 0, 0, 0), (14, 17, 8, 1, 0, 1, 0), (17, 20, 22, 2, 0, 0, 0), (20, 21, 45, 0, 0, 0, 0)]
/-- 17: FlagSignals$Log.addRead(II)Z -/
def fg_c17 : List fg_I := [(0, 1, 3, 0, 0, 0, 0), (1, 4, 26, 3, 4, 0, 256), (4, 6, 0, 0, 0, 8, 0), (6, 9, 24, 11, 2, 0, 0), (9, 10, 0, 0, 0, 0, 0), (10, 11, 44, 0, 0, 0, 0), (11, 12, 3, 0, 0, 0, 0), (12, 15, 27, 3, 0, 0, 252), (15, 16, 3, 0, 0, 0, 0), (16, 19, 26, 3, 4, 0, 256), (19, 20, 2, 1, 0, 0, 0), (20, 21, 32, 0, 0, 0, 0), (21, 22, 3, 0, 0, 0, 0), (22, 25, 27, 3, 1, 0, 253), (25, 26, 3, 0, 0, 0, 0), (26, 29, 26, 3, 4, 0, 256), (29, 30, 2, 2, 0, 0, 0), (30, 31, 32, 0, 0, 0, 0), (31, 32, 3, 0, 0, 0, 0), (32, 33, 19, 0, 0, 0, 0), (33, 36, 26, 3, 4, 0, 256), (36, 37, 0, 0, 0, 1, 0), (37, 38, 9, 0, 0, 0, 0), (38, 41, 28, 3, 4, 0, 256), (41, 42, 0, 0, 0, 1, 0), (42, 43, 44, 0, 0, 0, 0)]
/-- 18: FlagSignals$Log.addEntry(II)Z -/
def fg_c18 : List fg_I := [(0, 1, 3, 0, 0, 0, 0), (1, 4, 26, 3, 5, 0, 258), (4, 6, 0, 0, 0, 15, 0), (6, 9, 24, 11, 2, 0, 0), (9, 10, 0, 0, 0, 0, 0), (10, 11, 44, 0, 0, 0, 0), (11, 12, 3, 0, 0, 0, 0), (12, 15, 27, 3, 2, 0, 254), (15, 16, 3, 0, 0, 0, 0), (16, 19, 26, 3, 5, 0, 258), (19, 20, 2, 1, 0, 0, 0), (20, 21, 32, 0, 0, 0, 0), (21, 22, 3, 0, 0, 0, 0), (22, 25, 27, 3, 3, 0, 255), (25, 26, 3, 0, 0, 0, 0), (26, 29, 26, 3, 5, 0, 258), (29, 30, 2, 2, 0, 0, 0), (30, 31, 32, 0, 0, 0, 0), (31, 32, 3, 0, 0, 0, 0), (32, 33, 19, 0, 0, 0, 0), (33, 36, 26, 3, 5, 0, 258), (36, 37, 0, 0, 0, 1, 0), (37, 38, 9, 0, 0, 0, 0), (38, 41, 28, 3, 5, 0, 258), (41, 42, 0, 0, 0, 1, 0), (42, 43, 44, 0, 0, 0, 0)]
/-- 19: FlagSignals$Log.wipe()V -/
def fg_c19 : List fg_I := [(0, 1, 3, 0, 0, 0, 0), (1, 2, 0, 0, 0, 0, 0), (2, 5, 28, 3, 4, 0, 256), (5, 6, 3, 0, 0, 0, 0), (6, 7, 0, 0, 0, 0, 0), (7, 10, 28, 3, 5, 0, 258), (10, 11, 45, 0, 0, 0, 0)]
/-- 20: FlagSignals$Log.fits(LFlagSignals$Ship;LFlagSignals$Watch;)Z -/
def fg_c20 : List fg_I := [(0, 1, 0, 0, 0, 0, 0), (1, 2, 5, 3, 0, 0, 0), (2, 3, 2, 3, 0, 0, 0), (3, 4, 3, 0, 0, 0, 0), (4, 7, 26, 3, 4, 0, 256), (7, 10, 24, 47, 3, 0, 0), (10, 11, 2, 3, 0, 0, 0), (11, 13, 0, 0, 0, 8, 0), (13, 16, 24, 47, 3, 0, 0), (16, 17, 3, 2, 0, 0, 0), (17, 18, 3, 1, 0, 0, 0), (18, 19, 3, 0, 0, 0, 0), (19, 22, 27, 3, 0, 0, 252), (22, 23, 2, 3, 0, 0, 0), (23, 24, 31, 0, 0, 0, 0), (24, 27, 37, 58, 2, 0, 642), (27, 28, 3, 0, 0, 0, 0), (28, 31, 27, 3, 1, 0, 253), (31, 32, 2, 3, 0, 0, 0), (32, 33, 31, 0, 0, 0, 0), (33, 36, 41, 87, 2, 0, 3), (36, 39, 23, 41, 1, 0, 0), (39, 40, 0, 0, 0, 0, 0), (40, 41, 44, 0, 0, 0, 0), (41, 44, 8, 3, 0, 1, 0), (44, 47, 22, 2, 0, 0, 0), (47, 48, 0, 0, 0, 1, 0), (48, 49, 44, 0, 0, 0, 0)]
/-- 21: FlagSignals$Log.firstFalse(LFlagSignals$Deck;)I -/
def fg_c21 : List fg_I := [(0, 1, 0, 0, 0, 0, 0), (1, 2, 5, 2, 0, 0, 0), (2, 3, 2, 2, 0, 0, 0), (3, 4, 3, 0, 0, 0, 0), (4, 7, 26, 3, 5, 0, 258), (7, 10, 24, 55, 3, 0, 0), (10, 11, 2, 2, 0, 0, 0), (11, 13, 0, 0, 0, 15, 0), (13, 16, 24, 55, 3, 0, 0), (16, 17, 3, 0, 0, 0, 0), (17, 20, 27, 3, 2, 0, 254), (20, 21, 2, 2, 0, 0, 0), (21, 22, 31, 0, 0, 0, 0), (22, 23, 5, 3, 0, 0, 0), (23, 24, 2, 3, 0, 0, 0), (24, 27, 23, 49, 2, 0, 0), (27, 28, 2, 3, 0, 0, 0), (28, 29, 0, 0, 0, 3, 0), (29, 32, 24, 49, 3, 0, 0), (32, 33, 3, 1, 0, 0, 0), (33, 36, 27, 0, 5, 0, 186), (36, 37, 2, 3, 0, 0, 0), (37, 38, 31, 0, 0, 0, 0), (38, 39, 3, 0, 0, 0, 0), (39, 42, 27, 3, 3, 0, 255), (42, 43, 2, 2, 0, 0, 0), (43, 44, 31, 0, 0, 0, 0), (44, 47, 24, 49, 0, 0, 0), (47, 48, 2, 2, 0, 0, 0), (48, 49, 43, 0, 0, 0, 0), (49, 52, 8, 2, 0, 1, 0), (52, 55, 22, 2, 0, 0, 0), (55, 56, 0, 0, 0, (-1), 0), (56, 57, 43, 0, 0, 0, 0)]
/-- 22: FlagSignals$Past.remember(LFlagSignals$Deck;)V -/
def fg_c22 : List fg_I := [(0, 1, 3, 0, 0, 0, 0), (1, 4, 27, 4, 0, 0, 233), (4, 5, 3, 0, 0, 0, 0), (5, 8, 26, 4, 1, 0, 234), (8, 9, 3, 0, 0, 0, 0), (9, 12, 26, 4, 2, 0, 235), (12, 13, 9, 0, 0, 0, 0), (13, 15, 0, 0, 0, 16, 0), (15, 16, 11, 0, 0, 0, 0), (16, 17, 35, 0, 0, 0, 0), (17, 18, 3, 1, 0, 0, 0), (18, 21, 38, 1, 1, 0, 709), (21, 22, 3, 0, 0, 0, 0), (22, 25, 26, 4, 2, 0, 235), (25, 27, 0, 0, 0, 16, 0), (27, 30, 24, 43, 3, 0, 0), (30, 31, 3, 0, 0, 0, 0), (31, 32, 19, 0, 0, 0, 0), (32, 35, 26, 4, 2, 0, 235), (35, 36, 0, 0, 0, 1, 0), (36, 37, 9, 0, 0, 0, 0), (37, 40, 28, 4, 2, 0, 235), (40, 43, 22, 56, 0, 0, 0), (43, 44, 3, 0, 0, 0, 0), (44, 45, 3, 0, 0, 0, 0), (45, 48, 26, 4, 1, 0, 234), (48, 49, 0, 0, 0, 1, 0), (49, 50, 9, 0, 0, 0, 0), (50, 52, 0, 0, 0, 16, 0), (52, 53, 11, 0, 0, 0, 0), (53, 56, 28, 4, 1, 0, 234), (56, 57, 45, 0, 0, 0, 0)]
/-- 23: FlagSignals$Past.giveBack(LFlagSignals$Deck;)V -/
def fg_c23 : List fg_I := [(0, 1, 3, 0, 0, 0, 0), (1, 4, 26, 4, 2, 0, 235), (4, 7, 23, 38, 5, 0, 0), (7, 8, 3, 0, 0, 0, 0), (8, 9, 19, 0, 0, 0, 0), (9, 12, 26, 4, 2, 0, 235), (12, 13, 0, 0, 0, 1, 0), (13, 14, 9, 0, 1, 0, 0), (14, 17, 28, 4, 2, 0, 235), (17, 18, 3, 1, 0, 0, 0), (18, 19, 3, 0, 0, 0, 0), (19, 22, 27, 4, 0, 0, 233), (22, 23, 3, 0, 0, 0, 0), (23, 26, 26, 4, 1, 0, 234), (26, 27, 3, 0, 0, 0, 0), (27, 30, 26, 4, 2, 0, 235), (30, 31, 9, 0, 0, 0, 0), (31, 33, 0, 0, 0, 16, 0), (33, 34, 11, 0, 0, 0, 0), (34, 35, 35, 0, 0, 0, 0), (35, 38, 38, 1, 1, 0, 709), (38, 39, 45, 0, 0, 0, 0)]
/-- 24: FlagSignals$Past.forget()V -/
def fg_c24 : List fg_I := [(0, 1, 3, 0, 0, 0, 0), (1, 2, 0, 0, 0, 0, 0), (2, 5, 28, 4, 1, 0, 234), (5, 6, 3, 0, 0, 0, 0), (6, 7, 0, 0, 0, 0, 0), (7, 10, 28, 4, 2, 0, 235), (10, 11, 45, 0, 0, 0, 0)]
/-- 25: FlagSignals$Rota.largestGroup()I -/
def fg_c25 : List fg_I := [(0, 1, 0, 0, 0, 0, 0), (1, 2, 5, 1, 0, 0, 0), (2, 3, 0, 0, 0, 1, 0), (3, 4, 5, 2, 0, 0, 0), (4, 5, 2, 2, 0, 0, 0), (5, 8, 0, 0, 0, 1024, 0), (8, 11, 24, 39, 3, 0, 0), (11, 12, 3, 0, 0, 0, 0), (12, 15, 27, 5, 0, 0, 318), (15, 16, 2, 2, 0, 0, 0), (16, 17, 33, 0, 0, 0, 0), (17, 20, 23, 33, 0, 0, 0), (20, 21, 2, 2, 0, 0, 0), (21, 24, 39, 195, 1, 0, 614), (24, 25, 2, 1, 0, 0, 0), (25, 28, 39, 195, 1, 0, 614), (28, 31, 24, 33, 5, 0, 0), (31, 32, 2, 2, 0, 0, 0), (32, 33, 5, 1, 0, 0, 0), (33, 36, 8, 2, 0, 1, 0), (36, 39, 22, 4, 0, 0, 0), (39, 40, 2, 1, 0, 0, 0), (40, 41, 43, 0, 0, 0, 0)]
/-- 26: FlagSignals$Rota.plan(I)V -/
def fg_c26 : List fg_I := [(0, 1, 3, 0, 0, 0, 0), (1, 4, 27, 5, 1, 0, 320), (4, 5, 0, 0, 0, 0, 0), (5, 6, 0, 0, 0, 0, 0), (6, 7, 32, 0, 0, 0, 0), (7, 8, 0, 0, 0, 1, 0), (8, 9, 5, 2, 0, 0, 0), (9, 10, 2, 2, 0, 0, 0), (10, 11, 2, 1, 0, 0, 0), (11, 14, 24, 46, 4, 0, 0), (14, 15, 2, 2, 0, 0, 0), (15, 18, 0, 0, 0, 1024, 0), (18, 21, 24, 46, 3, 0, 0), (21, 22, 2, 2, 0, 0, 0), (22, 23, 2, 1, 0, 0, 0), (23, 24, 0, 0, 0, (-1), 0), (24, 25, 9, 0, 5, 0, 0), (25, 26, 9, 0, 3, 0, 0), (26, 29, 23, 40, 1, 0, 0), (29, 30, 3, 0, 0, 0, 0), (30, 33, 27, 5, 1, 0, 320), (33, 34, 2, 2, 0, 0, 0), (34, 35, 3, 0, 0, 0, 0), (35, 36, 2, 2, 0, 0, 0), (36, 39, 37, 27, 1, 0, 815), (39, 40, 32, 0, 0, 0, 0), (40, 43, 8, 2, 0, 1, 0), (43, 46, 22, 9, 0, 0, 0), (46, 47, 45, 0, 0, 0, 0)]
/-- 27: FlagSignals$Rota.fewestOf(I)I -/
def fg_c27 : List fg_I := [(0, 1, 2, 1, 0, 0, 0), (1, 2, 2, 1, 0, 0, 0), (2, 3, 12, 0, 0, 0, 0), (3, 4, 9, 0, 3, 0, 0), (4, 5, 5, 2, 0, 0, 0), (5, 6, 2, 1, 0, 0, 0), (6, 7, 2, 2, 0, 0, 0), (7, 8, 0, 0, 0, (-1), 0), (8, 9, 9, 0, 5, 0, 0), (9, 10, 9, 0, 3, 0, 0), (10, 11, 5, 3, 0, 0, 0), (11, 12, 3, 0, 0, 0, 0), (12, 15, 27, 5, 1, 0, 320), (15, 16, 2, 3, 0, 0, 0), (16, 17, 31, 0, 0, 0, 0), (17, 18, 0, 0, 0, 1, 0), (18, 19, 9, 0, 0, 0, 0), (19, 21, 5, 4, 0, 0, 0), (21, 22, 2, 3, 0, 0, 0), (22, 24, 5, 5, 0, 0, 0), (24, 26, 2, 5, 0, 0, 0), (26, 29, 23, 72, 5, 0, 0), (29, 30, 3, 0, 0, 0, 0), (30, 33, 27, 5, 0, 0, 318), (33, 34, 2, 2, 0, 0, 0), (34, 36, 2, 5, 0, 0, 0), (36, 37, 9, 0, 4, 0, 0), (37, 38, 33, 0, 0, 0, 0), (38, 41, 23, 61, 0, 0, 0), (41, 43, 2, 4, 0, 0, 0), (43, 44, 3, 0, 0, 0, 0), (44, 47, 27, 5, 1, 0, 320), (47, 48, 2, 3, 0, 0, 0), (48, 50, 2, 5, 0, 0, 0), (50, 51, 0, 0, 0, (-1), 0), (51, 52, 9, 0, 5, 0, 0), (52, 53, 9, 0, 3, 0, 0), (53, 54, 31, 0, 0, 0, 0), (54, 55, 0, 0, 0, 1, 0), (55, 56, 9, 0, 0, 0, 0), (56, 59, 46, 0, 0, 0, 819), (59, 61, 5, 4, 0, 0, 0), (61, 63, 2, 5, 0, 0, 0), (63, 64, 0, 0, 0, 1, 0), (64, 65, 9, 0, 1, 0, 0), (65, 66, 2, 3, 0, 0, 0), (66, 67, 9, 0, 3, 0, 0), (67, 69, 5, 5, 0, 0, 0), (69, 72, 22, 24, 0, 0, 0), (72, 74, 2, 4, 0, 0, 0), (74, 75, 43, 0, 0, 0, 0)]
/-- 28: FlagSignals$Rota.firstGroup(I)I -/
def fg_c28 : List fg_I := [(0, 1, 0, 0, 0, 1, 0), (1, 2, 5, 2, 0, 0, 0), (2, 3, 2, 2, 0, 0, 0), (3, 4, 2, 1, 0, 0, 0), (4, 7, 24, 52, 4, 0, 0), (7, 8, 2, 2, 0, 0, 0), (8, 11, 0, 0, 0, 1024, 0), (11, 14, 24, 52, 3, 0, 0), (14, 15, 3, 0, 0, 0, 0), (15, 18, 27, 5, 0, 0, 318), (18, 19, 2, 2, 0, 0, 0), (19, 20, 33, 0, 0, 0, 0), (20, 23, 23, 46, 0, 0, 0), (23, 24, 3, 0, 0, 0, 0), (24, 27, 27, 5, 1, 0, 320), (27, 28, 2, 1, 0, 0, 0), (28, 29, 2, 2, 0, 0, 0), (29, 30, 0, 0, 0, (-1), 0), (30, 31, 9, 0, 5, 0, 0), (31, 32, 9, 0, 3, 0, 0), (32, 33, 31, 0, 0, 0, 0), (33, 34, 3, 0, 0, 0, 0), (34, 37, 27, 5, 1, 0, 320), (37, 38, 2, 1, 0, 0, 0), (38, 39, 31, 0, 0, 0, 0), (39, 40, 0, 0, 0, 1, 0), (40, 41, 9, 0, 1, 0, 0), (41, 44, 24, 46, 1, 0, 0), (44, 45, 2, 2, 0, 0, 0), (45, 46, 43, 0, 0, 0, 0), (46, 49, 8, 2, 0, 1, 0), (49, 52, 22, 2, 0, 0, 0), (52, 53, 0, 0, 0, (-1), 0), (53, 54, 43, 0, 0, 0, 0)]
/-- 29: FlagSignals$Ship.strike()V -/
def fg_c29 : List fg_I := [(0, 1, 3, 0, 0, 0, 0), (1, 2, 0, 0, 0, 0, 0), (2, 5, 28, 6, 0, 0, 126), (5, 6, 3, 0, 0, 0, 0), (6, 7, 0, 0, 0, 0, 0), (7, 10, 28, 6, 1, 0, 129), (10, 11, 3, 0, 0, 0, 0), (11, 12, 0, 0, 0, 0, 0), (12, 15, 28, 6, 2, 0, 132), (15, 16, 3, 0, 0, 0, 0), (16, 17, 0, 0, 0, 0, 0), (17, 20, 28, 6, 3, 0, 136), (20, 21, 45, 0, 0, 0, 0)]
/-- 30: FlagSignals$Ship.stands()Z -/
def fg_c30 : List fg_I := [(0, 1, 3, 0, 0, 0, 0), (1, 4, 26, 6, 0, 0, 126), (4, 7, 23, 11, 5, 0, 0), (7, 8, 0, 0, 0, 1, 0), (8, 11, 22, 12, 0, 0, 0), (11, 12, 0, 0, 0, 0, 0), (12, 13, 44, 0, 0, 0, 0)]
/-- 31: FlagSignals$Ship.hasLine(I)Z -/
def fg_c31 : List fg_I := [(0, 1, 2, 1, 0, 0, 0), (1, 4, 23, 21, 2, 0, 0), (4, 5, 2, 1, 0, 0, 0), (5, 6, 3, 0, 0, 0, 0), (6, 9, 26, 6, 0, 0, 126), (9, 12, 24, 21, 3, 0, 0), (12, 13, 2, 1, 0, 0, 0), (13, 14, 0, 0, 0, 3, 0), (14, 17, 24, 21, 3, 0, 0), (17, 18, 0, 0, 0, 1, 0), (18, 21, 22, 22, 0, 0, 0), (21, 22, 0, 0, 0, 0, 0), (22, 23, 44, 0, 0, 0, 0)]
/-- 32: FlagSignals$Ship.hasFlag(I)Z -/
def fg_c32 : List fg_I := [(0, 1, 2, 1, 0, 0, 0), (1, 4, 23, 22, 2, 0, 0), (4, 5, 2, 1, 0, 0, 0), (5, 6, 3, 0, 0, 0, 0), (6, 9, 26, 6, 2, 0, 132), (9, 12, 24, 22, 3, 0, 0), (12, 13, 2, 1, 0, 0, 0), (13, 15, 0, 0, 0, 10, 0), (15, 18, 24, 22, 3, 0, 0), (18, 19, 0, 0, 0, 1, 0), (19, 22, 22, 23, 0, 0, 0), (22, 23, 0, 0, 0, 0, 0), (23, 24, 44, 0, 0, 0, 0)]
/-- 33: FlagSignals$Ship.hasSignal(I)Z -/
def fg_c33 : List fg_I := [(0, 1, 2, 1, 0, 0, 0), (1, 4, 23, 22, 2, 0, 0), (4, 5, 2, 1, 0, 0, 0), (5, 6, 3, 0, 0, 0, 0), (6, 9, 26, 6, 3, 0, 136), (9, 12, 24, 22, 3, 0, 0), (12, 13, 2, 1, 0, 0, 0), (13, 15, 0, 0, 0, 10, 0), (15, 18, 24, 22, 3, 0, 0), (18, 19, 0, 0, 0, 1, 0), (19, 22, 22, 23, 0, 0, 0), (22, 23, 0, 0, 0, 0, 0), (23, 24, 44, 0, 0, 0, 0)]
/-- 34: FlagSignals$Ship.hasAll(I)Z -/
def fg_c34 : List fg_I := [(0, 1, 2, 1, 0, 0, 0), (1, 2, 3, 0, 0, 0, 0), (2, 5, 37, 35, 0, 0, 806), (5, 6, 0, 0, 0, (-1), 0), (6, 7, 9, 0, 5, 0, 0), (7, 8, 9, 0, 3, 0, 0), (8, 11, 23, 15, 1, 0, 0), (11, 12, 0, 0, 0, 1, 0), (12, 15, 22, 16, 0, 0, 0), (15, 16, 0, 0, 0, 0, 0), (16, 17, 44, 0, 0, 0, 0)]
/-- 35: FlagSignals$Ship.allSignals()I -/
def fg_c35 : List fg_I := [(0, 1, 0, 0, 0, 1, 0), (1, 2, 3, 0, 0, 0, 0), (2, 5, 26, 6, 3, 0, 136), (5, 6, 9, 0, 6, 0, 0), (6, 7, 0, 0, 0, 1, 0), (7, 8, 9, 0, 1, 0, 0), (8, 9, 43, 0, 0, 0, 0)]
/-- 36: FlagSignals$Ship.allFlags()I -/
def fg_c36 : List fg_I := [(0, 1, 0, 0, 0, 1, 0), (1, 2, 3, 0, 0, 0, 0), (2, 5, 26, 6, 2, 0, 132), (5, 6, 9, 0, 6, 0, 0), (6, 7, 0, 0, 0, 1, 0), (7, 8, 9, 0, 1, 0, 0), (8, 9, 43, 0, 0, 0, 0)]
/-- 37: FlagSignals$Ship.allSubstitutes()I -/
def fg_c37 : List fg_I := [(0, 1, 0, 0, 0, 2, 0), (1, 2, 3, 0, 0, 0, 0), (2, 5, 26, 6, 1, 0, 129), (5, 6, 9, 0, 6, 0, 0), (6, 7, 0, 0, 0, 2, 0), (7, 8, 9, 0, 1, 0, 0), (8, 9, 43, 0, 0, 0, 0)]
/-- 38: FlagSignals$Ship.addFlag(III)V -/
def fg_c38 : List fg_I := [(0, 1, 3, 0, 0, 0, 0), (1, 4, 26, 6, 2, 0, 132), (4, 6, 0, 0, 0, 10, 0), (6, 9, 24, 49, 3, 0, 0), (9, 10, 3, 0, 0, 0, 0), (10, 13, 27, 6, 4, 0, 140), (13, 14, 3, 0, 0, 0, 0), (14, 17, 26, 6, 2, 0, 132), (17, 18, 2, 1, 0, 0, 0), (18, 19, 32, 0, 0, 0, 0), (19, 20, 3, 0, 0, 0, 0), (20, 23, 27, 6, 5, 0, 142), (23, 24, 3, 0, 0, 0, 0), (24, 27, 26, 6, 2, 0, 132), (27, 28, 2, 2, 0, 0, 0), (28, 29, 32, 0, 0, 0, 0), (29, 30, 3, 0, 0, 0, 0), (30, 33, 27, 6, 6, 0, 144), (33, 34, 3, 0, 0, 0, 0), (34, 37, 26, 6, 2, 0, 132), (37, 38, 2, 3, 0, 0, 0), (38, 39, 32, 0, 0, 0, 0), (39, 40, 3, 0, 0, 0, 0), (40, 41, 19, 0, 0, 0, 0), (41, 44, 26, 6, 2, 0, 132), (44, 45, 0, 0, 0, 1, 0), (45, 46, 9, 0, 0, 0, 0), (46, 49, 28, 6, 2, 0, 132), (49, 50, 45, 0, 0, 0, 0)]
/-- 39: FlagSignals$Ship.startSignal()V -/
def fg_c39 : List fg_I := [(0, 1, 3, 0, 0, 0, 0), (1, 4, 26, 6, 3, 0, 136), (4, 6, 0, 0, 0, 10, 0), (6, 9, 24, 46, 3, 0, 0), (9, 10, 3, 0, 0, 0, 0), (10, 13, 27, 6, 7, 0, 146), (13, 14, 3, 0, 0, 0, 0), (14, 17, 26, 6, 3, 0, 136), (17, 18, 0, 0, 0, 0, 0), (18, 19, 32, 0, 0, 0, 0), (19, 20, 0, 0, 0, 0, 0), (20, 21, 5, 1, 0, 0, 0), (21, 22, 2, 1, 0, 0, 0), (22, 23, 0, 0, 0, 4, 0), (23, 26, 24, 46, 3, 0, 0), (26, 27, 3, 0, 0, 0, 0), (27, 30, 27, 6, 8, 0, 149), (30, 31, 3, 0, 0, 0, 0), (31, 34, 26, 6, 3, 0, 136), (34, 35, 0, 0, 0, 4, 0), (35, 36, 9, 0, 2, 0, 0), (36, 37, 2, 1, 0, 0, 0), (37, 38, 9, 0, 0, 0, 0), (38, 39, 0, 0, 0, (-1), 0), (39, 40, 32, 0, 0, 0, 0), (40, 43, 8, 1, 0, 1, 0), (43, 46, 22, 21, 0, 0, 0), (46, 47, 45, 0, 0, 0, 0)]
/-- 40: FlagSignals$Ship.addToSignal(I)V -/
def fg_c40 : List fg_I := [(0, 1, 3, 0, 0, 0, 0), (1, 4, 26, 6, 3, 0, 136), (4, 6, 0, 0, 0, 10, 0), (6, 9, 24, 57, 3, 0, 0), (9, 10, 3, 0, 0, 0, 0), (10, 13, 27, 6, 7, 0, 146), (13, 14, 3, 0, 0, 0, 0), (14, 17, 26, 6, 3, 0, 136), (17, 18, 31, 0, 0, 0, 0), (18, 19, 0, 0, 0, 4, 0), (19, 22, 24, 57, 3, 0, 0), (22, 23, 3, 0, 0, 0, 0), (23, 26, 27, 6, 8, 0, 149), (26, 27, 3, 0, 0, 0, 0), (27, 30, 26, 6, 3, 0, 136), (30, 31, 0, 0, 0, 4, 0), (31, 32, 9, 0, 2, 0, 0), (32, 33, 3, 0, 0, 0, 0), (33, 36, 27, 6, 7, 0, 146), (36, 37, 3, 0, 0, 0, 0), (37, 40, 26, 6, 3, 0, 136), (40, 41, 31, 0, 0, 0, 0), (41, 42, 9, 0, 0, 0, 0), (42, 43, 2, 1, 0, 0, 0), (43, 44, 32, 0, 0, 0, 0), (44, 45, 3, 0, 0, 0, 0), (45, 48, 27, 6, 7, 0, 146), (48, 49, 3, 0, 0, 0, 0), (49, 52, 26, 6, 3, 0, 136), (52, 53, 21, 0, 0, 0, 0), (53, 54, 31, 0, 0, 0, 0), (54, 55, 0, 0, 0, 1, 0), (55, 56, 9, 0, 0, 0, 0), (56, 57, 32, 0, 0, 0, 0), (57, 58, 45, 0, 0, 0, 0)]
/-- 41: FlagSignals$Ship.endSignal()V -/
def fg_c41 : List fg_I := [(0, 1, 3, 0, 0, 0, 0), (1, 4, 26, 6, 3, 0, 136), (4, 6, 0, 0, 0, 10, 0), (6, 9, 24, 19, 3, 0, 0), (9, 10, 3, 0, 0, 0, 0), (10, 11, 19, 0, 0, 0, 0), (11, 14, 26, 6, 3, 0, 136), (14, 15, 0, 0, 0, 1, 0), (15, 16, 9, 0, 0, 0, 0), (16, 19, 28, 6, 3, 0, 136), (19, 20, 45, 0, 0, 0, 0)]
/-- 42: FlagSignals$Ship.flagAt(II)I -/
def fg_c42 : List fg_I := [(0, 1, 2, 1, 0, 0, 0), (1, 4, 23, 31, 2, 0, 0), (4, 5, 2, 1, 0, 0, 0), (5, 6, 3, 0, 0, 0, 0), (6, 9, 26, 6, 3, 0, 136), (9, 12, 24, 31, 3, 0, 0), (12, 13, 2, 1, 0, 0, 0), (13, 15, 0, 0, 0, 10, 0), (15, 18, 24, 31, 3, 0, 0), (18, 19, 2, 2, 0, 0, 0), (19, 22, 23, 31, 2, 0, 0), (22, 23, 2, 2, 0, 0, 0), (23, 24, 0, 0, 0, 4, 0), (24, 27, 24, 31, 3, 0, 0), (27, 28, 0, 0, 0, 1, 0), (28, 31, 22, 32, 0, 0, 0), (31, 32, 0, 0, 0, 0, 0), (32, 33, 5, 3, 0, 0, 0), (33, 34, 2, 3, 0, 0, 0), (34, 37, 23, 50, 0, 0, 0), (37, 38, 3, 0, 0, 0, 0), (38, 41, 27, 6, 8, 0, 149), (41, 42, 2, 1, 0, 0, 0), (42, 43, 0, 0, 0, 4, 0), (43, 44, 9, 0, 2, 0, 0), (44, 45, 2, 2, 0, 0, 0), (45, 46, 9, 0, 0, 0, 0), (46, 47, 31, 0, 0, 0, 0), (47, 50, 22, 51, 0, 0, 0), (50, 51, 0, 0, 0, (-1), 0), (51, 52, 43, 0, 0, 0, 0)]
/-- 43: FlagSignals$Ship.signalsWith(I)I -/
def fg_c43 : List fg_I := [(0, 1, 0, 0, 0, 0, 0), (1, 2, 5, 2, 0, 0, 0), (2, 3, 0, 0, 0, 0, 0), (3, 4, 5, 3, 0, 0, 0), (4, 5, 2, 3, 0, 0, 0), (5, 6, 3, 0, 0, 0, 0), (6, 9, 26, 6, 3, 0, 136), (9, 12, 24, 50, 3, 0, 0), (12, 13, 0, 0, 0, 0, 0), (13, 15, 5, 4, 0, 0, 0), (15, 17, 2, 4, 0, 0, 0), (17, 18, 0, 0, 0, 4, 0), (18, 21, 24, 44, 3, 0, 0), (21, 22, 3, 0, 0, 0, 0), (22, 23, 2, 3, 0, 0, 0), (23, 25, 2, 4, 0, 0, 0), (25, 28, 37, 42, 2, 0, 623), (28, 29, 2, 1, 0, 0, 0), (29, 32, 24, 38, 1, 0, 0), (32, 33, 2, 2, 0, 0, 0), (33, 34, 0, 0, 0, 1, 0), (34, 35, 2, 3, 0, 0, 0), (35, 36, 9, 0, 6, 0, 0), (36, 37, 9, 0, 4, 0, 0), (37, 38, 5, 2, 0, 0, 0), (38, 41, 8, 4, 0, 1, 0), (41, 44, 22, 15, 0, 0, 0), (44, 47, 8, 3, 0, 1, 0), (47, 50, 22, 4, 0, 0, 0), (50, 51, 2, 2, 0, 0, 0), (51, 52, 43, 0, 0, 0, 0)]
/-- 44: FlagSignals$Text.append(I)Z -/
def fg_c44 : List fg_I := [(0, 1, 3, 0, 0, 0, 0), (1, 4, 26, 7, 1, 0, 102), (4, 5, 3, 0, 0, 0, 0), (5, 8, 27, 7, 0, 0, 101), (8, 9, 36, 0, 0, 0, 0), (9, 12, 24, 14, 2, 0, 0), (12, 13, 0, 0, 0, 0, 0), (13, 14, 44, 0, 0, 0, 0), (14, 15, 3, 0, 0, 0, 0), (15, 18, 27, 7, 0, 0, 101), (18, 19, 3, 0, 0, 0, 0), (19, 22, 26, 7, 1, 0, 102), (22, 23, 2, 1, 0, 0, 0), (23, 24, 32, 0, 0, 0, 0), (24, 25, 3, 0, 0, 0, 0), (25, 26, 19, 0, 0, 0, 0), (26, 29, 26, 7, 1, 0, 102), (29, 30, 0, 0, 0, 1, 0), (30, 31, 9, 0, 0, 0, 0), (31, 34, 28, 7, 1, 0, 102), (34, 35, 0, 0, 0, 1, 0), (35, 36, 44, 0, 0, 0, 0)]
/-- 45: FlagSignals$Text.parseInto(LFlagSignals$Ship;)I -/
def fg_c45 : List fg_I := [(0, 1, 3, 1, 0, 0, 0), (1, 4, 38, 29, 0, 0, 418), (4, 5, 3, 0, 0, 0, 0), (5, 6, 0, 0, 0, 0, 0), (6, 9, 28, 7, 2, 0, 104), (9, 10, 3, 0, 0, 0, 0), (10, 11, 0, 0, 0, 0, 0), (11, 14, 28, 7, 3, 0, 105), (14, 15, 3, 0, 0, 0, 0), (15, 16, 0, 0, 0, (-1), 0), (16, 19, 28, 7, 4, 0, 106), (19, 20, 3, 0, 0, 0, 0), (20, 23, 37, 46, 0, 0, 422), (23, 24, 0, 0, 0, (-1), 0), (24, 27, 24, 29, 1, 0, 0), (27, 28, 0, 0, 0, 0, 0), (28, 29, 43, 0, 0, 0, 0), (29, 30, 3, 0, 0, 0, 0), (30, 31, 3, 1, 0, 0, 0), (31, 34, 38, 48, 1, 0, 426), (34, 35, 0, 0, 0, 0, 0), (35, 36, 5, 2, 0, 0, 0), (36, 37, 2, 2, 0, 0, 0), (37, 40, 0, 0, 0, 240, 0), (40, 43, 24, 72, 3, 0, 0), (43, 44, 3, 0, 0, 0, 0), (44, 47, 26, 7, 3, 0, 105), (47, 50, 23, 72, 1, 0, 0), (50, 51, 3, 0, 0, 0, 0), (51, 54, 37, 46, 0, 0, 422), (54, 55, 0, 0, 0, (-1), 0), (55, 58, 24, 61, 1, 0, 0), (58, 61, 22, 72, 0, 0, 0), (61, 62, 3, 0, 0, 0, 0), (62, 63, 3, 1, 0, 0, 0), (63, 66, 38, 49, 1, 0, 442), (66, 69, 8, 2, 0, 1, 0), (69, 72, 22, 36, 0, 0, 0), (72, 73, 3, 0, 0, 0, 0), (73, 76, 26, 7, 3, 0, 105), (76, 77, 43, 0, 0, 0, 0)]
/-- 46: FlagSignals$Text.nextLetter()I -/
def fg_c46 : List fg_I := [(0, 1, 3, 0, 0, 0, 0), (1, 4, 26, 7, 2, 0, 104), (4, 5, 3, 0, 0, 0, 0), (5, 8, 26, 7, 1, 0, 102), (8, 11, 24, 38, 3, 0, 0), (11, 12, 3, 0, 0, 0, 0), (12, 15, 27, 7, 0, 0, 101), (15, 16, 3, 0, 0, 0, 0), (16, 19, 26, 7, 2, 0, 104), (19, 20, 31, 0, 0, 0, 0), (20, 22, 0, 0, 0, 32, 0), (22, 25, 24, 38, 1, 0, 0), (25, 26, 3, 0, 0, 0, 0), (26, 27, 19, 0, 0, 0, 0), (27, 30, 26, 7, 2, 0, 104), (30, 31, 0, 0, 0, 1, 0), (31, 32, 9, 0, 0, 0, 0), (32, 35, 28, 7, 2, 0, 104), (35, 38, 22, 0, 0, 0, 0), (38, 39, 3, 0, 0, 0, 0), (39, 42, 26, 7, 2, 0, 104), (42, 43, 3, 0, 0, 0, 0), (43, 46, 26, 7, 1, 0, 102), (46, 49, 24, 61, 3, 0, 0), (49, 50, 3, 0, 0, 0, 0), (50, 53, 27, 7, 0, 0, 101), (53, 54, 3, 0, 0, 0, 0), (54, 57, 26, 7, 2, 0, 104), (57, 58, 31, 0, 0, 0, 0), (58, 61, 22, 62, 0, 0, 0), (61, 62, 0, 0, 0, (-1), 0), (62, 63, 43, 0, 0, 0, 0)]
/-- 47: FlagSignals$Text.blame(II)V -/
def fg_c47 : List fg_I := [(0, 1, 3, 0, 0, 0, 0), (1, 4, 26, 7, 3, 0, 105), (4, 7, 23, 17, 1, 0, 0), (7, 8, 3, 0, 0, 0, 0), (8, 9, 2, 1, 0, 0, 0), (9, 12, 28, 7, 3, 0, 105), (12, 13, 3, 0, 0, 0, 0), (13, 14, 2, 2, 0, 0, 0), (14, 17, 28, 7, 4, 0, 106), (17, 18, 45, 0, 0, 0, 0)]
/-- 48: FlagSignals$Text.parseLines(LFlagSignals$Ship;)V -/
def fg_c48 : List fg_I := [(0, 1, 3, 0, 0, 0, 0), (1, 3, 0, 0, 0, 108, 0), (3, 6, 38, 52, 1, 0, 430), (6, 7, 3, 0, 0, 0, 0), (7, 8, 0, 0, 0, 1, 0), (8, 9, 0, 0, 0, 3, 0), (9, 12, 37, 53, 2, 0, 438), (12, 13, 5, 2, 0, 0, 0), (13, 14, 3, 0, 0, 0, 0), (14, 15, 0, 0, 0, 0, 0), (15, 16, 0, 0, 0, 3, 0), (16, 19, 37, 53, 2, 0, 438), (19, 20, 5, 3, 0, 0, 0), (20, 21, 3, 0, 0, 0, 0), (21, 23, 0, 0, 0, 59, 0), (23, 26, 38, 52, 1, 0, 430), (26, 27, 3, 0, 0, 0, 0), (27, 30, 26, 7, 3, 0, 105), (30, 33, 23, 43, 1, 0, 0), (33, 34, 3, 1, 0, 0, 0), (34, 35, 2, 2, 0, 0, 0), (35, 38, 28, 6, 0, 0, 128), (38, 39, 3, 1, 0, 0, 0), (39, 40, 2, 3, 0, 0, 0), (40, 43, 28, 6, 1, 0, 131), (43, 44, 45, 0, 0, 0, 0)]
/-- 49: FlagSignals$Text.parseClause(LFlagSignals$Ship;)V -/
def fg_c49 : List fg_I := [(0, 1, 3, 0, 0, 0, 0), (1, 4, 37, 46, 0, 0, 422), (4, 5, 5, 2, 0, 0, 0), (5, 6, 2, 2, 0, 0, 0), (6, 8, 0, 0, 0, 102, 0), (8, 11, 24, 19, 1, 0, 0), (11, 12, 3, 0, 0, 0, 0), (12, 13, 3, 1, 0, 0, 0), (13, 16, 38, 50, 1, 0, 446), (16, 19, 22, 52, 0, 0, 0), (19, 20, 2, 2, 0, 0, 0), (20, 22, 0, 0, 0, 101, 0), (22, 25, 24, 33, 1, 0, 0), (25, 26, 3, 0, 0, 0, 0), (26, 27, 3, 1, 0, 0, 0), (27, 30, 38, 51, 1, 0, 454), (30, 33, 22, 52, 0, 0, 0), (33, 34, 3, 0, 0, 0, 0), (34, 35, 2, 2, 0, 0, 0), (35, 37, 0, 0, 0, 108, 0), (37, 40, 24, 44, 1, 0, 0), (40, 41, 0, 0, 0, 3, 0), (41, 44, 22, 45, 0, 0, 0), (44, 45, 0, 0, 0, 1, 0), (45, 46, 3, 0, 0, 0, 0), (46, 49, 26, 7, 2, 0, 104), (49, 52, 38, 47, 2, 0, 434), (52, 53, 45, 0, 0, 0, 0)]
/-- 50: FlagSignals$Text.parseFlag(LFlagSignals$Ship;)V -/
def fg_c50 : List fg_I := [(0, 1, 3, 1, 0, 0, 0), (1, 4, 26, 6, 2, 0, 134), (4, 6, 0, 0, 0, 10, 0), (6, 9, 24, 18, 2, 0, 0), (9, 10, 3, 0, 0, 0, 0), (10, 11, 0, 0, 0, 3, 0), (11, 12, 3, 0, 0, 0, 0), (12, 15, 26, 7, 2, 0, 104), (15, 18, 38, 47, 2, 0, 434), (18, 19, 3, 0, 0, 0, 0), (19, 21, 0, 0, 0, 102, 0), (21, 24, 38, 52, 1, 0, 430), (24, 25, 3, 0, 0, 0, 0), (25, 26, 0, 0, 0, 0, 0), (26, 27, 0, 0, 0, 3, 0), (27, 30, 37, 53, 2, 0, 438), (30, 31, 5, 2, 0, 0, 0), (31, 32, 3, 0, 0, 0, 0), (32, 33, 0, 0, 0, 0, 0), (33, 34, 0, 0, 0, 4, 0), (34, 37, 37, 53, 2, 0, 438), (37, 38, 5, 3, 0, 0, 0), (38, 39, 3, 0, 0, 0, 0), (39, 40, 0, 0, 0, 0, 0), (40, 41, 0, 0, 0, 4, 0), (41, 44, 37, 53, 2, 0, 438), (44, 46, 5, 4, 0, 0, 0), (46, 47, 3, 0, 0, 0, 0), (47, 49, 0, 0, 0, 59, 0), (49, 52, 38, 52, 1, 0, 430), (52, 53, 3, 0, 0, 0, 0), (53, 56, 26, 7, 3, 0, 105), (56, 59, 23, 67, 1, 0, 0), (59, 60, 3, 1, 0, 0, 0), (60, 61, 2, 2, 0, 0, 0), (61, 62, 2, 3, 0, 0, 0), (62, 64, 2, 4, 0, 0, 0), (64, 67, 38, 38, 3, 0, 450), (67, 68, 45, 0, 0, 0, 0)]
/-- 51: FlagSignals$Text.parseSignal(LFlagSignals$Ship;)V -/
def fg_c51 : List fg_I := [(0, 1, 3, 1, 0, 0, 0), (1, 4, 26, 6, 3, 0, 139), (4, 6, 0, 0, 0, 10, 0), (6, 9, 24, 18, 2, 0, 0), (9, 10, 3, 0, 0, 0, 0), (10, 11, 0, 0, 0, 3, 0), (11, 12, 3, 0, 0, 0, 0), (12, 15, 26, 7, 2, 0, 104), (15, 18, 38, 47, 2, 0, 434), (18, 19, 3, 0, 0, 0, 0), (19, 21, 0, 0, 0, 101, 0), (21, 24, 38, 52, 1, 0, 430), (24, 25, 3, 1, 0, 0, 0), (25, 28, 38, 39, 0, 0, 458), (28, 29, 3, 1, 0, 0, 0), (29, 30, 3, 0, 0, 0, 0), (30, 31, 0, 0, 0, 0, 0), (31, 32, 3, 1, 0, 0, 0), (32, 35, 26, 6, 2, 0, 134), (35, 36, 0, 0, 0, 1, 0), (36, 37, 9, 0, 1, 0, 0), (37, 40, 37, 53, 2, 0, 438), (40, 43, 38, 40, 1, 0, 462), (43, 44, 0, 0, 0, 1, 0), (44, 45, 5, 2, 0, 0, 0), (45, 46, 2, 2, 0, 0, 0), (46, 47, 0, 0, 0, 4, 0), (47, 50, 24, 86, 3, 0, 0), (50, 51, 3, 0, 0, 0, 0), (51, 54, 37, 46, 0, 0, 422), (54, 56, 0, 0, 0, 44, 0), (56, 59, 24, 86, 1, 0, 0), (59, 60, 3, 0, 0, 0, 0), (60, 62, 0, 0, 0, 44, 0), (62, 65, 38, 52, 1, 0, 430), (65, 66, 3, 1, 0, 0, 0), (66, 67, 3, 0, 0, 0, 0), (67, 68, 0, 0, 0, 0, 0), (68, 69, 3, 1, 0, 0, 0), (69, 72, 26, 6, 2, 0, 134), (72, 73, 0, 0, 0, 1, 0), (73, 74, 9, 0, 1, 0, 0), (74, 77, 37, 53, 2, 0, 438), (77, 80, 38, 40, 1, 0, 462), (80, 83, 8, 2, 0, 1, 0), (83, 86, 22, 45, 0, 0, 0), (86, 87, 3, 0, 0, 0, 0), (87, 89, 0, 0, 0, 59, 0), (89, 92, 38, 52, 1, 0, 430), (92, 93, 3, 0, 0, 0, 0), (93, 96, 26, 7, 3, 0, 105), (96, 99, 23, 103, 1, 0, 0), (99, 100, 3, 1, 0, 0, 0), (100, 103, 38, 41, 0, 0, 466), (103, 104, 45, 0, 0, 0, 0)]
/-- 52: FlagSignals$Text.pass(I)V -/
def fg_c52 : List fg_I := [(0, 1, 3, 0, 0, 0, 0), (1, 4, 26, 7, 3, 0, 105), (4, 7, 23, 8, 0, 0, 0), (7, 8, 45, 0, 0, 0, 0), (8, 9, 3, 0, 0, 0, 0), (9, 12, 37, 46, 0, 0, 422), (12, 13, 2, 1, 0, 0, 0), (13, 16, 24, 29, 1, 0, 0), (16, 17, 3, 0, 0, 0, 0), (17, 18, 19, 0, 0, 0, 0), (18, 21, 26, 7, 2, 0, 104), (21, 22, 0, 0, 0, 1, 0), (22, 23, 9, 0, 0, 0, 0), (23, 26, 28, 7, 2, 0, 104), (26, 29, 22, 38, 0, 0, 0), (29, 30, 3, 0, 0, 0, 0), (30, 31, 0, 0, 0, 1, 0), (31, 32, 3, 0, 0, 0, 0), (32, 35, 26, 7, 2, 0, 104), (35, 38, 38, 47, 2, 0, 434), (38, 39, 45, 0, 0, 0, 0)]
/-- 53: FlagSignals$Text.parseNumber(II)I -/
def fg_c53 : List fg_I := [(0, 1, 3, 0, 0, 0, 0), (1, 4, 26, 7, 3, 0, 105), (4, 7, 23, 9, 0, 0, 0), (7, 8, 0, 0, 0, 0, 0), (8, 9, 43, 0, 0, 0, 0), (9, 10, 3, 0, 0, 0, 0), (10, 13, 37, 46, 0, 0, 422), (13, 14, 20, 0, 0, 0, 0), (14, 15, 3, 0, 0, 0, 0), (15, 18, 26, 7, 2, 0, 104), (18, 19, 5, 3, 0, 0, 0), (19, 20, 0, 0, 0, 0, 0), (20, 22, 5, 4, 0, 0, 0), (22, 23, 3, 0, 0, 0, 0), (23, 26, 26, 7, 2, 0, 104), (26, 27, 3, 0, 0, 0, 0), (27, 30, 26, 7, 1, 0, 102), (30, 33, 24, 109, 3, 0, 0), (33, 34, 3, 0, 0, 0, 0), (34, 37, 27, 7, 0, 0, 101), (37, 38, 3, 0, 0, 0, 0), (38, 41, 26, 7, 2, 0, 104), (41, 42, 31, 0, 0, 0, 0), (42, 44, 0, 0, 0, 48, 0), (44, 47, 24, 109, 2, 0, 0), (47, 48, 3, 0, 0, 0, 0), (48, 51, 27, 7, 0, 0, 101), (51, 52, 3, 0, 0, 0, 0), (52, 55, 26, 7, 2, 0, 104), (55, 56, 31, 0, 0, 0, 0), (56, 58, 0, 0, 0, 57, 0), (58, 61, 24, 109, 4, 0, 0), (61, 62, 3, 0, 0, 0, 0), (62, 65, 26, 7, 2, 0, 104), (65, 66, 2, 3, 0, 0, 0), (66, 67, 9, 0, 1, 0, 0), (67, 68, 0, 0, 0, 3, 0), (68, 71, 24, 92, 3, 0, 0), (71, 73, 2, 4, 0, 0, 0), (73, 75, 0, 0, 0, 10, 0), (75, 76, 9, 0, 2, 0, 0), (76, 77, 3, 0, 0, 0, 0), (77, 80, 27, 7, 0, 0, 101), (80, 81, 3, 0, 0, 0, 0), (81, 84, 26, 7, 2, 0, 104), (84, 85, 31, 0, 0, 0, 0), (85, 86, 9, 0, 0, 0, 0), (86, 88, 0, 0, 0, 48, 0), (88, 89, 9, 0, 1, 0, 0), (89, 92, 22, 94, 0, 0, 0), (92, 94, 2, 4, 0, 0, 0), (94, 96, 5, 4, 0, 0, 0), (96, 97, 3, 0, 0, 0, 0), (97, 98, 19, 0, 0, 0, 0), (98, 101, 26, 7, 2, 0, 104), (101, 102, 0, 0, 0, 1, 0), (102, 103, 9, 0, 0, 0, 0), (103, 106, 28, 7, 2, 0, 104), (106, 109, 22, 22, 0, 0, 0), (109, 110, 3, 0, 0, 0, 0), (110, 113, 26, 7, 2, 0, 104), (113, 114, 2, 3, 0, 0, 0), (114, 117, 24, 126, 1, 0, 0), (117, 118, 3, 0, 0, 0, 0), (118, 119, 0, 0, 0, 1, 0), (119, 120, 2, 3, 0, 0, 0), (120, 123, 38, 47, 2, 0, 434), (123, 126, 22, 154, 0, 0, 0), (126, 127, 3, 0, 0, 0, 0), (127, 130, 26, 7, 2, 0, 104), (130, 131, 2, 3, 0, 0, 0), (131, 132, 9, 0, 1, 0, 0), (132, 133, 0, 0, 0, 3, 0), (133, 136, 24, 148, 4, 0, 0), (136, 138, 2, 4, 0, 0, 0), (138, 139, 2, 1, 0, 0, 0), (139, 142, 24, 148, 2, 0, 0), (142, 144, 2, 4, 0, 0, 0), (144, 145, 2, 2, 0, 0, 0), (145, 148, 24, 154, 5, 0, 0), (148, 149, 3, 0, 0, 0, 0), (149, 150, 0, 0, 0, 2, 0), (150, 151, 2, 3, 0, 0, 0), (151, 154, 38, 47, 2, 0, 434), (154, 156, 2, 4, 0, 0, 0), (156, 157, 43, 0, 0, 0, 0)]
/-- 54: FlagSignals$Watch.raiseAll(LFlagSignals$Ship;LFlagSignals$Locker;I)V -/
def fg_c54 : List fg_I := [(0, 1, 3, 0, 0, 0, 0), (1, 2, 0, 0, 0, 0, 0), (2, 5, 28, 8, 3, 0, 301), (5, 6, 0, 0, 0, 0, 0), (6, 8, 5, 4, 0, 0, 0), (8, 10, 2, 4, 0, 0, 0), (10, 11, 3, 1, 0, 0, 0), (11, 14, 26, 6, 3, 0, 137), (14, 17, 24, 103, 3, 0, 0), (17, 19, 2, 4, 0, 0, 0), (19, 21, 0, 0, 0, 10, 0), (21, 24, 24, 103, 3, 0, 0), (24, 25, 3, 2, 0, 0, 0), (25, 26, 3, 1, 0, 0, 0), (26, 29, 37, 36, 0, 0, 550), (29, 30, 2, 3, 0, 0, 0), (30, 31, 0, 0, 0, (-1), 0), (31, 32, 9, 0, 5, 0, 0), (32, 33, 9, 0, 3, 0, 0), (33, 34, 3, 1, 0, 0, 0), (34, 37, 37, 37, 0, 0, 551), (37, 40, 38, 13, 2, 0, 552), (40, 41, 3, 2, 0, 0, 0), (41, 42, 3, 1, 0, 0, 0), (42, 44, 2, 4, 0, 0, 0), (44, 47, 37, 14, 2, 0, 553), (47, 50, 23, 63, 0, 0, 0), (50, 51, 3, 0, 0, 0, 0), (51, 52, 19, 0, 0, 0, 0), (52, 55, 26, 8, 3, 0, 301), (55, 56, 0, 0, 0, 1, 0), (56, 58, 2, 4, 0, 0, 0), (58, 59, 9, 0, 6, 0, 0), (59, 60, 9, 0, 4, 0, 0), (60, 63, 28, 8, 3, 0, 301), (63, 64, 0, 0, 0, 0, 0), (64, 66, 5, 5, 0, 0, 0), (66, 68, 2, 5, 0, 0, 0), (68, 69, 0, 0, 0, 4, 0), (69, 72, 24, 97, 3, 0, 0), (72, 73, 3, 0, 0, 0, 0), (73, 76, 27, 8, 0, 0, 297), (76, 78, 2, 4, 0, 0, 0), (78, 79, 0, 0, 0, 4, 0), (79, 80, 9, 0, 2, 0, 0), (80, 82, 2, 5, 0, 0, 0), (82, 83, 9, 0, 0, 0, 0), (83, 84, 3, 2, 0, 0, 0), (84, 87, 27, 2, 2, 0, 282), (87, 89, 2, 5, 0, 0, 0), (89, 90, 31, 0, 0, 0, 0), (90, 91, 32, 0, 0, 0, 0), (91, 94, 8, 5, 0, 1, 0), (94, 97, 22, 66, 0, 0, 0), (97, 100, 8, 4, 0, 1, 0), (100, 103, 22, 8, 0, 0, 0), (103, 104, 45, 0, 0, 0, 0)]
/-- 55: FlagSignals$Watch.see(LFlagSignals$Ship;LFlagSignals$Deck;I)V -/
def fg_c55 : List fg_I := [(0, 1, 0, 0, 0, 0, 0), (1, 3, 5, 4, 0, 0, 0), (3, 5, 2, 4, 0, 0, 0), (5, 7, 0, 0, 0, 10, 0), (7, 10, 24, 35, 3, 0, 0), (10, 11, 3, 0, 0, 0, 0), (11, 14, 27, 8, 1, 0, 298), (14, 16, 2, 4, 0, 0, 0), (16, 17, 3, 2, 0, 0, 0), (17, 19, 2, 4, 0, 0, 0), (19, 20, 2, 3, 0, 0, 0), (20, 21, 0, 0, 0, 2, 0), (21, 22, 10, 0, 0, 0, 0), (22, 23, 2, 3, 0, 0, 0), (23, 24, 0, 0, 0, 2, 0), (24, 25, 11, 0, 0, 0, 0), (25, 28, 37, 5, 3, 0, 558), (28, 29, 32, 0, 0, 0, 0), (29, 32, 8, 4, 0, 1, 0), (32, 35, 22, 3, 0, 0, 0), (35, 36, 3, 0, 0, 0, 0), (36, 37, 3, 1, 0, 0, 0), (37, 38, 3, 0, 0, 0, 0), (38, 41, 26, 8, 3, 0, 301), (41, 44, 38, 56, 2, 0, 568), (44, 45, 45, 0, 0, 0, 0)]
/-- 56: FlagSignals$Watch.sign(LFlagSignals$Ship;I)V -/
def fg_c56 : List fg_I := [(0, 1, 0, 0, 0, 0, 0), (1, 2, 5, 3, 0, 0, 0), (2, 3, 2, 3, 0, 0, 0), (3, 4, 3, 1, 0, 0, 0), (4, 7, 26, 6, 3, 0, 137), (7, 10, 24, 79, 3, 0, 0), (10, 11, 2, 3, 0, 0, 0), (11, 13, 0, 0, 0, 10, 0), (13, 16, 24, 79, 3, 0, 0), (16, 17, 2, 2, 0, 0, 0), (17, 18, 2, 3, 0, 0, 0), (18, 21, 41, 87, 2, 0, 2), (21, 24, 23, 73, 0, 0, 0), (24, 25, 0, 0, 0, 0, 0), (25, 27, 5, 4, 0, 0, 0), (27, 28, 0, 0, 0, 0, 0), (28, 30, 5, 5, 0, 0, 0), (30, 32, 2, 5, 0, 0, 0), (32, 33, 0, 0, 0, 4, 0), (33, 36, 24, 65, 3, 0, 0), (36, 38, 2, 4, 0, 0, 0), (38, 40, 0, 0, 0, 8, 0), (40, 41, 9, 0, 6, 0, 0), (41, 42, 3, 0, 0, 0, 0), (42, 43, 3, 0, 0, 0, 0), (43, 46, 27, 8, 0, 0, 297), (46, 47, 2, 3, 0, 0, 0), (47, 48, 0, 0, 0, 4, 0), (48, 49, 9, 0, 2, 0, 0), (49, 51, 2, 5, 0, 0, 0), (51, 52, 9, 0, 0, 0, 0), (52, 53, 31, 0, 0, 0, 0), (53, 56, 37, 57, 1, 0, 573), (56, 57, 9, 0, 4, 0, 0), (57, 59, 5, 4, 0, 0, 0), (59, 62, 8, 5, 0, 1, 0), (62, 65, 22, 30, 0, 0, 0), (65, 66, 3, 0, 0, 0, 0), (66, 69, 27, 8, 2, 0, 300), (69, 70, 2, 3, 0, 0, 0), (70, 72, 2, 4, 0, 0, 0), (72, 73, 32, 0, 0, 0, 0), (73, 76, 8, 3, 0, 1, 0), (76, 79, 22, 2, 0, 0, 0), (79, 80, 45, 0, 0, 0, 0)]
/-- 57: FlagSignals$Watch.lookOfPiece(I)I -/
def fg_c57 : List fg_I := [(0, 1, 2, 1, 0, 0, 0), (1, 3, 0, 0, 0, 20, 0), (3, 6, 24, 15, 5, 0, 0), (6, 9, 0, 0, 0, 200, 0), (9, 10, 2, 1, 0, 0, 0), (10, 11, 9, 0, 0, 0, 0), (11, 13, 0, 0, 0, 20, 0), (13, 14, 9, 0, 1, 0, 0), (14, 15, 43, 0, 0, 0, 0), (15, 16, 2, 1, 0, 0, 0), (16, 19, 23, 34, 2, 0, 0), (19, 20, 2, 1, 0, 0, 0), (20, 22, 0, 0, 0, 10, 0), (22, 25, 24, 34, 3, 0, 0), (25, 26, 3, 0, 0, 0, 0), (26, 29, 27, 8, 1, 0, 298), (29, 30, 2, 1, 0, 0, 0), (30, 31, 31, 0, 0, 0, 0), (31, 34, 22, 37, 0, 0, 0), (34, 37, 0, 0, 0, 255, 0), (37, 38, 43, 0, 0, 0, 0)]
/-- 58: FlagSignals$Watch.likeOf(LFlagSignals$Ship;I)I -/
def fg_c58 : List fg_I := [(0, 1, 3, 1, 0, 0, 0), (1, 2, 2, 2, 0, 0, 0), (2, 5, 37, 33, 1, 0, 646), (5, 8, 23, 19, 0, 0, 0), (8, 9, 3, 0, 0, 0, 0), (9, 12, 26, 8, 3, 0, 301), (12, 13, 2, 2, 0, 0, 0), (13, 16, 41, 87, 2, 0, 2), (16, 19, 23, 21, 1, 0, 0), (19, 20, 0, 0, 0, 0, 0), (20, 21, 43, 0, 0, 0, 0), (21, 22, 0, 0, 0, 0, 0), (22, 23, 5, 3, 0, 0, 0), (23, 24, 0, 0, 0, 0, 0), (24, 26, 5, 4, 0, 0, 0), (26, 28, 2, 4, 0, 0, 0), (28, 29, 3, 1, 0, 0, 0), (29, 32, 26, 6, 3, 0, 137), (32, 35, 24, 83, 3, 0, 0), (35, 37, 2, 4, 0, 0, 0), (37, 39, 0, 0, 0, 10, 0), (39, 42, 24, 83, 3, 0, 0), (42, 43, 3, 0, 0, 0, 0), (43, 46, 26, 8, 3, 0, 301), (46, 48, 2, 4, 0, 0, 0), (48, 51, 41, 87, 2, 0, 2), (51, 54, 23, 77, 0, 0, 0), (54, 55, 3, 0, 0, 0, 0), (55, 58, 27, 8, 2, 0, 300), (58, 60, 2, 4, 0, 0, 0), (60, 61, 31, 0, 0, 0, 0), (61, 62, 3, 0, 0, 0, 0), (62, 65, 27, 8, 2, 0, 300), (65, 66, 2, 2, 0, 0, 0), (66, 67, 31, 0, 0, 0, 0), (67, 70, 24, 77, 1, 0, 0), (70, 71, 2, 3, 0, 0, 0), (71, 72, 0, 0, 0, 1, 0), (72, 74, 2, 4, 0, 0, 0), (74, 75, 9, 0, 6, 0, 0), (75, 76, 9, 0, 4, 0, 0), (76, 77, 5, 3, 0, 0, 0), (77, 80, 8, 4, 0, 1, 0), (80, 83, 22, 26, 0, 0, 0), (83, 84, 2, 3, 0, 0, 0), (84, 85, 43, 0, 0, 0, 0)]
/-- 59: FlagSignals$Watch.clearOnes(LFlagSignals$Ship;)I -/
def fg_c59 : List fg_I := [(0, 1, 0, 0, 0, 0, 0), (1, 2, 5, 2, 0, 0, 0), (2, 3, 0, 0, 0, 0, 0), (3, 4, 5, 3, 0, 0, 0), (4, 5, 2, 3, 0, 0, 0), (5, 6, 3, 1, 0, 0, 0), (6, 9, 26, 6, 3, 0, 137), (9, 12, 24, 89, 3, 0, 0), (12, 13, 2, 3, 0, 0, 0), (13, 15, 0, 0, 0, 10, 0), (15, 18, 24, 89, 3, 0, 0), (18, 19, 0, 0, 0, 0, 0), (19, 21, 5, 4, 0, 0, 0), (21, 23, 2, 4, 0, 0, 0), (23, 24, 2, 3, 0, 0, 0), (24, 27, 24, 83, 3, 0, 0), (27, 28, 3, 0, 0, 0, 0), (28, 31, 27, 8, 2, 0, 300), (31, 33, 2, 4, 0, 0, 0), (33, 34, 31, 0, 0, 0, 0), (34, 35, 3, 0, 0, 0, 0), (35, 38, 27, 8, 2, 0, 300), (38, 39, 2, 3, 0, 0, 0), (39, 40, 31, 0, 0, 0, 0), (40, 43, 24, 77, 1, 0, 0), (43, 44, 3, 0, 0, 0, 0), (44, 47, 26, 8, 3, 0, 301), (47, 48, 2, 3, 0, 0, 0), (48, 51, 41, 87, 2, 0, 2), (51, 54, 23, 77, 0, 0, 0), (54, 55, 3, 0, 0, 0, 0), (55, 58, 26, 8, 3, 0, 301), (58, 60, 2, 4, 0, 0, 0), (60, 63, 41, 87, 2, 0, 2), (63, 66, 23, 77, 0, 0, 0), (66, 67, 2, 2, 0, 0, 0), (67, 68, 0, 0, 0, 1, 0), (68, 69, 2, 3, 0, 0, 0), (69, 70, 9, 0, 6, 0, 0), (70, 71, 0, 0, 0, 1, 0), (71, 73, 2, 4, 0, 0, 0), (73, 74, 9, 0, 6, 0, 0), (74, 75, 9, 0, 4, 0, 0), (75, 76, 9, 0, 4, 0, 0), (76, 77, 5, 2, 0, 0, 0), (77, 80, 8, 4, 0, 1, 0), (80, 83, 22, 21, 0, 0, 0), (83, 86, 8, 3, 0, 1, 0), (86, 89, 22, 4, 0, 0, 0), (89, 90, 3, 0, 0, 0, 0), (90, 93, 26, 8, 3, 0, 301), (93, 94, 2, 2, 0, 0, 0), (94, 95, 0, 0, 0, (-1), 0), (95, 96, 9, 0, 5, 0, 0), (96, 97, 9, 0, 3, 0, 0), (97, 98, 43, 0, 0, 0, 0)]
/-- 60: FlagSignals.feed(I)I -/
def fg_c60 : List fg_I := [(0, 1, 2, 1, 0, 0, 0), (1, 4, 23, 11, 2, 0, 0), (4, 5, 2, 1, 0, 0, 0), (5, 8, 0, 0, 0, 255, 0), (8, 11, 24, 14, 5, 0, 0), (11, 13, 0, 0, 0, (-1000000002), 404), (13, 14, 43, 0, 0, 0, 0), (14, 15, 3, 0, 0, 0, 0), (15, 18, 27, 9, 0, 0, 360), (18, 19, 2, 1, 0, 0, 0), (19, 22, 37, 44, 1, 0, 405), (22, 25, 23, 35, 0, 0, 0), (25, 26, 3, 0, 0, 0, 0), (26, 29, 27, 9, 0, 0, 360), (29, 32, 26, 7, 1, 0, 103), (32, 35, 22, 37, 0, 0, 0), (35, 37, 0, 0, 0, (-1000000004), 409), (37, 38, 43, 0, 0, 0, 0)]
/-- 61: FlagSignals.ship()I -/
def fg_c61 : List fg_I := [(0, 1, 3, 0, 0, 0, 0), (1, 4, 27, 9, 0, 0, 360), (4, 5, 3, 0, 0, 0, 0), (5, 8, 27, 9, 2, 0, 362), (8, 11, 37, 45, 1, 0, 414), (11, 12, 5, 1, 0, 0, 0), (12, 13, 3, 0, 0, 0, 0), (13, 14, 3, 0, 0, 0, 0), (14, 17, 27, 9, 0, 0, 360), (17, 20, 26, 7, 4, 0, 107), (20, 23, 28, 9, 11, 0, 371), (23, 24, 3, 0, 0, 0, 0), (24, 27, 27, 9, 0, 0, 360), (27, 28, 0, 0, 0, 0, 0), (28, 31, 28, 7, 1, 0, 103), (31, 32, 2, 1, 0, 0, 0), (32, 35, 23, 40, 0, 0, 0), (35, 37, 0, 0, 0, (-10), 0), (37, 38, 2, 1, 0, 0, 0), (38, 39, 9, 0, 1, 0, 0), (39, 40, 43, 0, 0, 0, 0), (40, 41, 3, 0, 0, 0, 0), (41, 44, 27, 9, 2, 0, 362), (44, 45, 6, 2, 0, 0, 0), (45, 46, 3, 0, 0, 0, 0), (46, 47, 3, 0, 0, 0, 0), (47, 50, 27, 9, 1, 0, 361), (50, 53, 30, 9, 2, 0, 362), (53, 54, 3, 0, 0, 0, 0), (54, 55, 3, 2, 0, 0, 0), (55, 58, 30, 9, 1, 0, 361), (58, 59, 3, 0, 0, 0, 0), (59, 62, 27, 9, 3, 0, 363), (62, 63, 3, 0, 0, 0, 0), (63, 66, 27, 9, 1, 0, 361), (66, 69, 38, 0, 1, 0, 348), (69, 70, 3, 0, 0, 0, 0), (70, 73, 27, 9, 4, 0, 364), (73, 76, 38, 24, 0, 0, 470), (76, 77, 0, 0, 0, 0, 0), (77, 78, 5, 3, 0, 0, 0), (78, 79, 2, 3, 0, 0, 0), (79, 80, 3, 0, 0, 0, 0), (80, 83, 27, 9, 5, 0, 365), (83, 84, 36, 0, 0, 0, 0), (84, 87, 24, 103, 3, 0, 0), (87, 88, 3, 0, 0, 0, 0), (88, 91, 27, 9, 5, 0, 365), (91, 92, 2, 3, 0, 0, 0), (92, 93, 35, 0, 0, 0, 0), (93, 94, 0, 0, 0, 0, 0), (94, 97, 29, 1, 2, 0, 340), (97, 100, 8, 3, 0, 1, 0), (100, 103, 22, 78, 0, 0, 0), (103, 104, 3, 0, 0, 0, 0), (104, 107, 27, 9, 6, 0, 366), (107, 110, 38, 19, 0, 0, 474), (110, 111, 3, 0, 0, 0, 0), (111, 114, 27, 9, 1, 0, 361), (114, 117, 26, 6, 3, 0, 138), (117, 118, 43, 0, 0, 0, 0)]
/-- 62: FlagSignals.fault()I -/
def fg_c62 : List fg_I := [(0, 1, 3, 0, 0, 0, 0), (1, 4, 26, 9, 11, 0, 371), (4, 5, 43, 0, 0, 0, 0)]
/-- 63: FlagSignals.told(I)I -/
def fg_c63 : List fg_I := [(0, 1, 2, 1, 0, 0, 0), (1, 104, 25, 0, 0, 0, 0), (104, 105, 3, 0, 0, 0, 0), (105, 108, 27, 9, 1, 0, 361), (108, 111, 26, 6, 0, 0, 127), (111, 112, 43, 0, 0, 0, 0), (112, 113, 3, 0, 0, 0, 0), (113, 116, 27, 9, 1, 0, 361), (116, 119, 26, 6, 1, 0, 130), (119, 120, 43, 0, 0, 0, 0), (120, 121, 3, 0, 0, 0, 0), (121, 124, 27, 9, 1, 0, 361), (124, 127, 26, 6, 2, 0, 133), (127, 128, 43, 0, 0, 0, 0), (128, 129, 3, 0, 0, 0, 0), (129, 132, 27, 9, 1, 0, 361), (132, 135, 26, 6, 3, 0, 138), (135, 136, 43, 0, 0, 0, 0), (136, 137, 3, 0, 0, 0, 0), (137, 140, 27, 9, 0, 0, 360), (140, 143, 26, 7, 1, 0, 103), (143, 144, 43, 0, 0, 0, 0), (144, 145, 3, 0, 0, 0, 0), (145, 148, 27, 9, 3, 0, 363), (148, 151, 26, 0, 9, 0, 194), (151, 152, 43, 0, 0, 0, 0), (152, 153, 3, 0, 0, 0, 0), (153, 156, 27, 9, 3, 0, 363), (156, 159, 26, 0, 10, 0, 196), (159, 160, 43, 0, 0, 0, 0), (160, 161, 3, 0, 0, 0, 0), (161, 164, 27, 9, 3, 0, 363), (164, 167, 26, 0, 11, 0, 198), (167, 168, 43, 0, 0, 0, 0), (168, 169, 3, 0, 0, 0, 0), (169, 172, 27, 9, 3, 0, 363), (172, 173, 3, 0, 0, 0, 0), (173, 176, 27, 9, 1, 0, 361), (176, 179, 37, 3, 1, 0, 486), (179, 180, 43, 0, 0, 0, 0), (180, 181, 3, 0, 0, 0, 0), (181, 184, 27, 9, 3, 0, 363), (184, 187, 26, 0, 7, 0, 191), (187, 188, 43, 0, 0, 0, 0), (188, 189, 3, 0, 0, 0, 0), (189, 192, 37, 94, 0, 0, 494), (192, 193, 43, 0, 0, 0, 0), (193, 194, 3, 0, 0, 0, 0), (194, 197, 37, 96, 0, 0, 534), (197, 198, 43, 0, 0, 0, 0), (198, 199, 3, 0, 0, 0, 0), (199, 202, 37, 97, 0, 0, 581), (202, 203, 43, 0, 0, 0, 0), (203, 204, 3, 0, 0, 0, 0), (204, 207, 37, 100, 0, 0, 591), (207, 208, 43, 0, 0, 0, 0), (208, 209, 3, 0, 0, 0, 0), (209, 212, 37, 101, 0, 0, 615), (212, 213, 43, 0, 0, 0, 0), (213, 214, 3, 0, 0, 0, 0), (214, 217, 37, 102, 0, 0, 624), (217, 218, 43, 0, 0, 0, 0), (218, 219, 3, 0, 0, 0, 0), (219, 222, 27, 9, 6, 0, 366), (222, 225, 26, 3, 4, 0, 257), (225, 226, 43, 0, 0, 0, 0), (226, 227, 3, 0, 0, 0, 0), (227, 230, 37, 104, 0, 0, 634), (230, 233, 39, 195, 1, 0, 585), (233, 234, 43, 0, 0, 0, 0), (234, 235, 3, 0, 0, 0, 0), (235, 238, 37, 104, 0, 0, 634), (238, 239, 43, 0, 0, 0, 0), (239, 240, 3, 0, 0, 0, 0), (240, 243, 37, 105, 0, 0, 648), (243, 244, 43, 0, 0, 0, 0), (244, 245, 3, 0, 0, 0, 0), (245, 248, 27, 9, 6, 0, 366), (248, 251, 26, 3, 5, 0, 259), (251, 252, 43, 0, 0, 0, 0), (252, 253, 3, 0, 0, 0, 0), (253, 256, 27, 9, 4, 0, 364), (256, 259, 26, 4, 2, 0, 236), (259, 260, 43, 0, 0, 0, 0), (260, 262, 0, 0, 0, (-1000000002), 404), (262, 263, 43, 0, 0, 0, 0)]
/-- 64: FlagSignals.flag(II)I -/
def fg_c64 : List fg_I := [(0, 1, 3, 0, 0, 0, 0), (1, 4, 27, 9, 1, 0, 361), (4, 5, 2, 1, 0, 0, 0), (5, 8, 37, 32, 1, 0, 668), (8, 11, 23, 14, 1, 0, 0), (11, 13, 0, 0, 0, (-1000000001), 672), (13, 14, 43, 0, 0, 0, 0), (14, 15, 2, 2, 0, 0, 0), (15, 56, 25, 1, 0, 0, 0), (56, 57, 3, 0, 0, 0, 0), (57, 60, 27, 9, 3, 0, 363), (60, 63, 27, 0, 0, 0, 176), (63, 64, 2, 1, 0, 0, 0), (64, 65, 31, 0, 0, 0, 0), (65, 66, 43, 0, 0, 0, 0), (66, 67, 3, 0, 0, 0, 0), (67, 70, 27, 9, 3, 0, 363), (70, 73, 27, 0, 1, 0, 178), (73, 74, 2, 1, 0, 0, 0), (74, 75, 31, 0, 0, 0, 0), (75, 76, 43, 0, 0, 0, 0), (76, 77, 3, 0, 0, 0, 0), (77, 80, 27, 9, 3, 0, 363), (80, 83, 27, 0, 2, 0, 180), (83, 84, 2, 1, 0, 0, 0), (84, 85, 31, 0, 0, 0, 0), (85, 86, 43, 0, 0, 0, 0), (86, 87, 3, 0, 0, 0, 0), (87, 90, 27, 9, 3, 0, 363), (90, 93, 27, 0, 3, 0, 182), (93, 94, 2, 1, 0, 0, 0), (94, 95, 31, 0, 0, 0, 0), (95, 96, 43, 0, 0, 0, 0), (96, 97, 3, 0, 0, 0, 0), (97, 100, 27, 9, 3, 0, 363), (100, 103, 27, 0, 4, 0, 184), (103, 104, 2, 1, 0, 0, 0), (104, 105, 31, 0, 0, 0, 0), (105, 106, 43, 0, 0, 0, 0), (106, 107, 3, 0, 0, 0, 0), (107, 110, 27, 9, 3, 0, 363), (110, 113, 26, 0, 7, 0, 191), (113, 114, 2, 1, 0, 0, 0), (114, 117, 39, 87, 2, 0, 609), (117, 120, 23, 124, 0, 0, 0), (120, 121, 0, 0, 0, 1, 0), (121, 124, 22, 125, 0, 0, 0), (124, 125, 0, 0, 0, 0, 0), (125, 126, 43, 0, 0, 0, 0), (126, 127, 3, 0, 0, 0, 0), (127, 130, 27, 9, 3, 0, 363), (130, 131, 2, 1, 0, 0, 0), (131, 132, 3, 0, 0, 0, 0), (132, 135, 27, 9, 3, 0, 363), (135, 138, 26, 0, 10, 0, 196), (138, 139, 3, 0, 0, 0, 0), (139, 142, 27, 9, 3, 0, 363), (142, 145, 26, 0, 11, 0, 198), (145, 148, 37, 5, 3, 0, 673), (148, 149, 43, 0, 0, 0, 0), (149, 151, 0, 0, 0, (-1000000002), 404), (151, 152, 43, 0, 0, 0, 0)]
/-- 65: FlagSignals.signal(II)I -/
def fg_c65 : List fg_I := [(0, 1, 3, 0, 0, 0, 0), (1, 4, 27, 9, 1, 0, 361), (4, 5, 2, 1, 0, 0, 0), (5, 8, 37, 33, 1, 0, 678), (8, 11, 23, 14, 1, 0, 0), (11, 13, 0, 0, 0, (-1000000001), 672), (13, 14, 43, 0, 0, 0, 0), (14, 15, 2, 2, 0, 0, 0), (15, 18, 23, 24, 2, 0, 0), (18, 19, 2, 2, 0, 0, 0), (19, 21, 0, 0, 0, 6, 0), (21, 24, 24, 27, 5, 0, 0), (24, 26, 0, 0, 0, (-1000000002), 404), (26, 27, 43, 0, 0, 0, 0), (27, 28, 2, 2, 0, 0, 0), (28, 31, 23, 41, 1, 0, 0), (31, 32, 3, 0, 0, 0, 0), (32, 35, 27, 9, 1, 0, 361), (35, 38, 27, 6, 7, 0, 148), (38, 39, 2, 1, 0, 0, 0), (39, 40, 31, 0, 0, 0, 0), (40, 41, 43, 0, 0, 0, 0), (41, 42, 2, 2, 0, 0, 0), (42, 43, 0, 0, 0, 4, 0), (43, 46, 24, 58, 4, 0, 0), (46, 47, 3, 0, 0, 0, 0), (47, 50, 27, 9, 1, 0, 361), (50, 51, 2, 1, 0, 0, 0), (51, 52, 2, 2, 0, 0, 0), (52, 53, 0, 0, 0, 1, 0), (53, 54, 9, 0, 1, 0, 0), (54, 57, 37, 42, 2, 0, 679), (57, 58, 43, 0, 0, 0, 0), (58, 59, 2, 2, 0, 0, 0), (59, 60, 0, 0, 0, 5, 0), (60, 63, 24, 87, 1, 0, 0), (63, 64, 3, 0, 0, 0, 0), (64, 65, 3, 0, 0, 0, 0), (65, 68, 27, 9, 3, 0, 363), (68, 71, 37, 2, 0, 0, 538), (71, 74, 38, 95, 1, 0, 542), (74, 75, 3, 0, 0, 0, 0), (75, 78, 27, 9, 8, 0, 368), (78, 79, 3, 0, 0, 0, 0), (79, 82, 27, 9, 1, 0, 361), (82, 83, 2, 1, 0, 0, 0), (83, 86, 37, 58, 2, 0, 656), (86, 87, 43, 0, 0, 0, 0), (87, 88, 3, 0, 0, 0, 0), (88, 91, 27, 9, 3, 0, 363), (91, 92, 2, 1, 0, 0, 0), (92, 95, 37, 6, 1, 0, 680), (95, 96, 43, 0, 0, 0, 0)]
/-- 66: FlagSignals.line(II)I -/
def fg_c66 : List fg_I := [(0, 1, 3, 0, 0, 0, 0), (1, 4, 27, 9, 1, 0, 361), (4, 5, 2, 1, 0, 0, 0), (5, 8, 37, 31, 1, 0, 688), (8, 11, 23, 14, 1, 0, 0), (11, 13, 0, 0, 0, (-1000000001), 672), (13, 14, 43, 0, 0, 0, 0), (14, 15, 2, 2, 0, 0, 0), (15, 18, 23, 23, 2, 0, 0), (18, 19, 2, 2, 0, 0, 0), (19, 20, 0, 0, 0, 4, 0), (20, 23, 24, 26, 5, 0, 0), (23, 25, 0, 0, 0, (-1000000002), 404), (25, 26, 43, 0, 0, 0, 0), (26, 27, 2, 2, 0, 0, 0), (27, 30, 23, 42, 1, 0, 0), (30, 31, 3, 0, 0, 0, 0), (31, 34, 27, 9, 3, 0, 363), (34, 37, 27, 0, 5, 0, 187), (37, 38, 2, 1, 0, 0, 0), (38, 39, 31, 0, 0, 0, 0), (39, 42, 22, 57, 0, 0, 0), (42, 43, 3, 0, 0, 0, 0), (43, 46, 27, 9, 3, 0, 363), (46, 49, 27, 0, 6, 0, 189), (49, 50, 2, 1, 0, 0, 0), (50, 51, 0, 0, 0, 4, 0), (51, 52, 9, 0, 2, 0, 0), (52, 53, 2, 2, 0, 0, 0), (53, 54, 9, 0, 0, 0, 0), (54, 55, 0, 0, 0, 1, 0), (55, 56, 9, 0, 1, 0, 0), (56, 57, 31, 0, 0, 0, 0), (57, 58, 43, 0, 0, 0, 0)]
/-- 67: FlagSignals.needs(II)I -/
def fg_c67 : List fg_I := [(0, 1, 3, 0, 0, 0, 0), (1, 4, 27, 9, 1, 0, 361), (4, 5, 2, 1, 0, 0, 0), (5, 8, 37, 33, 1, 0, 678), (8, 11, 23, 14, 1, 0, 0), (11, 13, 0, 0, 0, (-1000000001), 672), (13, 14, 43, 0, 0, 0, 0), (14, 15, 2, 2, 0, 0, 0), (15, 16, 0, 0, 0, 1, 0), (16, 19, 24, 24, 2, 0, 0), (19, 20, 2, 2, 0, 0, 0), (20, 21, 0, 0, 0, 4, 0), (21, 24, 24, 27, 5, 0, 0), (24, 26, 0, 0, 0, (-1000000002), 404), (26, 27, 43, 0, 0, 0, 0), (27, 28, 3, 0, 0, 0, 0), (28, 31, 27, 9, 7, 0, 367), (31, 32, 3, 0, 0, 0, 0), (32, 35, 27, 9, 3, 0, 363), (35, 36, 3, 0, 0, 0, 0), (36, 39, 27, 9, 1, 0, 361), (39, 42, 37, 3, 1, 0, 486), (42, 43, 3, 0, 0, 0, 0), (43, 46, 27, 9, 3, 0, 363), (46, 47, 3, 0, 0, 0, 0), (47, 50, 27, 9, 1, 0, 361), (50, 53, 37, 4, 1, 0, 498), (53, 56, 38, 13, 2, 0, 506), (56, 57, 3, 0, 0, 0, 0), (57, 60, 27, 9, 7, 0, 367), (60, 61, 3, 0, 0, 0, 0), (61, 64, 27, 9, 1, 0, 361), (64, 65, 2, 1, 0, 0, 0), (65, 68, 37, 14, 2, 0, 510), (68, 69, 20, 0, 0, 0, 0), (69, 70, 3, 0, 0, 0, 0), (70, 73, 27, 9, 7, 0, 367), (73, 76, 27, 2, 2, 0, 283), (76, 77, 2, 2, 0, 0, 0), (77, 78, 0, 0, 0, 1, 0), (78, 79, 9, 0, 1, 0, 0), (79, 80, 31, 0, 0, 0, 0), (80, 81, 43, 0, 0, 0, 0)]
/-- 68: FlagSignals.hoist(II)I -/
def fg_c68 : List fg_I := [(0, 1, 3, 0, 0, 0, 0), (1, 4, 27, 9, 1, 0, 361), (4, 5, 2, 1, 0, 0, 0), (5, 8, 37, 31, 1, 0, 688), (8, 11, 23, 22, 0, 0, 0), (11, 12, 3, 0, 0, 0, 0), (12, 15, 27, 9, 1, 0, 361), (15, 16, 2, 2, 0, 0, 0), (16, 19, 37, 33, 1, 0, 678), (19, 22, 23, 25, 1, 0, 0), (22, 24, 0, 0, 0, (-1000000001), 672), (24, 25, 43, 0, 0, 0, 0), (25, 26, 3, 0, 0, 0, 0), (26, 27, 2, 1, 0, 0, 0), (27, 28, 2, 2, 0, 0, 0), (28, 31, 37, 88, 2, 0, 700), (31, 34, 23, 38, 1, 0, 0), (34, 37, 0, 0, 0, (-1000000003), 704), (37, 38, 43, 0, 0, 0, 0), (38, 39, 3, 0, 0, 0, 0), (39, 42, 27, 9, 4, 0, 364), (42, 43, 3, 0, 0, 0, 0), (43, 46, 27, 9, 3, 0, 363), (46, 49, 38, 22, 1, 0, 705), (49, 50, 3, 0, 0, 0, 0), (50, 53, 27, 9, 3, 0, 363), (53, 54, 2, 1, 0, 0, 0), (54, 55, 2, 2, 0, 0, 0), (55, 56, 3, 0, 0, 0, 0), (56, 59, 27, 9, 7, 0, 367), (59, 62, 27, 2, 2, 0, 283), (62, 65, 37, 9, 3, 0, 716), (65, 66, 43, 0, 0, 0, 0)]
/-- 69: FlagSignals.haul(I)I -/
def fg_c69 : List fg_I := [(0, 1, 3, 0, 0, 0, 0), (1, 4, 27, 9, 1, 0, 361), (4, 5, 2, 1, 0, 0, 0), (5, 8, 37, 31, 1, 0, 688), (8, 11, 23, 14, 1, 0, 0), (11, 13, 0, 0, 0, (-1000000001), 672), (13, 14, 43, 0, 0, 0, 0), (14, 15, 3, 0, 0, 0, 0), (15, 18, 27, 9, 3, 0, 363), (18, 21, 27, 0, 5, 0, 187), (21, 22, 2, 1, 0, 0, 0), (22, 23, 31, 0, 0, 0, 0), (23, 24, 0, 0, 0, (-1), 0), (24, 27, 24, 31, 1, 0, 0), (27, 30, 0, 0, 0, (-1000000003), 704), (30, 31, 43, 0, 0, 0, 0), (31, 32, 3, 0, 0, 0, 0), (32, 35, 27, 9, 4, 0, 364), (35, 36, 3, 0, 0, 0, 0), (36, 39, 27, 9, 3, 0, 363), (39, 42, 38, 22, 1, 0, 705), (42, 43, 3, 0, 0, 0, 0), (43, 46, 27, 9, 3, 0, 363), (46, 47, 2, 1, 0, 0, 0), (47, 50, 37, 10, 1, 0, 724), (50, 51, 43, 0, 0, 0, 0)]
/-- 70: FlagSignals.day(I)I -/
def fg_c70 : List fg_I := [(0, 1, 3, 0, 0, 0, 0), (1, 2, 2, 1, 0, 0, 0), (2, 5, 37, 89, 1, 0, 732), (5, 6, 5, 2, 0, 0, 0), (6, 7, 2, 2, 0, 0, 0), (7, 10, 23, 12, 0, 0, 0), (10, 11, 2, 2, 0, 0, 0), (11, 12, 43, 0, 0, 0, 0), (12, 13, 3, 0, 0, 0, 0), (13, 16, 27, 9, 4, 0, 364), (16, 17, 3, 0, 0, 0, 0), (17, 20, 27, 9, 3, 0, 363), (20, 23, 38, 22, 1, 0, 705), (23, 24, 0, 0, 0, 0, 0), (24, 25, 5, 3, 0, 0, 0), (25, 26, 2, 3, 0, 0, 0), (26, 27, 2, 1, 0, 0, 0), (27, 30, 24, 47, 3, 0, 0), (30, 31, 3, 0, 0, 0, 0), (31, 34, 27, 9, 3, 0, 363), (34, 35, 3, 0, 0, 0, 0), (35, 38, 27, 9, 1, 0, 361), (38, 41, 38, 12, 1, 0, 737), (41, 44, 8, 3, 0, 1, 0), (44, 47, 22, 25, 0, 0, 0), (47, 48, 3, 0, 0, 0, 0), (48, 51, 27, 9, 3, 0, 363), (51, 54, 26, 0, 7, 0, 191), (54, 55, 43, 0, 0, 0, 0)]
/-- 71: FlagSignals.sew(I)I -/
def fg_c71 : List fg_I := [(0, 1, 3, 0, 0, 0, 0), (1, 4, 27, 9, 1, 0, 361), (4, 5, 2, 1, 0, 0, 0), (5, 8, 37, 32, 1, 0, 668), (8, 11, 23, 14, 1, 0, 0), (11, 13, 0, 0, 0, (-1000000001), 672), (13, 14, 43, 0, 0, 0, 0), (14, 15, 3, 0, 0, 0, 0), (15, 18, 27, 9, 3, 0, 363), (18, 19, 2, 1, 0, 0, 0), (19, 22, 37, 7, 1, 0, 746), (22, 25, 23, 29, 1, 0, 0), (25, 28, 0, 0, 0, (-1000000003), 704), (28, 29, 43, 0, 0, 0, 0), (29, 30, 3, 0, 0, 0, 0), (30, 33, 27, 9, 4, 0, 364), (33, 34, 3, 0, 0, 0, 0), (34, 37, 27, 9, 3, 0, 363), (37, 40, 38, 22, 1, 0, 705), (40, 41, 3, 0, 0, 0, 0), (41, 44, 27, 9, 3, 0, 363), (44, 47, 27, 0, 3, 0, 182), (47, 48, 2, 1, 0, 0, 0), (48, 49, 31, 0, 0, 0, 0), (49, 50, 5, 2, 0, 0, 0), (50, 51, 3, 0, 0, 0, 0), (51, 54, 27, 9, 3, 0, 363), (54, 55, 2, 1, 0, 0, 0), (55, 58, 38, 8, 1, 0, 750), (58, 59, 2, 2, 0, 0, 0), (59, 60, 43, 0, 0, 0, 0)]
/-- 72: FlagSignals.anew(IIII)I -/
def fg_c72 : List fg_I := [(0, 1, 3, 0, 0, 0, 0), (1, 4, 27, 9, 1, 0, 361), (4, 5, 2, 1, 0, 0, 0), (5, 8, 37, 32, 1, 0, 668), (8, 11, 23, 14, 1, 0, 0), (11, 13, 0, 0, 0, (-1000000001), 672), (13, 14, 43, 0, 0, 0, 0), (14, 15, 2, 2, 0, 0, 0), (15, 18, 23, 43, 2, 0, 0), (18, 19, 2, 2, 0, 0, 0), (19, 20, 0, 0, 0, 3, 0), (20, 23, 24, 43, 4, 0, 0), (23, 24, 2, 3, 0, 0, 0), (24, 27, 23, 43, 2, 0, 0), (27, 28, 2, 3, 0, 0, 0), (28, 29, 0, 0, 0, 4, 0), (29, 32, 24, 43, 4, 0, 0), (32, 34, 2, 4, 0, 0, 0), (34, 37, 23, 43, 2, 0, 0), (37, 39, 2, 4, 0, 0, 0), (39, 40, 0, 0, 0, 4, 0), (40, 43, 24, 46, 5, 0, 0), (43, 45, 0, 0, 0, (-1000000002), 404), (45, 46, 43, 0, 0, 0, 0), (46, 47, 3, 0, 0, 0, 0), (47, 50, 27, 9, 3, 0, 363), (50, 53, 27, 0, 4, 0, 184), (53, 54, 2, 1, 0, 0, 0), (54, 55, 31, 0, 0, 0, 0), (55, 56, 0, 0, 0, (-1), 0), (56, 59, 24, 63, 0, 0, 0), (59, 62, 0, 0, 0, (-1000000003), 704), (62, 63, 43, 0, 0, 0, 0), (63, 64, 3, 0, 0, 0, 0), (64, 67, 27, 9, 4, 0, 364), (67, 68, 3, 0, 0, 0, 0), (68, 71, 27, 9, 3, 0, 363), (71, 74, 38, 22, 1, 0, 705), (74, 75, 3, 0, 0, 0, 0), (75, 78, 27, 9, 3, 0, 363), (78, 81, 27, 0, 0, 0, 176), (81, 82, 2, 1, 0, 0, 0), (82, 83, 2, 2, 0, 0, 0), (83, 84, 32, 0, 0, 0, 0), (84, 85, 3, 0, 0, 0, 0), (85, 88, 27, 9, 3, 0, 363), (88, 91, 27, 0, 1, 0, 178), (91, 92, 2, 1, 0, 0, 0), (92, 93, 2, 3, 0, 0, 0), (93, 94, 32, 0, 0, 0, 0), (94, 95, 3, 0, 0, 0, 0), (95, 98, 27, 9, 3, 0, 363), (98, 101, 27, 0, 2, 0, 180), (101, 102, 2, 1, 0, 0, 0), (102, 104, 2, 4, 0, 0, 0), (104, 105, 32, 0, 0, 0, 0), (105, 106, 3, 0, 0, 0, 0), (106, 109, 27, 9, 3, 0, 363), (109, 110, 2, 1, 0, 0, 0), (110, 113, 38, 8, 1, 0, 750), (113, 114, 3, 0, 0, 0, 0), (114, 117, 37, 96, 0, 0, 534), (117, 118, 43, 0, 0, 0, 0)]
/-- 73: FlagSignals.weather(IZ)I -/
def fg_c73 : List fg_I := [(0, 1, 2, 1, 0, 0, 0), (1, 4, 23, 9, 2, 0, 0), (4, 5, 2, 1, 0, 0, 0), (5, 6, 0, 0, 0, 2, 0), (6, 9, 24, 12, 5, 0, 0), (9, 11, 0, 0, 0, (-1000000002), 404), (11, 12, 43, 0, 0, 0, 0), (12, 13, 2, 2, 0, 0, 0), (13, 16, 23, 20, 0, 0, 0), (16, 17, 0, 0, 0, 1, 0), (17, 20, 22, 21, 0, 0, 0), (20, 21, 0, 0, 0, 0, 0), (21, 22, 5, 3, 0, 0, 0), (22, 23, 3, 0, 0, 0, 0), (23, 26, 27, 9, 1, 0, 361), (26, 29, 37, 30, 0, 0, 736), (29, 32, 23, 54, 0, 0, 0), (32, 33, 3, 0, 0, 0, 0), (33, 36, 27, 9, 3, 0, 363), (36, 39, 26, 0, 10, 0, 196), (39, 40, 2, 1, 0, 0, 0), (40, 43, 24, 58, 1, 0, 0), (43, 44, 3, 0, 0, 0, 0), (44, 47, 27, 9, 3, 0, 363), (47, 50, 26, 0, 11, 0, 198), (50, 51, 2, 3, 0, 0, 0), (51, 54, 24, 58, 1, 0, 0), (54, 57, 0, 0, 0, (-1000000003), 704), (57, 58, 43, 0, 0, 0, 0), (58, 59, 3, 0, 0, 0, 0), (59, 62, 27, 9, 4, 0, 364), (62, 63, 3, 0, 0, 0, 0), (63, 66, 27, 9, 3, 0, 363), (66, 69, 38, 22, 1, 0, 705), (69, 70, 3, 0, 0, 0, 0), (70, 73, 27, 9, 3, 0, 363), (73, 74, 2, 1, 0, 0, 0), (74, 77, 28, 0, 10, 0, 196), (77, 78, 3, 0, 0, 0, 0), (78, 81, 27, 9, 3, 0, 363), (81, 82, 2, 3, 0, 0, 0), (82, 85, 28, 0, 11, 0, 198), (85, 86, 3, 0, 0, 0, 0), (86, 89, 37, 96, 0, 0, 534), (89, 90, 43, 0, 0, 0, 0)]
/-- 74: FlagSignals.drift(I)I -/
def fg_c74 : List fg_I := [(0, 1, 3, 0, 0, 0, 0), (1, 2, 2, 1, 0, 0, 0), (2, 5, 37, 89, 1, 0, 732), (5, 6, 5, 2, 0, 0, 0), (6, 7, 2, 2, 0, 0, 0), (7, 10, 23, 12, 0, 0, 0), (10, 11, 2, 2, 0, 0, 0), (11, 12, 43, 0, 0, 0, 0), (12, 13, 3, 0, 0, 0, 0), (13, 16, 27, 9, 4, 0, 364), (16, 17, 3, 0, 0, 0, 0), (17, 20, 27, 9, 3, 0, 363), (20, 23, 38, 22, 1, 0, 705), (23, 24, 0, 0, 0, 0, 0), (24, 25, 5, 3, 0, 0, 0), (25, 26, 2, 3, 0, 0, 0), (26, 27, 2, 1, 0, 0, 0), (27, 30, 24, 51, 3, 0, 0), (30, 31, 3, 0, 0, 0, 0), (31, 34, 38, 91, 0, 0, 766), (34, 35, 3, 0, 0, 0, 0), (35, 38, 27, 9, 3, 0, 363), (38, 39, 3, 0, 0, 0, 0), (39, 42, 27, 9, 1, 0, 361), (42, 45, 38, 12, 1, 0, 737), (45, 48, 8, 3, 0, 1, 0), (48, 51, 22, 25, 0, 0, 0), (51, 52, 3, 0, 0, 0, 0), (52, 55, 27, 9, 3, 0, 363), (55, 58, 26, 0, 7, 0, 191), (58, 59, 43, 0, 0, 0, 0)]
/-- 75: FlagSignals.undo()I -/
def fg_c75 : List fg_I := [(0, 1, 3, 0, 0, 0, 0), (1, 4, 27, 9, 4, 0, 364), (4, 7, 26, 4, 2, 0, 236), (7, 10, 23, 14, 1, 0, 0), (10, 13, 0, 0, 0, (-1000000003), 704), (13, 14, 43, 0, 0, 0, 0), (14, 15, 3, 0, 0, 0, 0), (15, 18, 27, 9, 4, 0, 364), (18, 19, 3, 0, 0, 0, 0), (19, 22, 27, 9, 3, 0, 363), (22, 25, 38, 23, 1, 0, 790), (25, 26, 3, 0, 0, 0, 0), (26, 29, 27, 9, 4, 0, 364), (29, 32, 26, 4, 2, 0, 236), (32, 33, 43, 0, 0, 0, 0)]
/-- 76: FlagSignals.look(IIZ)I -/
def fg_c76 : List fg_I := [(0, 1, 3, 0, 0, 0, 0), (1, 4, 27, 9, 1, 0, 361), (4, 5, 2, 1, 0, 0, 0), (5, 8, 37, 32, 1, 0, 668), (8, 11, 23, 14, 1, 0, 0), (11, 13, 0, 0, 0, (-1000000001), 672), (13, 14, 43, 0, 0, 0, 0), (14, 15, 2, 2, 0, 0, 0), (15, 18, 23, 23, 2, 0, 0), (18, 19, 2, 2, 0, 0, 0), (19, 20, 0, 0, 0, 2, 0), (20, 23, 24, 26, 5, 0, 0), (23, 25, 0, 0, 0, (-1000000002), 404), (25, 26, 43, 0, 0, 0, 0), (26, 27, 3, 0, 0, 0, 0), (27, 30, 27, 9, 3, 0, 363), (30, 31, 2, 1, 0, 0, 0), (31, 32, 2, 2, 0, 0, 0), (32, 33, 2, 3, 0, 0, 0), (33, 36, 23, 40, 0, 0, 0), (36, 37, 0, 0, 0, 1, 0), (37, 40, 22, 41, 0, 0, 0), (40, 41, 0, 0, 0, 0, 0), (41, 44, 37, 5, 3, 0, 673), (44, 45, 43, 0, 0, 0, 0)]
/-- 77: FlagSignals.together(I)I -/
def fg_c77 : List fg_I := [(0, 1, 3, 0, 0, 0, 0), (1, 4, 27, 9, 1, 0, 361), (4, 5, 2, 1, 0, 0, 0), (5, 8, 37, 34, 1, 0, 802), (8, 11, 23, 14, 1, 0, 0), (11, 13, 0, 0, 0, (-1000000001), 672), (13, 14, 43, 0, 0, 0, 0), (14, 15, 3, 0, 0, 0, 0), (15, 16, 2, 1, 0, 0, 0), (16, 19, 37, 98, 1, 0, 603), (19, 22, 23, 26, 0, 0, 0), (22, 23, 0, 0, 0, 1, 0), (23, 26, 22, 27, 0, 0, 0), (26, 27, 0, 0, 0, 0, 0), (27, 28, 43, 0, 0, 0, 0)]
/-- 78: FlagSignals.turns(II)I -/
def fg_c78 : List fg_I := [(0, 1, 3, 0, 0, 0, 0), (1, 4, 27, 9, 1, 0, 361), (4, 5, 2, 1, 0, 0, 0), (5, 8, 37, 34, 1, 0, 802), (8, 11, 23, 14, 1, 0, 0), (11, 13, 0, 0, 0, (-1000000001), 672), (13, 14, 43, 0, 0, 0, 0), (14, 15, 2, 2, 0, 0, 0), (15, 18, 23, 23, 2, 0, 0), (18, 19, 2, 2, 0, 0, 0), (19, 20, 0, 0, 0, 1, 0), (20, 23, 24, 26, 5, 0, 0), (23, 25, 0, 0, 0, (-1000000002), 404), (25, 26, 43, 0, 0, 0, 0), (26, 27, 2, 1, 0, 0, 0), (27, 30, 23, 40, 1, 0, 0), (30, 31, 2, 2, 0, 0, 0), (31, 34, 23, 38, 1, 0, 0), (34, 35, 0, 0, 0, 0, 0), (35, 38, 22, 39, 0, 0, 0), (38, 39, 0, 0, 0, (-1), 0), (39, 40, 43, 0, 0, 0, 0), (40, 41, 3, 0, 0, 0, 0), (41, 44, 27, 9, 8, 0, 368), (44, 45, 3, 0, 0, 0, 0), (45, 48, 27, 9, 1, 0, 361), (48, 49, 3, 0, 0, 0, 0), (49, 52, 27, 9, 7, 0, 367), (52, 53, 3, 0, 0, 0, 0), (53, 56, 27, 9, 3, 0, 363), (56, 59, 26, 0, 7, 0, 191), (59, 62, 38, 54, 3, 0, 546), (62, 63, 2, 1, 0, 0, 0), (63, 64, 3, 0, 0, 0, 0), (64, 67, 27, 9, 8, 0, 368), (67, 70, 26, 8, 3, 0, 302), (70, 71, 0, 0, 0, (-1), 0), (71, 72, 9, 0, 5, 0, 0), (72, 73, 9, 0, 3, 0, 0), (73, 76, 23, 78, 0, 0, 0), (76, 77, 0, 0, 0, (-1), 0), (77, 78, 43, 0, 0, 0, 0), (78, 79, 3, 0, 0, 0, 0), (79, 80, 2, 1, 0, 0, 0), (80, 83, 38, 99, 1, 0, 599), (83, 84, 3, 0, 0, 0, 0), (84, 87, 27, 9, 9, 0, 369), (87, 88, 2, 1, 0, 0, 0), (88, 91, 38, 26, 1, 0, 811), (91, 92, 2, 2, 0, 0, 0), (92, 95, 23, 107, 1, 0, 0), (95, 96, 3, 0, 0, 0, 0), (96, 99, 27, 9, 9, 0, 369), (99, 102, 27, 5, 1, 0, 321), (102, 103, 2, 1, 0, 0, 0), (103, 104, 31, 0, 0, 0, 0), (104, 107, 22, 115, 0, 0, 0), (107, 108, 3, 0, 0, 0, 0), (108, 111, 27, 9, 9, 0, 369), (111, 112, 2, 1, 0, 0, 0), (112, 115, 37, 28, 1, 0, 822), (115, 116, 43, 0, 0, 0, 0)]
/-- 79: FlagSignals.clear(II)I -/
def fg_c79 : List fg_I := [(0, 1, 2, 1, 0, 0, 0), (1, 4, 23, 20, 2, 0, 0), (4, 5, 2, 1, 0, 0, 0), (5, 7, 0, 0, 0, 60, 0), (7, 10, 24, 20, 4, 0, 0), (10, 11, 2, 2, 0, 0, 0), (11, 14, 23, 20, 2, 0, 0), (14, 15, 2, 2, 0, 0, 0), (15, 17, 0, 0, 0, 100, 0), (17, 20, 24, 23, 5, 0, 0), (20, 22, 0, 0, 0, (-1000000002), 404), (22, 23, 43, 0, 0, 0, 0), (23, 26, 1, 1000000000, 0, 0, 830), (26, 27, 7, 3, 0, 0, 0), (27, 28, 0, 0, 0, 0, 0), (28, 30, 5, 5, 0, 0, 0), (30, 32, 2, 5, 0, 0, 0), (32, 33, 2, 1, 0, 0, 0), (33, 36, 24, 51, 3, 0, 0), (36, 37, 4, 3, 0, 0, 0), (37, 38, 2, 2, 0, 0, 0), (38, 39, 13, 0, 0, 0, 0), (39, 40, 15, 0, 1, 0, 0), (40, 43, 1, 100, 0, 0, 831), (43, 44, 16, 0, 0, 0, 0), (44, 45, 7, 3, 0, 0, 0), (45, 48, 8, 5, 0, 1, 0), (48, 51, 22, 30, 0, 0, 0), (51, 52, 4, 3, 0, 0, 0), (52, 53, 14, 0, 0, 0, 0), (53, 54, 43, 0, 0, 0, 0)]
/-- 80: FlagSignals.read(II)I -/
def fg_c80 : List fg_I := [(0, 1, 3, 0, 0, 0, 0), (1, 4, 27, 9, 1, 0, 361), (4, 5, 2, 1, 0, 0, 0), (5, 8, 37, 33, 1, 0, 678), (8, 11, 23, 22, 0, 0, 0), (11, 12, 3, 0, 0, 0, 0), (12, 15, 27, 9, 1, 0, 361), (15, 16, 2, 2, 0, 0, 0), (16, 19, 37, 33, 1, 0, 678), (19, 22, 23, 25, 1, 0, 0), (22, 24, 0, 0, 0, (-1000000001), 672), (24, 25, 43, 0, 0, 0, 0), (25, 26, 3, 0, 0, 0, 0), (26, 29, 27, 9, 6, 0, 366), (29, 30, 2, 1, 0, 0, 0), (30, 31, 2, 2, 0, 0, 0), (31, 34, 37, 17, 2, 0, 836), (34, 37, 23, 47, 0, 0, 0), (37, 38, 3, 0, 0, 0, 0), (38, 41, 27, 9, 6, 0, 366), (41, 44, 26, 3, 4, 0, 257), (44, 47, 22, 49, 0, 0, 0), (47, 49, 0, 0, 0, (-1000000004), 409), (49, 50, 43, 0, 0, 0, 0)]
/-- 81: FlagSignals.write(II)I -/
def fg_c81 : List fg_I := [(0, 1, 3, 0, 0, 0, 0), (1, 4, 27, 9, 1, 0, 361), (4, 5, 2, 1, 0, 0, 0), (5, 8, 37, 31, 1, 0, 688), (8, 11, 23, 27, 0, 0, 0), (11, 12, 2, 2, 0, 0, 0), (12, 13, 0, 0, 0, (-1), 0), (13, 16, 24, 30, 0, 0, 0), (16, 17, 3, 0, 0, 0, 0), (17, 20, 27, 9, 1, 0, 361), (20, 21, 2, 2, 0, 0, 0), (21, 24, 37, 33, 1, 0, 678), (24, 27, 23, 30, 1, 0, 0), (27, 29, 0, 0, 0, (-1000000001), 672), (29, 30, 43, 0, 0, 0, 0), (30, 31, 3, 0, 0, 0, 0), (31, 34, 27, 9, 6, 0, 366), (34, 35, 2, 1, 0, 0, 0), (35, 36, 2, 2, 0, 0, 0), (36, 39, 37, 18, 2, 0, 844), (39, 42, 23, 52, 0, 0, 0), (42, 43, 3, 0, 0, 0, 0), (43, 46, 27, 9, 6, 0, 366), (46, 49, 26, 3, 5, 0, 259), (49, 52, 22, 54, 0, 0, 0), (52, 54, 0, 0, 0, (-1000000004), 409), (54, 55, 43, 0, 0, 0, 0)]
/-- 82: FlagSignals.tear()I -/
def fg_c82 : List fg_I := [(0, 1, 3, 0, 0, 0, 0), (1, 4, 27, 9, 6, 0, 366), (4, 7, 26, 3, 4, 0, 257), (7, 8, 3, 0, 0, 0, 0), (8, 11, 27, 9, 6, 0, 366), (11, 14, 26, 3, 5, 0, 259), (14, 15, 9, 0, 0, 0, 0), (15, 16, 5, 1, 0, 0, 0), (16, 17, 3, 0, 0, 0, 0), (17, 20, 27, 9, 6, 0, 366), (20, 23, 38, 19, 0, 0, 474), (23, 24, 2, 1, 0, 0, 0), (24, 25, 43, 0, 0, 0, 0)]
/-- 83: FlagSignals.judge()I -/
def fg_c83 : List fg_I := [(0, 1, 3, 0, 0, 0, 0), (1, 4, 27, 9, 6, 0, 366), (4, 5, 3, 0, 0, 0, 0), (5, 8, 27, 9, 3, 0, 363), (8, 11, 37, 21, 1, 0, 856), (11, 12, 43, 0, 0, 0, 0)]
/-- 84: FlagSignals.seed(I)I -/
def fg_c84 : List fg_I := [(0, 1, 2, 1, 0, 0, 0), (1, 4, 23, 7, 3, 0, 0), (4, 6, 0, 0, 0, (-1000000002), 404), (6, 7, 43, 0, 0, 0, 0), (7, 8, 3, 0, 0, 0, 0), (8, 11, 26, 9, 12, 0, 372), (11, 12, 5, 2, 0, 0, 0), (12, 13, 3, 0, 0, 0, 0), (13, 14, 2, 1, 0, 0, 0), (14, 17, 28, 9, 12, 0, 372), (17, 18, 2, 2, 0, 0, 0), (18, 19, 43, 0, 0, 0, 0)]
/-- 85: FlagSignals.keep(I)I -/
def fg_c85 : List fg_I := [(0, 1, 2, 1, 0, 0, 0), (1, 4, 23, 13, 2, 0, 0), (4, 5, 2, 1, 0, 0, 0), (5, 6, 3, 0, 0, 0, 0), (6, 9, 27, 9, 5, 0, 365), (9, 10, 36, 0, 0, 0, 0), (10, 13, 24, 16, 2, 0, 0), (13, 15, 0, 0, 0, (-1000000001), 672), (15, 16, 43, 0, 0, 0, 0), (16, 17, 3, 0, 0, 0, 0), (17, 20, 27, 9, 5, 0, 365), (20, 21, 2, 1, 0, 0, 0), (21, 22, 35, 0, 0, 0, 0), (22, 25, 27, 1, 0, 0, 336), (25, 26, 3, 0, 0, 0, 0), (26, 29, 27, 9, 3, 0, 363), (29, 32, 38, 1, 1, 0, 868), (32, 33, 3, 0, 0, 0, 0), (33, 36, 27, 9, 5, 0, 365), (36, 37, 2, 1, 0, 0, 0), (37, 38, 35, 0, 0, 0, 0), (38, 39, 3, 0, 0, 0, 0), (39, 42, 26, 9, 12, 0, 372), (42, 45, 28, 1, 1, 0, 338), (45, 46, 3, 0, 0, 0, 0), (46, 49, 27, 9, 5, 0, 365), (49, 50, 2, 1, 0, 0, 0), (50, 51, 35, 0, 0, 0, 0), (51, 52, 0, 0, 0, 1, 0), (52, 55, 29, 1, 2, 0, 340), (55, 56, 3, 0, 0, 0, 0), (56, 59, 27, 9, 4, 0, 364), (59, 62, 38, 24, 0, 0, 470), (62, 63, 0, 0, 0, 1, 0), (63, 64, 43, 0, 0, 0, 0)]
/-- 86: FlagSignals.goBack(I)I -/
def fg_c86 : List fg_I := [(0, 1, 2, 1, 0, 0, 0), (1, 4, 23, 13, 2, 0, 0), (4, 5, 2, 1, 0, 0, 0), (5, 6, 3, 0, 0, 0, 0), (6, 9, 27, 9, 5, 0, 365), (9, 10, 36, 0, 0, 0, 0), (10, 13, 24, 16, 2, 0, 0), (13, 15, 0, 0, 0, (-1000000001), 672), (15, 16, 43, 0, 0, 0, 0), (16, 17, 3, 0, 0, 0, 0), (17, 20, 27, 9, 5, 0, 365), (20, 21, 2, 1, 0, 0, 0), (21, 22, 35, 0, 0, 0, 0), (22, 25, 26, 1, 2, 0, 340), (25, 28, 23, 32, 1, 0, 0), (28, 31, 0, 0, 0, (-1000000003), 704), (31, 32, 43, 0, 0, 0, 0), (32, 33, 3, 0, 0, 0, 0), (33, 36, 27, 9, 3, 0, 363), (36, 37, 3, 0, 0, 0, 0), (37, 40, 27, 9, 5, 0, 365), (40, 41, 2, 1, 0, 0, 0), (41, 42, 35, 0, 0, 0, 0), (42, 45, 27, 1, 0, 0, 336), (45, 48, 38, 1, 1, 0, 868), (48, 49, 3, 0, 0, 0, 0), (49, 50, 3, 0, 0, 0, 0), (50, 53, 27, 9, 5, 0, 365), (53, 54, 2, 1, 0, 0, 0), (54, 55, 35, 0, 0, 0, 0), (55, 58, 26, 1, 1, 0, 338), (58, 61, 28, 9, 12, 0, 372), (61, 62, 3, 0, 0, 0, 0), (62, 65, 27, 9, 4, 0, 364), (65, 68, 38, 24, 0, 0, 470), (68, 69, 0, 0, 0, 1, 0), (69, 70, 43, 0, 0, 0, 0)]
/-- 87: FlagSignals.has(II)Z -/
def fg_c87 : List fg_I := [(0, 1, 2, 0, 0, 0, 0), (1, 2, 2, 1, 0, 0, 0), (2, 3, 9, 0, 7, 0, 0), (3, 4, 0, 0, 0, 1, 0), (4, 5, 9, 0, 3, 0, 0), (5, 8, 23, 12, 0, 0, 0), (8, 9, 0, 0, 0, 1, 0), (9, 12, 22, 13, 0, 0, 0), (12, 13, 0, 0, 0, 0, 0), (13, 14, 44, 0, 0, 0, 0)]
/-- 88: FlagSignals.canHoist(II)Z -/
def fg_c88 : List fg_I := [(0, 1, 3, 0, 0, 0, 0), (1, 4, 27, 9, 1, 0, 361), (4, 5, 2, 1, 0, 0, 0), (5, 8, 37, 31, 1, 0, 688), (8, 11, 23, 24, 0, 0, 0), (11, 12, 3, 0, 0, 0, 0), (12, 15, 27, 9, 3, 0, 363), (15, 18, 27, 0, 5, 0, 187), (18, 19, 2, 1, 0, 0, 0), (19, 20, 31, 0, 0, 0, 0), (20, 21, 0, 0, 0, (-1), 0), (21, 24, 24, 26, 0, 0, 0), (24, 25, 0, 0, 0, 0, 0), (25, 26, 44, 0, 0, 0, 0), (26, 27, 3, 0, 0, 0, 0), (27, 30, 27, 9, 7, 0, 367), (30, 31, 3, 0, 0, 0, 0), (31, 34, 27, 9, 3, 0, 363), (34, 35, 3, 0, 0, 0, 0), (35, 38, 27, 9, 1, 0, 361), (38, 41, 37, 3, 1, 0, 486), (41, 42, 3, 0, 0, 0, 0), (42, 45, 27, 9, 3, 0, 363), (45, 46, 3, 0, 0, 0, 0), (46, 49, 27, 9, 1, 0, 361), (49, 52, 37, 4, 1, 0, 498), (52, 55, 38, 13, 2, 0, 506), (55, 56, 3, 0, 0, 0, 0), (56, 59, 27, 9, 7, 0, 367), (59, 60, 3, 0, 0, 0, 0), (60, 63, 27, 9, 1, 0, 361), (63, 64, 2, 2, 0, 0, 0), (64, 67, 37, 14, 2, 0, 510), (67, 68, 44, 0, 0, 0, 0)]
/-- 89: FlagSignals.refusedDays(I)I -/
def fg_c89 : List fg_I := [(0, 1, 2, 1, 0, 0, 0), (1, 2, 0, 0, 0, 1, 0), (2, 5, 24, 11, 2, 0, 0), (5, 6, 2, 1, 0, 0, 0), (6, 8, 0, 0, 0, 60, 0), (8, 11, 24, 14, 5, 0, 0), (11, 13, 0, 0, 0, (-1000000002), 404), (13, 14, 43, 0, 0, 0, 0), (14, 15, 3, 0, 0, 0, 0), (15, 18, 27, 9, 1, 0, 361), (18, 21, 37, 30, 0, 0, 736), (21, 24, 23, 28, 1, 0, 0), (24, 27, 0, 0, 0, (-1000000003), 704), (27, 28, 43, 0, 0, 0, 0), (28, 29, 3, 0, 0, 0, 0), (29, 32, 27, 9, 3, 0, 363), (32, 35, 26, 0, 9, 0, 194), (35, 38, 0, 0, 0, 9000, 0), (38, 41, 24, 46, 5, 0, 0), (41, 43, 0, 0, 0, (-1000000004), 409), (43, 46, 22, 47, 0, 0, 0), (46, 47, 0, 0, 0, 0, 0), (47, 48, 43, 0, 0, 0, 0)]
/-- 90: FlagSignals.draw(I)I -/
def fg_c90 : List fg_I := [(0, 1, 3, 0, 0, 0, 0), (1, 2, 3, 0, 0, 0, 0), (2, 5, 26, 9, 12, 0, 372), (5, 6, 13, 0, 0, 0, 0), (6, 9, 1, 1103515245, 0, 0, 774), (9, 10, 15, 0, 1, 0, 0), (10, 13, 1, 12345, 0, 0, 775), (13, 14, 15, 0, 0, 0, 0), (14, 17, 1, 2147483647, 0, 0, 776), (17, 18, 15, 0, 2, 0, 0), (18, 19, 14, 0, 0, 0, 0), (19, 22, 28, 9, 12, 0, 372), (22, 23, 2, 1, 0, 0, 0), (23, 26, 23, 39, 5, 0, 0), (26, 27, 3, 0, 0, 0, 0), (27, 30, 26, 9, 12, 0, 372), (30, 33, 0, 0, 0, 65536, 777), (33, 34, 10, 0, 0, 0, 0), (34, 35, 2, 1, 0, 0, 0), (35, 36, 11, 0, 0, 0, 0), (36, 39, 22, 40, 0, 0, 0), (39, 40, 0, 0, 0, 0, 0), (40, 41, 43, 0, 0, 0, 0)]
/-- 91: FlagSignals.actByDraws()V -/
def fg_c91 : List fg_I := [(0, 1, 3, 0, 0, 0, 0), (1, 2, 0, 0, 0, 5, 0), (2, 5, 37, 90, 1, 0, 770), (5, 6, 5, 1, 0, 0, 0), (6, 7, 3, 0, 0, 0, 0), (7, 8, 3, 0, 0, 0, 0), (8, 11, 27, 9, 1, 0, 361), (11, 14, 26, 6, 0, 0, 127), (14, 17, 37, 90, 1, 0, 770), (17, 18, 5, 2, 0, 0, 0), (18, 19, 2, 1, 0, 0, 0), (19, 48, 25, 2, 0, 0, 0), (48, 49, 3, 0, 0, 0, 0), (49, 50, 2, 2, 0, 0, 0), (50, 53, 38, 92, 1, 0, 778), (53, 56, 22, 123, 0, 0, 0), (56, 57, 3, 0, 0, 0, 0), (57, 60, 27, 9, 1, 0, 361), (60, 61, 2, 2, 0, 0, 0), (61, 64, 37, 31, 1, 0, 688), (64, 67, 23, 123, 0, 0, 0), (67, 68, 3, 0, 0, 0, 0), (68, 71, 27, 9, 3, 0, 363), (71, 74, 27, 0, 5, 0, 187), (74, 75, 2, 2, 0, 0, 0), (75, 76, 31, 0, 0, 0, 0), (76, 77, 0, 0, 0, (-1), 0), (77, 80, 24, 123, 0, 0, 0), (80, 81, 3, 0, 0, 0, 0), (81, 84, 27, 9, 3, 0, 363), (84, 85, 2, 2, 0, 0, 0), (85, 88, 37, 10, 1, 0, 724), (88, 89, 20, 0, 0, 0, 0), (89, 92, 22, 123, 0, 0, 0), (92, 93, 3, 0, 0, 0, 0), (93, 96, 27, 9, 3, 0, 363), (96, 97, 3, 0, 0, 0, 0), (97, 98, 0, 0, 0, 3, 0), (98, 101, 37, 90, 1, 0, 770), (101, 104, 28, 0, 10, 0, 196), (104, 105, 3, 0, 0, 0, 0), (105, 108, 27, 9, 3, 0, 363), (108, 109, 3, 0, 0, 0, 0), (109, 110, 0, 0, 0, 2, 0), (110, 113, 37, 90, 1, 0, 770), (113, 116, 28, 0, 11, 0, 198), (116, 119, 22, 123, 0, 0, 0), (119, 120, 3, 0, 0, 0, 0), (120, 123, 38, 93, 0, 0, 782), (123, 124, 45, 0, 0, 0, 0)]
/-- 92: FlagSignals.hoistDrawn(I)V -/
def fg_c92 : List fg_I := [(0, 1, 3, 0, 0, 0, 0), (1, 4, 27, 9, 1, 0, 361), (4, 7, 26, 6, 3, 0, 138), (7, 10, 23, 11, 1, 0, 0), (10, 11, 45, 0, 0, 0, 0), (11, 12, 3, 0, 0, 0, 0), (12, 13, 3, 0, 0, 0, 0), (13, 16, 27, 9, 1, 0, 361), (16, 19, 26, 6, 3, 0, 138), (19, 22, 37, 90, 1, 0, 770), (22, 23, 5, 2, 0, 0, 0), (23, 24, 3, 0, 0, 0, 0), (24, 25, 2, 1, 0, 0, 0), (25, 26, 2, 2, 0, 0, 0), (26, 29, 37, 88, 2, 0, 700), (29, 32, 23, 49, 0, 0, 0), (32, 33, 3, 0, 0, 0, 0), (33, 36, 27, 9, 3, 0, 363), (36, 37, 2, 1, 0, 0, 0), (37, 38, 2, 2, 0, 0, 0), (38, 39, 3, 0, 0, 0, 0), (39, 42, 27, 9, 7, 0, 367), (42, 45, 27, 2, 2, 0, 283), (45, 48, 37, 9, 3, 0, 716), (48, 49, 20, 0, 0, 0, 0), (49, 50, 45, 0, 0, 0, 0)]
/-- 93: FlagSignals.sewDrawn()V -/
def fg_c93 : List fg_I := [(0, 1, 3, 0, 0, 0, 0), (1, 4, 27, 9, 1, 0, 361), (4, 7, 26, 6, 2, 0, 133), (7, 10, 23, 11, 1, 0, 0), (10, 11, 45, 0, 0, 0, 0), (11, 12, 3, 0, 0, 0, 0), (12, 13, 3, 0, 0, 0, 0), (13, 16, 27, 9, 1, 0, 361), (16, 19, 26, 6, 2, 0, 133), (19, 22, 37, 90, 1, 0, 770), (22, 23, 5, 1, 0, 0, 0), (23, 24, 3, 0, 0, 0, 0), (24, 27, 27, 9, 3, 0, 363), (27, 28, 2, 1, 0, 0, 0), (28, 31, 37, 7, 1, 0, 746), (31, 34, 23, 42, 0, 0, 0), (34, 35, 3, 0, 0, 0, 0), (35, 38, 27, 9, 3, 0, 363), (38, 39, 2, 1, 0, 0, 0), (39, 42, 38, 8, 1, 0, 750), (42, 43, 45, 0, 0, 0, 0)]
/-- 94: FlagSignals.readySignals()I -/
def fg_c94 : List fg_I := [(0, 1, 0, 0, 0, 0, 0), (1, 2, 5, 1, 0, 0, 0), (2, 3, 0, 0, 0, 0, 0), (3, 4, 5, 2, 0, 0, 0), (4, 5, 2, 2, 0, 0, 0), (5, 6, 3, 0, 0, 0, 0), (6, 9, 27, 9, 1, 0, 361), (9, 12, 26, 6, 3, 0, 138), (12, 15, 24, 71, 3, 0, 0), (15, 16, 3, 0, 0, 0, 0), (16, 19, 27, 9, 7, 0, 367), (19, 20, 3, 0, 0, 0, 0), (20, 23, 27, 9, 3, 0, 363), (23, 24, 3, 0, 0, 0, 0), (24, 27, 27, 9, 1, 0, 361), (27, 30, 37, 3, 1, 0, 486), (30, 31, 3, 0, 0, 0, 0), (31, 34, 27, 9, 3, 0, 363), (34, 35, 3, 0, 0, 0, 0), (35, 38, 27, 9, 1, 0, 361), (38, 41, 37, 4, 1, 0, 498), (41, 44, 38, 13, 2, 0, 506), (44, 45, 3, 0, 0, 0, 0), (45, 48, 27, 9, 7, 0, 367), (48, 49, 3, 0, 0, 0, 0), (49, 52, 27, 9, 1, 0, 361), (52, 53, 2, 2, 0, 0, 0), (53, 56, 37, 14, 2, 0, 510), (56, 59, 23, 65, 0, 0, 0), (59, 60, 2, 1, 0, 0, 0), (60, 61, 0, 0, 0, 1, 0), (61, 62, 2, 2, 0, 0, 0), (62, 63, 9, 0, 6, 0, 0), (63, 64, 9, 0, 4, 0, 0), (64, 65, 5, 1, 0, 0, 0), (65, 68, 8, 2, 0, 1, 0), (68, 71, 22, 4, 0, 0, 0), (71, 72, 2, 1, 0, 0, 0), (72, 73, 43, 0, 0, 0, 0)]
/-- 95: FlagSignals.watchIn(I)V -/
def fg_c95 : List fg_I := [(0, 1, 3, 0, 0, 0, 0), (1, 4, 27, 9, 8, 0, 368), (4, 5, 3, 0, 0, 0, 0), (5, 8, 27, 9, 1, 0, 361), (8, 9, 3, 0, 0, 0, 0), (9, 12, 27, 9, 7, 0, 367), (12, 13, 3, 0, 0, 0, 0), (13, 16, 27, 9, 3, 0, 363), (16, 19, 26, 0, 7, 0, 191), (19, 22, 38, 54, 3, 0, 546), (22, 23, 3, 0, 0, 0, 0), (23, 26, 27, 9, 8, 0, 368), (26, 27, 3, 0, 0, 0, 0), (27, 30, 27, 9, 1, 0, 361), (30, 31, 3, 0, 0, 0, 0), (31, 34, 27, 9, 3, 0, 363), (34, 35, 2, 1, 0, 0, 0), (35, 38, 38, 55, 3, 0, 554), (38, 39, 45, 0, 0, 0, 0)]
/-- 96: FlagSignals.clearNow()I -/
def fg_c96 : List fg_I := [(0, 1, 3, 0, 0, 0, 0), (1, 2, 3, 0, 0, 0, 0), (2, 5, 27, 9, 3, 0, 363), (5, 8, 37, 2, 0, 0, 538), (8, 11, 38, 95, 1, 0, 542), (11, 12, 3, 0, 0, 0, 0), (12, 15, 27, 9, 8, 0, 368), (15, 16, 3, 0, 0, 0, 0), (16, 19, 27, 9, 1, 0, 361), (19, 22, 37, 59, 1, 0, 577), (22, 23, 43, 0, 0, 0, 0)]
/-- 97: FlagSignals.clearest()I -/
def fg_c97 : List fg_I := [(0, 1, 0, 0, 0, 0, 0), (1, 2, 5, 1, 0, 0, 0), (2, 3, 0, 0, 0, (-1), 0), (3, 4, 5, 2, 0, 0, 0), (4, 5, 3, 0, 0, 0, 0), (5, 8, 27, 9, 8, 0, 368), (8, 9, 3, 0, 0, 0, 0), (9, 12, 27, 9, 1, 0, 361), (12, 13, 3, 0, 0, 0, 0), (13, 16, 27, 9, 7, 0, 367), (16, 17, 3, 0, 0, 0, 0), (17, 20, 27, 9, 3, 0, 363), (20, 23, 26, 0, 7, 0, 191), (23, 26, 38, 54, 3, 0, 546), (26, 27, 0, 0, 0, 0, 0), (27, 28, 5, 3, 0, 0, 0), (28, 29, 2, 3, 0, 0, 0), (29, 31, 0, 0, 0, 6, 0), (31, 34, 24, 83, 3, 0, 0), (34, 35, 3, 0, 0, 0, 0), (35, 38, 27, 9, 8, 0, 368), (38, 39, 3, 0, 0, 0, 0), (39, 42, 27, 9, 1, 0, 361), (42, 43, 3, 0, 0, 0, 0), (43, 46, 27, 9, 3, 0, 363), (46, 47, 2, 3, 0, 0, 0), (47, 50, 38, 55, 3, 0, 554), (50, 51, 3, 0, 0, 0, 0), (51, 54, 27, 9, 8, 0, 368), (54, 55, 3, 0, 0, 0, 0), (55, 58, 27, 9, 1, 0, 361), (58, 61, 37, 59, 1, 0, 577), (61, 64, 39, 195, 1, 0, 585), (64, 66, 5, 4, 0, 0, 0), (66, 68, 2, 4, 0, 0, 0), (68, 69, 2, 2, 0, 0, 0), (69, 72, 24, 77, 5, 0, 0), (72, 74, 2, 4, 0, 0, 0), (74, 75, 5, 2, 0, 0, 0), (75, 76, 2, 3, 0, 0, 0), (76, 77, 5, 1, 0, 0, 0), (77, 80, 8, 3, 0, 1, 0), (80, 83, 22, 28, 0, 0, 0), (83, 84, 2, 1, 0, 0, 0), (84, 85, 43, 0, 0, 0, 0)]
/-- 98: FlagSignals.flyTogether(I)Z -/
def fg_c98 : List fg_I := [(0, 1, 2, 1, 0, 0, 0), (1, 4, 39, 195, 1, 0, 585), (4, 5, 3, 0, 0, 0, 0), (5, 8, 27, 9, 1, 0, 361), (8, 11, 26, 6, 0, 0, 127), (11, 14, 24, 16, 5, 0, 0), (14, 15, 0, 0, 0, 0, 0), (15, 16, 44, 0, 0, 0, 0), (16, 17, 3, 0, 0, 0, 0), (17, 20, 27, 9, 7, 0, 367), (20, 21, 3, 0, 0, 0, 0), (21, 24, 27, 9, 1, 0, 361), (24, 27, 37, 36, 0, 0, 607), (27, 28, 3, 0, 0, 0, 0), (28, 31, 27, 9, 3, 0, 363), (31, 34, 26, 0, 7, 0, 191), (34, 35, 0, 0, 0, (-1), 0), (35, 36, 9, 0, 5, 0, 0), (36, 37, 9, 0, 3, 0, 0), (37, 38, 3, 0, 0, 0, 0), (38, 41, 27, 9, 1, 0, 361), (41, 44, 37, 37, 0, 0, 608), (44, 47, 38, 13, 2, 0, 506), (47, 48, 0, 0, 0, 0, 0), (48, 49, 5, 2, 0, 0, 0), (49, 50, 2, 2, 0, 0, 0), (50, 51, 3, 0, 0, 0, 0), (51, 54, 27, 9, 1, 0, 361), (54, 57, 26, 6, 3, 0, 138), (57, 60, 24, 91, 3, 0, 0), (60, 61, 2, 1, 0, 0, 0), (61, 62, 2, 2, 0, 0, 0), (62, 65, 39, 87, 2, 0, 609), (65, 68, 23, 85, 0, 0, 0), (68, 69, 3, 0, 0, 0, 0), (69, 72, 27, 9, 7, 0, 367), (72, 73, 3, 0, 0, 0, 0), (73, 76, 27, 9, 1, 0, 361), (76, 77, 2, 2, 0, 0, 0), (77, 80, 37, 14, 2, 0, 510), (80, 83, 23, 85, 1, 0, 0), (83, 84, 0, 0, 0, 0, 0), (84, 85, 44, 0, 0, 0, 0), (85, 88, 8, 2, 0, 1, 0), (88, 91, 22, 49, 0, 0, 0), (91, 92, 0, 0, 0, 1, 0), (92, 93, 44, 0, 0, 0, 0)]
/-- 99: FlagSignals.groupWithin(I)V -/
def fg_c99 : List fg_I := [(0, 1, 0, 0, 0, 0, 0), (1, 2, 5, 2, 0, 0, 0), (2, 3, 2, 2, 0, 0, 0), (3, 6, 0, 0, 0, 1024, 0), (6, 9, 24, 45, 3, 0, 0), (9, 10, 3, 0, 0, 0, 0), (10, 13, 27, 9, 9, 0, 369), (13, 16, 27, 5, 0, 0, 319), (16, 17, 2, 2, 0, 0, 0), (17, 18, 2, 2, 0, 0, 0), (18, 19, 2, 1, 0, 0, 0), (19, 20, 0, 0, 0, (-1), 0), (20, 21, 9, 0, 5, 0, 0), (21, 22, 9, 0, 3, 0, 0), (22, 25, 23, 37, 1, 0, 0), (25, 26, 3, 0, 0, 0, 0), (26, 27, 2, 2, 0, 0, 0), (27, 30, 37, 98, 1, 0, 603), (30, 33, 23, 37, 0, 0, 0), (33, 34, 0, 0, 0, 1, 0), (34, 37, 22, 38, 0, 0, 0), (37, 38, 0, 0, 0, 0, 0), (38, 39, 34, 0, 0, 0, 0), (39, 42, 8, 2, 0, 1, 0), (42, 45, 22, 2, 0, 0, 0), (45, 46, 45, 0, 0, 0, 0)]
/-- 100: FlagSignals.mostTogether()I -/
def fg_c100 : List fg_I := [(0, 1, 3, 0, 0, 0, 0), (1, 2, 3, 0, 0, 0, 0), (2, 5, 27, 9, 1, 0, 361), (5, 8, 37, 35, 0, 0, 595), (8, 11, 38, 99, 1, 0, 599), (11, 12, 3, 0, 0, 0, 0), (12, 15, 27, 9, 9, 0, 369), (15, 18, 37, 25, 0, 0, 610), (18, 19, 43, 0, 0, 0, 0)]
/-- 101: FlagSignals.neededFlag()I -/
def fg_c101 : List fg_I := [(0, 1, 0, 0, 0, (-1), 0), (1, 2, 5, 1, 0, 0, 0), (2, 3, 0, 0, 0, (-1), 0), (3, 4, 5, 2, 0, 0, 0), (4, 5, 0, 0, 0, 0, 0), (5, 6, 5, 3, 0, 0, 0), (6, 7, 2, 3, 0, 0, 0), (7, 8, 3, 0, 0, 0, 0), (8, 11, 27, 9, 1, 0, 361), (11, 14, 26, 6, 2, 0, 133), (14, 17, 24, 47, 3, 0, 0), (17, 18, 3, 0, 0, 0, 0), (18, 21, 27, 9, 1, 0, 361), (21, 22, 2, 3, 0, 0, 0), (22, 25, 37, 43, 1, 0, 619), (25, 28, 39, 195, 1, 0, 585), (28, 30, 5, 4, 0, 0, 0), (30, 32, 2, 4, 0, 0, 0), (32, 33, 2, 2, 0, 0, 0), (33, 36, 24, 41, 5, 0, 0), (36, 38, 2, 4, 0, 0, 0), (38, 39, 5, 2, 0, 0, 0), (39, 40, 2, 3, 0, 0, 0), (40, 41, 5, 1, 0, 0, 0), (41, 44, 8, 3, 0, 1, 0), (44, 47, 22, 6, 0, 0, 0), (47, 48, 2, 1, 0, 0, 0), (48, 49, 43, 0, 0, 0, 0)]
/-- 102: FlagSignals.betterFlag()I -/
def fg_c102 : List fg_I := [(0, 1, 3, 0, 0, 0, 0), (1, 2, 3, 0, 0, 0, 0), (2, 5, 27, 9, 3, 0, 363), (5, 8, 37, 2, 0, 0, 538), (8, 11, 38, 95, 1, 0, 542), (11, 12, 3, 0, 0, 0, 0), (12, 15, 27, 9, 8, 0, 368), (15, 16, 3, 0, 0, 0, 0), (16, 19, 27, 9, 1, 0, 361), (19, 22, 37, 59, 1, 0, 577), (22, 25, 39, 195, 1, 0, 585), (25, 26, 5, 1, 0, 0, 0), (26, 27, 0, 0, 0, (-1), 0), (27, 28, 5, 2, 0, 0, 0), (28, 29, 0, 0, 0, 0, 0), (29, 30, 5, 3, 0, 0, 0), (30, 31, 2, 3, 0, 0, 0), (31, 32, 3, 0, 0, 0, 0), (32, 35, 27, 9, 1, 0, 361), (35, 38, 26, 6, 2, 0, 133), (38, 41, 24, 195, 3, 0, 0), (41, 42, 2, 3, 0, 0, 0), (42, 44, 0, 0, 0, 10, 0), (44, 47, 24, 195, 3, 0, 0), (47, 48, 3, 0, 0, 0, 0), (48, 51, 27, 9, 1, 0, 361), (51, 52, 2, 3, 0, 0, 0), (52, 55, 37, 43, 1, 0, 619), (55, 57, 5, 4, 0, 0, 0), (57, 58, 3, 0, 0, 0, 0), (58, 61, 27, 9, 8, 0, 368), (61, 62, 3, 0, 0, 0, 0), (62, 65, 27, 9, 1, 0, 361), (65, 66, 3, 0, 0, 0, 0), (66, 69, 27, 9, 7, 0, 367), (69, 70, 3, 0, 0, 0, 0), (70, 73, 27, 9, 3, 0, 363), (73, 76, 26, 0, 7, 0, 191), (76, 77, 0, 0, 0, 1, 0), (77, 78, 2, 3, 0, 0, 0), (78, 79, 9, 0, 6, 0, 0), (79, 80, 0, 0, 0, (-1), 0), (80, 81, 9, 0, 5, 0, 0), (81, 82, 9, 0, 3, 0, 0), (82, 85, 38, 54, 3, 0, 546), (85, 86, 3, 0, 0, 0, 0), (86, 89, 27, 9, 8, 0, 368), (89, 90, 3, 0, 0, 0, 0), (90, 93, 27, 9, 1, 0, 361), (93, 94, 3, 0, 0, 0, 0), (94, 97, 27, 9, 3, 0, 363), (97, 98, 3, 0, 0, 0, 0), (98, 101, 27, 9, 3, 0, 363), (101, 104, 37, 2, 0, 0, 538), (104, 107, 38, 55, 3, 0, 554), (107, 108, 0, 0, 0, 0, 0), (108, 110, 5, 5, 0, 0, 0), (110, 112, 2, 4, 0, 0, 0), (112, 115, 23, 189, 0, 0, 0), (115, 116, 2, 1, 0, 0, 0), (116, 117, 3, 0, 0, 0, 0), (117, 120, 27, 9, 1, 0, 361), (120, 123, 26, 6, 3, 0, 138), (123, 126, 24, 189, 3, 0, 0), (126, 128, 2, 5, 0, 0, 0), (128, 130, 0, 0, 0, 100, 0), (130, 133, 24, 189, 3, 0, 0), (133, 134, 3, 0, 0, 0, 0), (134, 135, 2, 3, 0, 0, 0), (135, 137, 2, 5, 0, 0, 0), (137, 139, 2, 4, 0, 0, 0), (139, 142, 37, 103, 3, 0, 628), (142, 144, 5, 6, 0, 0, 0), (144, 146, 2, 6, 0, 0, 0), (146, 147, 2, 1, 0, 0, 0), (147, 150, 24, 183, 5, 0, 0), (150, 152, 2, 6, 0, 0, 0), (152, 153, 5, 1, 0, 0, 0), (153, 156, 0, 0, 0, 1000, 0), (156, 157, 2, 3, 0, 0, 0), (157, 158, 9, 0, 2, 0, 0), (158, 160, 0, 0, 0, 100, 0), (160, 162, 2, 5, 0, 0, 0), (162, 164, 0, 0, 0, 25, 0), (164, 165, 10, 0, 0, 0, 0), (165, 166, 9, 0, 2, 0, 0), (166, 167, 9, 0, 0, 0, 0), (167, 169, 0, 0, 0, 10, 0), (169, 171, 2, 5, 0, 0, 0), (171, 172, 0, 0, 0, 5, 0), (172, 173, 10, 0, 0, 0, 0), (173, 174, 0, 0, 0, 5, 0), (174, 175, 11, 0, 0, 0, 0), (175, 176, 9, 0, 2, 0, 0), (176, 177, 9, 0, 0, 0, 0), (177, 179, 2, 5, 0, 0, 0), (179, 180, 0, 0, 0, 5, 0), (180, 181, 11, 0, 0, 0, 0), (181, 182, 9, 0, 0, 0, 0), (182, 183, 5, 2, 0, 0, 0), (183, 186, 8, 5, 0, 1, 0), (186, 189, 22, 110, 0, 0, 0), (189, 192, 8, 3, 0, 1, 0), (192, 195, 22, 30, 0, 0, 0), (195, 196, 2, 2, 0, 0, 0), (196, 197, 43, 0, 0, 0, 0)]
/-- 103: FlagSignals.countClearWith(III)I -/
def fg_c103 : List fg_I := [(0, 1, 3, 0, 0, 0, 0), (1, 4, 27, 9, 8, 0, 368), (4, 7, 27, 8, 1, 0, 299), (7, 8, 2, 1, 0, 0, 0), (8, 9, 2, 2, 0, 0, 0), (9, 11, 0, 0, 0, 25, 0), (11, 12, 10, 0, 0, 0, 0), (12, 13, 2, 2, 0, 0, 0), (13, 14, 0, 0, 0, 5, 0), (14, 15, 10, 0, 0, 0, 0), (15, 16, 0, 0, 0, 5, 0), (16, 17, 11, 0, 0, 0, 0), (17, 18, 2, 2, 0, 0, 0), (18, 19, 0, 0, 0, 5, 0), (19, 20, 11, 0, 0, 0, 0), (20, 21, 3, 0, 0, 0, 0), (21, 24, 27, 9, 3, 0, 363), (24, 27, 26, 0, 10, 0, 196), (27, 28, 3, 0, 0, 0, 0), (28, 31, 27, 9, 3, 0, 363), (31, 34, 26, 0, 11, 0, 198), (34, 37, 39, 108, 5, 0, 632), (37, 38, 32, 0, 0, 0, 0), (38, 39, 3, 0, 0, 0, 0), (39, 42, 27, 9, 8, 0, 368), (42, 43, 3, 0, 0, 0, 0), (43, 46, 27, 9, 1, 0, 361), (46, 47, 2, 3, 0, 0, 0), (47, 50, 38, 56, 2, 0, 633), (50, 51, 3, 0, 0, 0, 0), (51, 54, 27, 9, 8, 0, 368), (54, 55, 3, 0, 0, 0, 0), (55, 58, 27, 9, 1, 0, 361), (58, 61, 37, 59, 1, 0, 577), (61, 64, 39, 195, 1, 0, 585), (64, 65, 43, 0, 0, 0, 0)]
/-- 104: FlagSignals.possibleWeathers()I -/
def fg_c104 : List fg_I := [(0, 1, 0, 0, 0, 0, 0), (1, 2, 5, 1, 0, 0, 0), (2, 3, 3, 0, 0, 0, 0), (3, 6, 27, 9, 8, 0, 368), (6, 7, 3, 0, 0, 0, 0), (7, 10, 27, 9, 1, 0, 361), (10, 11, 3, 0, 0, 0, 0), (11, 14, 27, 9, 7, 0, 367), (14, 15, 3, 0, 0, 0, 0), (15, 18, 27, 9, 3, 0, 363), (18, 21, 26, 0, 7, 0, 191), (21, 24, 38, 54, 3, 0, 546), (24, 25, 0, 0, 0, 0, 0), (25, 26, 5, 2, 0, 0, 0), (26, 27, 2, 2, 0, 0, 0), (27, 29, 0, 0, 0, 6, 0), (29, 32, 24, 78, 3, 0, 0), (32, 33, 3, 0, 0, 0, 0), (33, 36, 27, 9, 8, 0, 368), (36, 37, 3, 0, 0, 0, 0), (37, 40, 27, 9, 1, 0, 361), (40, 41, 3, 0, 0, 0, 0), (41, 44, 27, 9, 3, 0, 363), (44, 45, 2, 2, 0, 0, 0), (45, 48, 38, 55, 3, 0, 554), (48, 49, 3, 0, 0, 0, 0), (49, 52, 27, 9, 6, 0, 366), (52, 53, 3, 0, 0, 0, 0), (53, 56, 27, 9, 1, 0, 361), (56, 57, 3, 0, 0, 0, 0), (57, 60, 27, 9, 8, 0, 368), (60, 63, 37, 20, 2, 0, 638), (63, 66, 23, 72, 0, 0, 0), (66, 67, 2, 1, 0, 0, 0), (67, 68, 0, 0, 0, 1, 0), (68, 69, 2, 2, 0, 0, 0), (69, 70, 9, 0, 6, 0, 0), (70, 71, 9, 0, 4, 0, 0), (71, 72, 5, 1, 0, 0, 0), (72, 75, 8, 2, 0, 1, 0), (75, 78, 22, 26, 0, 0, 0), (78, 79, 2, 1, 0, 0, 0), (79, 80, 43, 0, 0, 0, 0)]
/-- 105: FlagSignals.askedSignal()I -/
def fg_c105 : List fg_I := [(0, 1, 3, 0, 0, 0, 0), (1, 4, 37, 104, 0, 0, 634), (4, 5, 5, 1, 0, 0, 0), (5, 6, 3, 0, 0, 0, 0), (6, 9, 38, 106, 0, 0, 652), (9, 10, 0, 0, 0, (-1), 0), (10, 11, 5, 2, 0, 0, 0), (11, 12, 2, 1, 0, 0, 0), (12, 15, 39, 195, 1, 0, 585), (15, 16, 5, 3, 0, 0, 0), (16, 17, 0, 0, 0, 0, 0), (17, 19, 5, 4, 0, 0, 0), (19, 21, 2, 4, 0, 0, 0), (21, 22, 3, 0, 0, 0, 0), (22, 25, 27, 9, 1, 0, 361), (25, 28, 26, 6, 3, 0, 138), (28, 31, 24, 58, 3, 0, 0), (31, 32, 3, 0, 0, 0, 0), (32, 34, 2, 4, 0, 0, 0), (34, 35, 2, 1, 0, 0, 0), (35, 38, 37, 107, 2, 0, 657), (38, 40, 5, 5, 0, 0, 0), (40, 42, 2, 5, 0, 0, 0), (42, 43, 2, 3, 0, 0, 0), (43, 46, 24, 52, 3, 0, 0), (46, 48, 2, 5, 0, 0, 0), (48, 49, 5, 3, 0, 0, 0), (49, 51, 2, 4, 0, 0, 0), (51, 52, 5, 2, 0, 0, 0), (52, 55, 8, 4, 0, 1, 0), (55, 58, 22, 19, 0, 0, 0), (58, 59, 2, 2, 0, 0, 0), (59, 60, 43, 0, 0, 0, 0)]
/-- 106: FlagSignals.fillLikes()V -/
def fg_c106 : List fg_I := [(0, 1, 3, 0, 0, 0, 0), (1, 4, 27, 9, 8, 0, 368), (4, 5, 3, 0, 0, 0, 0), (5, 8, 27, 9, 1, 0, 361), (8, 9, 3, 0, 0, 0, 0), (9, 12, 27, 9, 7, 0, 367), (12, 13, 3, 0, 0, 0, 0), (13, 16, 27, 9, 3, 0, 363), (16, 19, 26, 0, 7, 0, 191), (19, 22, 38, 54, 3, 0, 546), (22, 23, 0, 0, 0, 0, 0), (23, 24, 5, 1, 0, 0, 0), (24, 25, 2, 1, 0, 0, 0), (25, 27, 0, 0, 0, 6, 0), (27, 30, 24, 94, 3, 0, 0), (30, 31, 3, 0, 0, 0, 0), (31, 34, 27, 9, 8, 0, 368), (34, 35, 3, 0, 0, 0, 0), (35, 38, 27, 9, 1, 0, 361), (38, 39, 3, 0, 0, 0, 0), (39, 42, 27, 9, 3, 0, 363), (42, 43, 2, 1, 0, 0, 0), (43, 46, 38, 55, 3, 0, 554), (46, 47, 0, 0, 0, 0, 0), (47, 48, 5, 2, 0, 0, 0), (48, 49, 2, 2, 0, 0, 0), (49, 50, 3, 0, 0, 0, 0), (50, 53, 27, 9, 1, 0, 361), (53, 56, 26, 6, 3, 0, 138), (56, 59, 24, 88, 3, 0, 0), (59, 60, 3, 0, 0, 0, 0), (60, 63, 27, 9, 10, 0, 370), (63, 64, 2, 1, 0, 0, 0), (64, 66, 0, 0, 0, 10, 0), (66, 67, 9, 0, 2, 0, 0), (67, 68, 2, 2, 0, 0, 0), (68, 69, 9, 0, 0, 0, 0), (69, 70, 3, 0, 0, 0, 0), (70, 73, 27, 9, 8, 0, 368), (73, 74, 3, 0, 0, 0, 0), (74, 77, 27, 9, 1, 0, 361), (77, 78, 2, 2, 0, 0, 0), (78, 81, 37, 58, 2, 0, 656), (81, 82, 32, 0, 0, 0, 0), (82, 85, 8, 2, 0, 1, 0), (85, 88, 22, 48, 0, 0, 0), (88, 91, 8, 1, 0, 1, 0), (91, 94, 22, 24, 0, 0, 0), (94, 95, 45, 0, 0, 0, 0)]
/-- 107: FlagSignals.greatestPart(II)I -/
def fg_c107 : List fg_I := [(0, 1, 0, 0, 0, 0, 0), (1, 2, 5, 3, 0, 0, 0), (2, 3, 0, 0, 0, 0, 0), (3, 5, 5, 4, 0, 0, 0), (5, 7, 2, 4, 0, 0, 0), (7, 9, 0, 0, 0, 6, 0), (9, 12, 24, 92, 3, 0, 0), (12, 13, 0, 0, 0, 0, 0), (13, 15, 5, 5, 0, 0, 0), (15, 16, 0, 0, 0, 0, 0), (16, 18, 5, 6, 0, 0, 0), (18, 20, 2, 6, 0, 0, 0), (20, 22, 0, 0, 0, 6, 0), (22, 25, 24, 79, 3, 0, 0), (25, 26, 2, 2, 0, 0, 0), (26, 28, 2, 4, 0, 0, 0), (28, 31, 39, 87, 2, 0, 609), (31, 34, 23, 73, 0, 0, 0), (34, 35, 2, 2, 0, 0, 0), (35, 37, 2, 6, 0, 0, 0), (37, 40, 39, 87, 2, 0, 609), (40, 43, 23, 73, 0, 0, 0), (43, 44, 3, 0, 0, 0, 0), (44, 47, 27, 9, 10, 0, 370), (47, 49, 2, 4, 0, 0, 0), (49, 51, 0, 0, 0, 10, 0), (51, 52, 9, 0, 2, 0, 0), (52, 53, 2, 1, 0, 0, 0), (53, 54, 9, 0, 0, 0, 0), (54, 55, 31, 0, 0, 0, 0), (55, 56, 3, 0, 0, 0, 0), (56, 59, 27, 9, 10, 0, 370), (59, 61, 2, 6, 0, 0, 0), (61, 63, 0, 0, 0, 10, 0), (63, 64, 9, 0, 2, 0, 0), (64, 65, 2, 1, 0, 0, 0), (65, 66, 9, 0, 0, 0, 0), (66, 67, 31, 0, 0, 0, 0), (67, 70, 24, 73, 1, 0, 0), (70, 73, 8, 5, 0, 1, 0), (73, 76, 8, 6, 0, 1, 0), (76, 79, 22, 18, 0, 0, 0), (79, 80, 2, 3, 0, 0, 0), (80, 82, 2, 5, 0, 0, 0), (82, 85, 47, 0, 0, 0, 661), (85, 86, 5, 3, 0, 0, 0), (86, 89, 8, 4, 0, 1, 0), (89, 92, 22, 5, 0, 0, 0), (92, 93, 2, 3, 0, 0, 0), (93, 94, 43, 0, 0, 0, 0)]
/-- 108: FlagSignals.seenPattern(IIIII)I -/
def fg_c108 : List fg_I := [(0, 1, 2, 0, 0, 0, 0), (1, 4, 23, 22, 0, 0, 0), (4, 5, 2, 0, 0, 0, 0), (5, 6, 0, 0, 0, 1, 0), (6, 9, 24, 17, 1, 0, 0), (9, 11, 2, 4, 0, 0, 0), (11, 14, 23, 26, 1, 0, 0), (14, 17, 22, 22, 0, 0, 0), (17, 18, 2, 3, 0, 0, 0), (18, 19, 0, 0, 0, 2, 0), (19, 22, 24, 26, 1, 0, 0), (22, 23, 0, 0, 0, 1, 0), (23, 26, 22, 27, 0, 0, 0), (26, 27, 0, 0, 0, 0, 0), (27, 29, 5, 5, 0, 0, 0), (29, 30, 2, 1, 0, 0, 0), (30, 31, 2, 3, 0, 0, 0), (31, 34, 39, 109, 2, 0, 565), (34, 36, 5, 6, 0, 0, 0), (36, 38, 2, 5, 0, 0, 0), (38, 41, 23, 45, 0, 0, 0), (41, 42, 2, 1, 0, 0, 0), (42, 45, 22, 46, 0, 0, 0), (45, 46, 2, 2, 0, 0, 0), (46, 47, 2, 3, 0, 0, 0), (47, 50, 39, 109, 2, 0, 565), (50, 52, 5, 7, 0, 0, 0), (52, 54, 0, 0, 0, 25, 0), (54, 56, 2, 5, 0, 0, 0), (56, 59, 23, 63, 0, 0, 0), (59, 60, 0, 0, 0, 0, 0), (60, 63, 22, 64, 0, 0, 0), (63, 64, 2, 0, 0, 0, 0), (64, 65, 9, 0, 2, 0, 0), (65, 66, 0, 0, 0, 5, 0), (66, 68, 2, 6, 0, 0, 0), (68, 69, 9, 0, 2, 0, 0), (69, 70, 9, 0, 0, 0, 0), (70, 72, 2, 7, 0, 0, 0), (72, 73, 9, 0, 0, 0, 0), (73, 74, 43, 0, 0, 0, 0)]
/-- 109: FlagSignals.seenColour(II)I -/
def fg_c109 : List fg_I := [(0, 1, 2, 1, 0, 0, 0), (1, 4, 23, 6, 1, 0, 0), (4, 5, 2, 0, 0, 0, 0), (5, 6, 43, 0, 0, 0, 0), (6, 7, 2, 0, 0, 0, 0), (7, 8, 0, 0, 0, 1, 0), (8, 11, 24, 15, 1, 0, 0), (11, 12, 0, 0, 0, 0, 0), (12, 15, 22, 25, 0, 0, 0), (15, 16, 2, 0, 0, 0, 0), (16, 17, 0, 0, 0, 4, 0), (17, 20, 24, 24, 1, 0, 0), (20, 21, 0, 0, 0, 3, 0), (21, 24, 22, 25, 0, 0, 0), (24, 25, 2, 0, 0, 0, 0), (25, 26, 43, 0, 0, 0, 0)]
/-- 110: FlagSignalsModel.in(JJJ)Z -/
def fg_c110 : List fg_I := [(0, 1, 4, 0, 0, 0, 0), (1, 2, 4, 2, 0, 0, 0), (2, 3, 18, 0, 0, 0, 0), (3, 6, 23, 17, 2, 0, 0), (6, 7, 4, 0, 0, 0, 0), (7, 9, 4, 4, 0, 0, 0), (9, 10, 18, 0, 0, 0, 0), (10, 13, 23, 17, 4, 0, 0), (13, 14, 0, 0, 0, 1, 0), (14, 17, 22, 18, 0, 0, 0), (17, 18, 0, 0, 0, 0, 0), (18, 19, 44, 0, 0, 0, 0)]
/-- 111: FlagSignalsModel.has(II)Z -/
def fg_c111 : List fg_I := [(0, 1, 2, 0, 0, 0, 0), (1, 2, 2, 1, 0, 0, 0), (2, 3, 9, 0, 7, 0, 0), (3, 4, 0, 0, 0, 1, 0), (4, 5, 9, 0, 3, 0, 0), (5, 6, 0, 0, 0, 1, 0), (6, 9, 24, 13, 1, 0, 0), (9, 10, 0, 0, 0, 1, 0), (10, 13, 22, 14, 0, 0, 0), (13, 14, 0, 0, 0, 0, 0), (14, 15, 44, 0, 0, 0, 0)]
/-- 112: FlagSignalsModel.bits(I)I -/
def fg_c112 : List fg_I := [(0, 1, 0, 0, 0, 0, 0), (1, 2, 5, 1, 0, 0, 0), (2, 3, 0, 0, 0, 0, 0), (3, 4, 5, 2, 0, 0, 0), (4, 5, 2, 2, 0, 0, 0), (5, 7, 0, 0, 0, 10, 0), (7, 10, 24, 24, 3, 0, 0), (10, 11, 2, 1, 0, 0, 0), (11, 12, 2, 0, 0, 0, 0), (12, 13, 2, 2, 0, 0, 0), (13, 14, 9, 0, 7, 0, 0), (14, 15, 0, 0, 0, 1, 0), (15, 16, 9, 0, 3, 0, 0), (16, 17, 9, 0, 0, 0, 0), (17, 18, 5, 1, 0, 0, 0), (18, 21, 8, 2, 0, 1, 0), (21, 24, 22, 4, 0, 0, 0), (24, 25, 2, 1, 0, 0, 0), (25, 26, 43, 0, 0, 0, 0)]
/-- 113: FlagSignalsModel.isLine(I)Z -/
def fg_c113 : List fg_I := [(0, 1, 2, 1, 0, 0, 0), (1, 2, 13, 0, 0, 0, 0), (2, 3, 1, 0, 0, 0, 0), (3, 4, 3, 0, 0, 0, 0), (4, 7, 26, 10, 0, 0, 879), (7, 8, 0, 0, 0, 1, 0), (8, 9, 9, 0, 1, 0, 0), (9, 10, 13, 0, 0, 0, 0), (10, 13, 39, 110, 3, 0, 996), (13, 14, 44, 0, 0, 0, 0)]
/-- 114: FlagSignalsModel.isFlag(I)Z -/
def fg_c114 : List fg_I := [(0, 1, 2, 1, 0, 0, 0), (1, 2, 13, 0, 0, 0, 0), (2, 3, 1, 0, 0, 0, 0), (3, 4, 3, 0, 0, 0, 0), (4, 7, 26, 10, 2, 0, 881), (7, 8, 0, 0, 0, 1, 0), (8, 9, 9, 0, 1, 0, 0), (9, 10, 13, 0, 0, 0, 0), (10, 13, 39, 110, 3, 0, 996), (13, 14, 44, 0, 0, 0, 0)]
/-- 115: FlagSignalsModel.isSignal(I)Z -/
def fg_c115 : List fg_I := [(0, 1, 2, 1, 0, 0, 0), (1, 2, 13, 0, 0, 0, 0), (2, 3, 1, 0, 0, 0, 0), (3, 4, 3, 0, 0, 0, 0), (4, 7, 26, 10, 4, 0, 883), (7, 8, 0, 0, 0, 1, 0), (8, 9, 9, 0, 1, 0, 0), (9, 10, 13, 0, 0, 0, 0), (10, 13, 39, 110, 3, 0, 996), (13, 14, 44, 0, 0, 0, 0)]
/-- 116: FlagSignalsModel.feed(I)I -/
def fg_c116 : List fg_I := [(0, 1, 2, 1, 0, 0, 0), (1, 2, 13, 0, 0, 0, 0), (2, 3, 1, 0, 0, 0, 0), (3, 6, 1, 255, 0, 0, 995), (6, 9, 39, 110, 3, 0, 996), (9, 12, 23, 15, 1, 0, 0), (12, 14, 0, 0, 0, (-1000000002), 999), (14, 15, 43, 0, 0, 0, 0), (15, 16, 3, 0, 0, 0, 0), (16, 19, 26, 10, 10, 0, 889), (19, 22, 0, 0, 0, 240, 0), (22, 25, 24, 28, 1, 0, 0), (25, 27, 0, 0, 0, (-1000000004), 1000), (27, 28, 43, 0, 0, 0, 0), (28, 29, 3, 0, 0, 0, 0), (29, 32, 27, 10, 9, 0, 888), (32, 33, 3, 0, 0, 0, 0), (33, 36, 26, 10, 10, 0, 889), (36, 37, 2, 1, 0, 0, 0), (37, 38, 32, 0, 0, 0, 0), (38, 39, 3, 0, 0, 0, 0), (39, 40, 19, 0, 0, 0, 0), (40, 43, 26, 10, 10, 0, 889), (43, 44, 0, 0, 0, 1, 0), (44, 45, 9, 0, 0, 0, 0), (45, 48, 28, 10, 10, 0, 889), (48, 49, 3, 0, 0, 0, 0), (49, 52, 26, 10, 10, 0, 889), (52, 53, 43, 0, 0, 0, 0)]
/-- 117: FlagSignalsModel.here()I -/
def fg_c117 : List fg_I := [(0, 1, 3, 0, 0, 0, 0), (1, 4, 26, 10, 12, 0, 891), (4, 5, 3, 0, 0, 0, 0), (5, 8, 26, 10, 10, 0, 889), (8, 11, 24, 38, 3, 0, 0), (11, 12, 3, 0, 0, 0, 0), (12, 15, 27, 10, 9, 0, 888), (15, 16, 3, 0, 0, 0, 0), (16, 19, 26, 10, 12, 0, 891), (19, 20, 31, 0, 0, 0, 0), (20, 22, 0, 0, 0, 32, 0), (22, 25, 24, 38, 1, 0, 0), (25, 26, 3, 0, 0, 0, 0), (26, 27, 19, 0, 0, 0, 0), (27, 30, 26, 10, 12, 0, 891), (30, 31, 0, 0, 0, 1, 0), (31, 32, 9, 0, 0, 0, 0), (32, 35, 28, 10, 12, 0, 891), (35, 38, 22, 0, 0, 0, 0), (38, 39, 3, 0, 0, 0, 0), (39, 42, 26, 10, 12, 0, 891), (42, 43, 3, 0, 0, 0, 0), (43, 46, 26, 10, 10, 0, 889), (46, 49, 24, 61, 3, 0, 0), (49, 50, 3, 0, 0, 0, 0), (50, 53, 27, 10, 9, 0, 888), (53, 54, 3, 0, 0, 0, 0), (54, 57, 26, 10, 12, 0, 891), (57, 58, 31, 0, 0, 0, 0), (58, 61, 22, 62, 0, 0, 0), (61, 62, 0, 0, 0, (-1), 0), (62, 63, 43, 0, 0, 0, 0)]
/-- 118: FlagSignalsModel.fails(II)I -/
def fg_c118 : List fg_I := [(0, 1, 3, 0, 0, 0, 0), (1, 2, 2, 2, 0, 0, 0), (2, 5, 28, 10, 11, 0, 890), (5, 6, 2, 1, 0, 0, 0), (6, 7, 43, 0, 0, 0, 0)]
/-- 119: FlagSignalsModel.takeNumber(II)I -/
def fg_c119 : List fg_I := [(0, 1, 3, 0, 0, 0, 0), (1, 4, 37, 117, 0, 0, 1005), (4, 5, 5, 3, 0, 0, 0), (5, 6, 2, 3, 0, 0, 0), (6, 7, 13, 0, 0, 0, 0), (7, 10, 1, 48, 0, 0, 1025), (10, 13, 1, 57, 0, 0, 1026), (13, 16, 39, 110, 3, 0, 996), (16, 19, 23, 29, 1, 0, 0), (19, 20, 3, 0, 0, 0, 0), (20, 21, 0, 0, 0, 1, 0), (21, 22, 3, 0, 0, 0, 0), (22, 25, 26, 10, 12, 0, 891), (25, 28, 37, 118, 2, 0, 1013), (28, 29, 43, 0, 0, 0, 0), (29, 30, 3, 0, 0, 0, 0), (30, 33, 26, 10, 12, 0, 891), (33, 35, 5, 4, 0, 0, 0), (35, 36, 3, 0, 0, 0, 0), (36, 37, 0, 0, 0, 0, 0), (37, 40, 28, 10, 13, 0, 892), (40, 41, 3, 0, 0, 0, 0), (41, 44, 26, 10, 12, 0, 891), (44, 45, 3, 0, 0, 0, 0), (45, 48, 26, 10, 10, 0, 889), (48, 51, 24, 127, 3, 0, 0), (51, 52, 3, 0, 0, 0, 0), (52, 55, 27, 10, 9, 0, 888), (55, 56, 3, 0, 0, 0, 0), (56, 59, 26, 10, 12, 0, 891), (59, 60, 31, 0, 0, 0, 0), (60, 61, 13, 0, 0, 0, 0), (61, 64, 1, 48, 0, 0, 1025), (64, 67, 1, 57, 0, 0, 1026), (67, 70, 39, 110, 3, 0, 996), (70, 73, 23, 127, 0, 0, 0), (73, 74, 3, 0, 0, 0, 0), (74, 75, 3, 0, 0, 0, 0), (75, 78, 26, 10, 13, 0, 892), (78, 81, 0, 0, 0, 10000, 0), (81, 84, 24, 91, 5, 0, 0), (84, 85, 3, 0, 0, 0, 0), (85, 88, 26, 10, 13, 0, 892), (88, 91, 22, 111, 0, 0, 0), (91, 93, 0, 0, 0, 10, 0), (93, 94, 3, 0, 0, 0, 0), (94, 97, 26, 10, 13, 0, 892), (97, 98, 9, 0, 2, 0, 0), (98, 99, 3, 0, 0, 0, 0), (99, 102, 27, 10, 9, 0, 888), (102, 103, 3, 0, 0, 0, 0), (103, 106, 26, 10, 12, 0, 891), (106, 107, 31, 0, 0, 0, 0), (107, 108, 9, 0, 0, 0, 0), (108, 110, 0, 0, 0, 48, 0), (110, 111, 9, 0, 1, 0, 0), (111, 114, 28, 10, 13, 0, 892), (114, 115, 3, 0, 0, 0, 0), (115, 116, 19, 0, 0, 0, 0), (116, 119, 26, 10, 12, 0, 891), (119, 120, 0, 0, 0, 1, 0), (120, 121, 9, 0, 0, 0, 0), (121, 124, 28, 10, 12, 0, 891), (124, 127, 22, 40, 0, 0, 0), (127, 128, 3, 0, 0, 0, 0), (128, 131, 26, 10, 12, 0, 891), (131, 133, 2, 4, 0, 0, 0), (133, 134, 9, 0, 1, 0, 0), (134, 135, 0, 0, 0, 3, 0), (135, 138, 24, 153, 4, 0, 0), (138, 139, 3, 0, 0, 0, 0), (139, 142, 26, 10, 13, 0, 892), (142, 143, 13, 0, 0, 0, 0), (143, 144, 2, 1, 0, 0, 0), (144, 145, 13, 0, 0, 0, 0), (145, 146, 2, 2, 0, 0, 0), (146, 147, 13, 0, 0, 0, 0), (147, 150, 39, 110, 3, 0, 996), (150, 153, 23, 163, 1, 0, 0), (153, 154, 3, 0, 0, 0, 0), (154, 155, 0, 0, 0, 2, 0), (155, 157, 2, 4, 0, 0, 0), (157, 160, 37, 118, 2, 0, 1013), (160, 163, 22, 164, 0, 0, 0), (163, 164, 0, 0, 0, 0, 0), (164, 165, 43, 0, 0, 0, 0)]
/-- 120: FlagSignalsModel.takeLines()I -/
def fg_c120 : List fg_I := [(0, 1, 3, 0, 0, 0, 0), (1, 2, 0, 0, 0, 1, 0), (2, 3, 0, 0, 0, 3, 0), (3, 6, 37, 119, 2, 0, 1021), (6, 7, 5, 1, 0, 0, 0), (7, 8, 3, 0, 0, 0, 0), (8, 9, 3, 0, 0, 0, 0), (9, 12, 26, 10, 13, 0, 892), (12, 15, 28, 10, 14, 0, 893), (15, 16, 2, 1, 0, 0, 0), (16, 19, 23, 23, 5, 0, 0), (19, 20, 2, 1, 0, 0, 0), (20, 23, 22, 29, 0, 0, 0), (23, 24, 3, 0, 0, 0, 0), (24, 25, 0, 0, 0, 0, 0), (25, 26, 0, 0, 0, 3, 0), (26, 29, 37, 119, 2, 0, 1021), (29, 30, 5, 1, 0, 0, 0), (30, 31, 3, 0, 0, 0, 0), (31, 32, 3, 0, 0, 0, 0), (32, 35, 26, 10, 13, 0, 892), (35, 38, 28, 10, 15, 0, 894), (38, 39, 2, 1, 0, 0, 0), (39, 40, 43, 0, 0, 0, 0)]
/-- 121: FlagSignalsModel.takeFlag()I -/
def fg_c121 : List fg_I := [(0, 1, 3, 0, 0, 0, 0), (1, 2, 0, 0, 0, 0, 0), (2, 3, 0, 0, 0, 3, 0), (3, 6, 37, 119, 2, 0, 1021), (6, 7, 5, 1, 0, 0, 0), (7, 8, 3, 0, 0, 0, 0), (8, 11, 26, 10, 13, 0, 892), (11, 12, 5, 2, 0, 0, 0), (12, 13, 2, 1, 0, 0, 0), (13, 16, 23, 20, 5, 0, 0), (16, 17, 2, 1, 0, 0, 0), (17, 20, 22, 26, 0, 0, 0), (20, 21, 3, 0, 0, 0, 0), (21, 22, 0, 0, 0, 0, 0), (22, 23, 0, 0, 0, 4, 0), (23, 26, 37, 119, 2, 0, 1021), (26, 27, 5, 1, 0, 0, 0), (27, 28, 3, 0, 0, 0, 0), (28, 31, 26, 10, 13, 0, 892), (31, 32, 5, 3, 0, 0, 0), (32, 33, 2, 1, 0, 0, 0), (33, 36, 23, 40, 5, 0, 0), (36, 37, 2, 1, 0, 0, 0), (37, 40, 22, 46, 0, 0, 0), (40, 41, 3, 0, 0, 0, 0), (41, 42, 0, 0, 0, 0, 0), (42, 43, 0, 0, 0, 4, 0), (43, 46, 37, 119, 2, 0, 1021), (46, 47, 5, 1, 0, 0, 0), (47, 48, 3, 0, 0, 0, 0), (48, 51, 27, 10, 17, 0, 896), (51, 52, 3, 0, 0, 0, 0), (52, 55, 26, 10, 16, 0, 895), (55, 57, 0, 0, 0, 100, 0), (57, 58, 2, 2, 0, 0, 0), (58, 59, 9, 0, 2, 0, 0), (59, 61, 0, 0, 0, 10, 0), (61, 62, 2, 3, 0, 0, 0), (62, 63, 9, 0, 2, 0, 0), (63, 64, 9, 0, 0, 0, 0), (64, 65, 3, 0, 0, 0, 0), (65, 68, 26, 10, 13, 0, 892), (68, 69, 9, 0, 0, 0, 0), (69, 70, 32, 0, 0, 0, 0), (70, 71, 3, 0, 0, 0, 0), (71, 72, 19, 0, 0, 0, 0), (72, 75, 26, 10, 16, 0, 895), (75, 76, 0, 0, 0, 1, 0), (76, 77, 9, 0, 0, 0, 0), (77, 80, 28, 10, 16, 0, 895), (80, 81, 2, 1, 0, 0, 0), (81, 82, 43, 0, 0, 0, 0)]
/-- 122: FlagSignalsModel.takeSignal()I -/
def fg_c122 : List fg_I := [(0, 1, 3, 0, 0, 0, 0), (1, 2, 0, 0, 0, 0, 0), (2, 3, 3, 0, 0, 0, 0), (3, 6, 26, 10, 16, 0, 895), (6, 7, 0, 0, 0, 1, 0), (7, 8, 9, 0, 1, 0, 0), (8, 11, 37, 119, 2, 0, 1021), (11, 12, 5, 1, 0, 0, 0), (12, 13, 3, 0, 0, 0, 0), (13, 16, 27, 10, 20, 0, 899), (16, 17, 0, 0, 0, 4, 0), (17, 18, 3, 0, 0, 0, 0), (18, 21, 26, 10, 18, 0, 897), (21, 22, 9, 0, 2, 0, 0), (22, 23, 3, 0, 0, 0, 0), (23, 26, 26, 10, 13, 0, 892), (26, 27, 32, 0, 0, 0, 0), (27, 28, 0, 0, 0, 1, 0), (28, 29, 5, 2, 0, 0, 0), (29, 30, 2, 1, 0, 0, 0), (30, 33, 23, 102, 1, 0, 0), (33, 34, 3, 0, 0, 0, 0), (34, 37, 37, 117, 0, 0, 1005), (37, 39, 0, 0, 0, 44, 0), (39, 42, 24, 102, 1, 0, 0), (42, 43, 2, 2, 0, 0, 0), (43, 44, 0, 0, 0, 4, 0), (44, 47, 24, 57, 1, 0, 0), (47, 48, 3, 0, 0, 0, 0), (48, 49, 0, 0, 0, 1, 0), (49, 50, 3, 0, 0, 0, 0), (50, 53, 26, 10, 12, 0, 891), (53, 56, 37, 118, 2, 0, 1013), (56, 57, 43, 0, 0, 0, 0), (57, 58, 3, 0, 0, 0, 0), (58, 59, 19, 0, 0, 0, 0), (59, 62, 26, 10, 12, 0, 891), (62, 63, 0, 0, 0, 1, 0), (63, 64, 9, 0, 0, 0, 0), (64, 67, 28, 10, 12, 0, 891), (67, 68, 3, 0, 0, 0, 0), (68, 69, 0, 0, 0, 0, 0), (69, 70, 3, 0, 0, 0, 0), (70, 73, 26, 10, 16, 0, 895), (73, 74, 0, 0, 0, 1, 0), (74, 75, 9, 0, 1, 0, 0), (75, 78, 37, 119, 2, 0, 1021), (78, 79, 5, 1, 0, 0, 0), (79, 80, 3, 0, 0, 0, 0), (80, 83, 27, 10, 20, 0, 899), (83, 84, 0, 0, 0, 4, 0), (84, 85, 3, 0, 0, 0, 0), (85, 88, 26, 10, 18, 0, 897), (88, 89, 9, 0, 2, 0, 0), (89, 90, 2, 2, 0, 0, 0), (90, 91, 9, 0, 0, 0, 0), (91, 92, 3, 0, 0, 0, 0), (92, 95, 26, 10, 13, 0, 892), (95, 96, 32, 0, 0, 0, 0), (96, 99, 8, 2, 0, 1, 0), (99, 102, 22, 29, 0, 0, 0), (102, 103, 3, 0, 0, 0, 0), (103, 106, 27, 10, 19, 0, 898), (106, 107, 3, 0, 0, 0, 0), (107, 110, 26, 10, 18, 0, 897), (110, 111, 2, 2, 0, 0, 0), (111, 112, 32, 0, 0, 0, 0), (112, 113, 3, 0, 0, 0, 0), (113, 114, 19, 0, 0, 0, 0), (114, 117, 26, 10, 18, 0, 897), (117, 118, 0, 0, 0, 1, 0), (118, 119, 9, 0, 0, 0, 0), (119, 122, 28, 10, 18, 0, 897), (122, 123, 2, 1, 0, 0, 0), (123, 124, 43, 0, 0, 0, 0)]
/-- 123: FlagSignalsModel.takeClause()I -/
def fg_c123 : List fg_I := [(0, 1, 3, 0, 0, 0, 0), (1, 4, 37, 117, 0, 0, 1005), (4, 5, 5, 1, 0, 0, 0), (5, 6, 2, 1, 0, 0, 0), (6, 8, 0, 0, 0, 108, 0), (8, 11, 24, 15, 1, 0, 0), (11, 12, 0, 0, 0, 0, 0), (12, 15, 22, 36, 0, 0, 0), (15, 16, 2, 1, 0, 0, 0), (16, 18, 0, 0, 0, 102, 0), (18, 21, 24, 25, 1, 0, 0), (21, 22, 0, 0, 0, 1, 0), (22, 25, 22, 36, 0, 0, 0), (25, 26, 2, 1, 0, 0, 0), (26, 28, 0, 0, 0, 101, 0), (28, 31, 24, 35, 1, 0, 0), (31, 32, 0, 0, 0, 2, 0), (32, 35, 22, 36, 0, 0, 0), (35, 36, 0, 0, 0, (-1), 0), (36, 37, 5, 2, 0, 0, 0), (37, 38, 2, 2, 0, 0, 0), (38, 41, 23, 52, 2, 0, 0), (41, 42, 2, 2, 0, 0, 0), (42, 45, 23, 62, 5, 0, 0), (45, 46, 3, 0, 0, 0, 0), (46, 49, 26, 10, 14, 0, 893), (49, 52, 23, 62, 1, 0, 0), (52, 53, 3, 0, 0, 0, 0), (53, 54, 0, 0, 0, 1, 0), (54, 55, 3, 0, 0, 0, 0), (55, 58, 26, 10, 12, 0, 891), (58, 61, 37, 118, 2, 0, 1013), (61, 62, 43, 0, 0, 0, 0), (62, 63, 2, 2, 0, 0, 0), (63, 66, 23, 81, 1, 0, 0), (66, 67, 3, 0, 0, 0, 0), (67, 70, 26, 10, 14, 0, 893), (70, 73, 23, 77, 5, 0, 0), (73, 74, 0, 0, 0, 1, 0), (74, 77, 22, 117, 0, 0, 0), (77, 78, 0, 0, 0, 0, 0), (78, 81, 22, 117, 0, 0, 0), (81, 82, 2, 2, 0, 0, 0), (82, 83, 0, 0, 0, 1, 0), (83, 86, 24, 103, 1, 0, 0), (86, 87, 3, 0, 0, 0, 0), (87, 90, 26, 10, 16, 0, 895), (90, 92, 0, 0, 0, 10, 0), (92, 95, 24, 99, 1, 0, 0), (95, 96, 0, 0, 0, 1, 0), (96, 99, 22, 117, 0, 0, 0), (99, 100, 0, 0, 0, 0, 0), (100, 103, 22, 117, 0, 0, 0), (103, 104, 3, 0, 0, 0, 0), (104, 107, 26, 10, 18, 0, 897), (107, 109, 0, 0, 0, 10, 0), (109, 112, 24, 116, 1, 0, 0), (112, 113, 0, 0, 0, 1, 0), (113, 116, 22, 117, 0, 0, 0), (116, 117, 0, 0, 0, 0, 0), (117, 118, 5, 3, 0, 0, 0), (118, 119, 2, 3, 0, 0, 0), (119, 122, 23, 132, 0, 0, 0), (122, 123, 3, 0, 0, 0, 0), (123, 124, 0, 0, 0, 3, 0), (124, 125, 3, 0, 0, 0, 0), (125, 128, 26, 10, 12, 0, 891), (128, 131, 37, 118, 2, 0, 1013), (131, 132, 43, 0, 0, 0, 0), (132, 133, 3, 0, 0, 0, 0), (133, 134, 19, 0, 0, 0, 0), (134, 137, 26, 10, 12, 0, 891), (137, 138, 0, 0, 0, 1, 0), (138, 139, 9, 0, 0, 0, 0), (139, 142, 28, 10, 12, 0, 891), (142, 143, 2, 2, 0, 0, 0), (143, 146, 23, 153, 1, 0, 0), (146, 147, 3, 0, 0, 0, 0), (147, 150, 37, 120, 0, 0, 1017), (150, 153, 22, 169, 0, 0, 0), (153, 154, 2, 2, 0, 0, 0), (154, 155, 0, 0, 0, 1, 0), (155, 158, 24, 165, 1, 0, 0), (158, 159, 3, 0, 0, 0, 0), (159, 162, 37, 121, 0, 0, 1027), (162, 165, 22, 169, 0, 0, 0), (165, 166, 3, 0, 0, 0, 0), (166, 169, 37, 122, 0, 0, 1031), (169, 171, 5, 4, 0, 0, 0), (171, 173, 2, 4, 0, 0, 0), (173, 176, 23, 195, 1, 0, 0), (176, 177, 3, 0, 0, 0, 0), (177, 180, 37, 117, 0, 0, 1005), (180, 182, 0, 0, 0, 59, 0), (182, 185, 24, 195, 0, 0, 0), (185, 186, 3, 0, 0, 0, 0), (186, 187, 0, 0, 0, 1, 0), (187, 188, 3, 0, 0, 0, 0), (188, 191, 26, 10, 12, 0, 891), (191, 194, 37, 118, 2, 0, 1013), (194, 195, 43, 0, 0, 0, 0), (195, 196, 3, 0, 0, 0, 0), (196, 197, 19, 0, 0, 0, 0), (197, 200, 26, 10, 12, 0, 891), (200, 201, 0, 0, 0, 1, 0), (201, 202, 9, 0, 0, 0, 0), (202, 205, 28, 10, 12, 0, 891), (205, 207, 2, 4, 0, 0, 0), (207, 208, 43, 0, 0, 0, 0)]
/-- 124: FlagSignalsModel.copyRow([I[II)V -/
def fg_c124 : List fg_I := [(0, 1, 0, 0, 0, 0, 0), (1, 2, 5, 3, 0, 0, 0), (2, 3, 2, 3, 0, 0, 0), (3, 4, 2, 2, 0, 0, 0), (4, 7, 24, 19, 3, 0, 0), (7, 8, 3, 1, 0, 0, 0), (8, 9, 2, 3, 0, 0, 0), (9, 10, 3, 0, 0, 0, 0), (10, 11, 2, 3, 0, 0, 0), (11, 12, 31, 0, 0, 0, 0), (12, 13, 32, 0, 0, 0, 0), (13, 16, 8, 3, 0, 1, 0), (16, 19, 22, 2, 0, 0, 0), (19, 20, 45, 0, 0, 0, 0)]
/-- 125: FlagSignalsModel.beginAll()V -/
def fg_c125 : List fg_I := [(0, 1, 0, 0, 0, 0, 0), (1, 2, 5, 1, 0, 0, 0), (2, 3, 2, 1, 0, 0, 0), (3, 5, 0, 0, 0, 61, 0), (5, 8, 24, 53, 3, 0, 0), (8, 9, 3, 0, 0, 0, 0), (9, 12, 27, 10, 7, 0, 886), (12, 13, 2, 1, 0, 0, 0), (13, 14, 2, 1, 0, 0, 0), (14, 15, 13, 0, 0, 0, 0), (15, 18, 1, 20, 0, 0, 1042), (18, 21, 1, 29, 0, 0, 1043), (21, 24, 39, 110, 3, 0, 996), (24, 27, 23, 41, 1, 0, 0), (27, 28, 2, 1, 0, 0, 0), (28, 29, 13, 0, 0, 0, 0), (29, 32, 1, 40, 0, 0, 1044), (32, 35, 1, 57, 0, 0, 1026), (35, 38, 39, 110, 3, 0, 996), (38, 41, 23, 45, 0, 0, 0), (41, 42, 0, 0, 0, (-1), 0), (42, 45, 22, 46, 0, 0, 0), (45, 46, 0, 0, 0, 0, 0), (46, 47, 32, 0, 0, 0, 0), (47, 50, 8, 1, 0, 1, 0), (50, 53, 22, 2, 0, 0, 0), (53, 54, 3, 0, 0, 0, 0), (54, 57, 27, 10, 3, 0, 882), (57, 58, 3, 0, 0, 0, 0), (58, 61, 27, 10, 7, 0, 886), (61, 62, 3, 0, 0, 0, 0), (62, 65, 26, 10, 2, 0, 881), (65, 68, 40, 124, 3, 0, 1035), (68, 69, 3, 0, 0, 0, 0), (69, 72, 27, 10, 7, 0, 886), (72, 74, 0, 0, 0, 59, 0), (74, 75, 3, 0, 0, 0, 0), (75, 78, 26, 10, 0, 0, 879), (78, 81, 23, 85, 5, 0, 0), (81, 82, 0, 0, 0, 1, 0), (82, 85, 22, 86, 0, 0, 0), (85, 86, 0, 0, 0, 0, 0), (86, 87, 32, 0, 0, 0, 0), (87, 88, 45, 0, 0, 0, 0)]
/-- 126: FlagSignalsModel.ship()I -/
def fg_c126 : List fg_I := [(0, 1, 3, 0, 0, 0, 0), (1, 2, 0, 0, 0, (-1), 0), (2, 5, 28, 10, 11, 0, 890), (5, 6, 3, 0, 0, 0, 0), (6, 7, 0, 0, 0, 0, 0), (7, 10, 28, 10, 12, 0, 891), (10, 11, 3, 0, 0, 0, 0), (11, 12, 0, 0, 0, 0, 0), (12, 15, 28, 10, 14, 0, 893), (15, 16, 3, 0, 0, 0, 0), (16, 17, 0, 0, 0, 0, 0), (17, 20, 28, 10, 15, 0, 894), (20, 21, 3, 0, 0, 0, 0), (21, 22, 0, 0, 0, 0, 0), (22, 25, 28, 10, 16, 0, 895), (25, 26, 3, 0, 0, 0, 0), (26, 27, 0, 0, 0, 0, 0), (27, 30, 28, 10, 18, 0, 897), (30, 31, 0, 0, 0, 0, 0), (31, 32, 5, 1, 0, 0, 0), (32, 33, 2, 1, 0, 0, 0), (33, 36, 23, 51, 1, 0, 0), (36, 37, 3, 0, 0, 0, 0), (37, 40, 37, 117, 0, 0, 1005), (40, 43, 23, 51, 2, 0, 0), (43, 44, 3, 0, 0, 0, 0), (44, 47, 37, 123, 0, 0, 1009), (47, 48, 5, 1, 0, 0, 0), (48, 51, 22, 32, 0, 0, 0), (51, 52, 3, 0, 0, 0, 0), (52, 53, 0, 0, 0, 0, 0), (53, 56, 28, 10, 10, 0, 889), (56, 57, 2, 1, 0, 0, 0), (57, 60, 23, 65, 5, 0, 0), (60, 62, 0, 0, 0, (-10), 0), (62, 63, 2, 1, 0, 0, 0), (63, 64, 9, 0, 1, 0, 0), (64, 65, 43, 0, 0, 0, 0), (65, 66, 3, 0, 0, 0, 0), (66, 67, 3, 0, 0, 0, 0), (67, 70, 26, 10, 14, 0, 893), (70, 73, 28, 10, 0, 0, 879), (73, 74, 3, 0, 0, 0, 0), (74, 75, 3, 0, 0, 0, 0), (75, 78, 26, 10, 15, 0, 894), (78, 81, 28, 10, 1, 0, 880), (81, 82, 3, 0, 0, 0, 0), (82, 83, 3, 0, 0, 0, 0), (83, 86, 26, 10, 16, 0, 895), (86, 89, 28, 10, 2, 0, 881), (89, 90, 3, 0, 0, 0, 0), (90, 91, 3, 0, 0, 0, 0), (91, 94, 26, 10, 18, 0, 897), (94, 97, 28, 10, 4, 0, 883), (97, 98, 3, 0, 0, 0, 0), (98, 101, 27, 10, 17, 0, 896), (101, 102, 3, 0, 0, 0, 0), (102, 105, 27, 10, 3, 0, 882), (105, 106, 3, 0, 0, 0, 0), (106, 109, 26, 10, 2, 0, 881), (109, 112, 40, 124, 3, 0, 1035), (112, 113, 3, 0, 0, 0, 0), (113, 116, 27, 10, 19, 0, 898), (116, 117, 3, 0, 0, 0, 0), (117, 120, 27, 10, 5, 0, 884), (120, 121, 3, 0, 0, 0, 0), (121, 124, 26, 10, 4, 0, 883), (124, 127, 40, 124, 3, 0, 1035), (127, 128, 3, 0, 0, 0, 0), (128, 131, 27, 10, 20, 0, 899), (131, 132, 3, 0, 0, 0, 0), (132, 135, 27, 10, 6, 0, 885), (135, 136, 0, 0, 0, 4, 0), (136, 137, 3, 0, 0, 0, 0), (137, 140, 26, 10, 4, 0, 883), (140, 141, 9, 0, 2, 0, 0), (141, 144, 40, 124, 3, 0, 1035), (144, 145, 3, 0, 0, 0, 0), (145, 148, 38, 125, 0, 0, 1038), (148, 149, 3, 0, 0, 0, 0), (149, 150, 0, 0, 0, 0, 0), (150, 153, 28, 10, 26, 0, 905), (153, 154, 3, 0, 0, 0, 0), (154, 155, 0, 0, 0, 0, 0), (155, 158, 28, 10, 32, 0, 911), (158, 159, 3, 0, 0, 0, 0), (159, 160, 0, 0, 0, 0, 0), (160, 163, 28, 10, 30, 0, 909), (163, 164, 3, 0, 0, 0, 0), (164, 167, 27, 10, 36, 0, 915), (167, 168, 0, 0, 0, 0, 0), (168, 169, 0, 0, 0, 0, 0), (169, 170, 34, 0, 0, 0, 0), (170, 171, 3, 0, 0, 0, 0), (171, 174, 27, 10, 36, 0, 915), (174, 175, 0, 0, 0, 1, 0), (175, 176, 0, 0, 0, 0, 0), (176, 177, 34, 0, 0, 0, 0), (177, 178, 3, 0, 0, 0, 0), (178, 181, 26, 10, 4, 0, 883), (181, 182, 43, 0, 0, 0, 0)]
/-- 127: FlagSignalsModel.fault()I -/
def fg_c127 : List fg_I := [(0, 1, 3, 0, 0, 0, 0), (1, 4, 26, 10, 11, 0, 890), (4, 5, 43, 0, 0, 0, 0)]
/-- 128: FlagSignalsModel.freeFlags()I -/
def fg_c128 : List fg_I := [(0, 1, 0, 0, 0, 0, 0), (1, 2, 5, 1, 0, 0, 0), (2, 3, 0, 0, 0, 0, 0), (3, 4, 5, 2, 0, 0, 0), (4, 5, 2, 2, 0, 0, 0), (5, 6, 3, 0, 0, 0, 0), (6, 9, 26, 10, 2, 0, 881), (9, 12, 24, 53, 3, 0, 0), (12, 13, 2, 1, 0, 0, 0), (13, 14, 3, 0, 0, 0, 0), (14, 17, 27, 10, 7, 0, 886), (17, 19, 0, 0, 0, 20, 0), (19, 20, 2, 2, 0, 0, 0), (20, 21, 9, 0, 0, 0, 0), (21, 22, 31, 0, 0, 0, 0), (22, 23, 0, 0, 0, (-1), 0), (23, 26, 24, 44, 1, 0, 0), (26, 27, 3, 0, 0, 0, 0), (27, 30, 27, 10, 7, 0, 886), (30, 32, 0, 0, 0, 30, 0), (32, 33, 2, 2, 0, 0, 0), (33, 34, 9, 0, 0, 0, 0), (34, 35, 31, 0, 0, 0, 0), (35, 38, 23, 44, 1, 0, 0), (38, 39, 0, 0, 0, 1, 0), (39, 40, 2, 2, 0, 0, 0), (40, 41, 9, 0, 6, 0, 0), (41, 44, 22, 45, 0, 0, 0), (44, 45, 0, 0, 0, 0, 0), (45, 46, 9, 0, 4, 0, 0), (46, 47, 5, 1, 0, 0, 0), (47, 50, 8, 2, 0, 1, 0), (50, 53, 22, 4, 0, 0, 0), (53, 54, 2, 1, 0, 0, 0), (54, 55, 43, 0, 0, 0, 0)]
/-- 129: FlagSignalsModel.tornFlags()I -/
def fg_c129 : List fg_I := [(0, 1, 0, 0, 0, 0, 0), (1, 2, 5, 1, 0, 0, 0), (2, 3, 0, 0, 0, 0, 0), (3, 4, 5, 2, 0, 0, 0), (4, 5, 2, 2, 0, 0, 0), (5, 6, 3, 0, 0, 0, 0), (6, 9, 26, 10, 2, 0, 881), (9, 12, 24, 41, 3, 0, 0), (12, 13, 2, 1, 0, 0, 0), (13, 14, 3, 0, 0, 0, 0), (14, 17, 27, 10, 7, 0, 886), (17, 19, 0, 0, 0, 30, 0), (19, 20, 2, 2, 0, 0, 0), (20, 21, 9, 0, 0, 0, 0), (21, 22, 31, 0, 0, 0, 0), (22, 23, 0, 0, 0, 1, 0), (23, 26, 24, 32, 1, 0, 0), (26, 27, 0, 0, 0, 1, 0), (27, 28, 2, 2, 0, 0, 0), (28, 29, 9, 0, 6, 0, 0), (29, 32, 22, 33, 0, 0, 0), (32, 33, 0, 0, 0, 0, 0), (33, 34, 9, 0, 4, 0, 0), (34, 35, 5, 1, 0, 0, 0), (35, 38, 8, 2, 0, 1, 0), (38, 41, 22, 4, 0, 0, 0), (41, 42, 2, 1, 0, 0, 0), (42, 43, 43, 0, 0, 0, 0)]
/-- 130: FlagSignalsModel.freeSubs()I -/
def fg_c130 : List fg_I := [(0, 1, 0, 0, 0, 0, 0), (1, 2, 5, 1, 0, 0, 0), (2, 3, 0, 0, 0, 1, 0), (3, 4, 5, 2, 0, 0, 0), (4, 5, 2, 2, 0, 0, 0), (5, 6, 3, 0, 0, 0, 0), (6, 9, 26, 10, 1, 0, 880), (9, 12, 24, 43, 4, 0, 0), (12, 13, 2, 1, 0, 0, 0), (13, 14, 3, 0, 0, 0, 0), (14, 17, 27, 10, 7, 0, 886), (17, 19, 0, 0, 0, 40, 0), (19, 20, 2, 2, 0, 0, 0), (20, 21, 9, 0, 0, 0, 0), (21, 22, 0, 0, 0, 1, 0), (22, 23, 9, 0, 1, 0, 0), (23, 24, 31, 0, 0, 0, 0), (24, 25, 0, 0, 0, (-1), 0), (25, 28, 24, 34, 1, 0, 0), (28, 29, 0, 0, 0, 1, 0), (29, 30, 2, 2, 0, 0, 0), (30, 31, 9, 0, 6, 0, 0), (31, 34, 22, 35, 0, 0, 0), (34, 35, 0, 0, 0, 0, 0), (35, 36, 9, 0, 4, 0, 0), (36, 37, 5, 1, 0, 0, 0), (37, 40, 8, 2, 0, 1, 0), (40, 43, 22, 4, 0, 0, 0), (43, 44, 2, 1, 0, 0, 0), (44, 45, 43, 0, 0, 0, 0)]
/-- 131: FlagSignalsModel.allSubs()I -/
def fg_c131 : List fg_I := [(0, 1, 0, 0, 0, 0, 0), (1, 2, 5, 1, 0, 0, 0), (2, 3, 0, 0, 0, 1, 0), (3, 4, 5, 2, 0, 0, 0), (4, 5, 2, 2, 0, 0, 0), (5, 6, 3, 0, 0, 0, 0), (6, 9, 26, 10, 1, 0, 880), (9, 12, 24, 24, 4, 0, 0), (12, 13, 2, 1, 0, 0, 0), (13, 14, 0, 0, 0, 1, 0), (14, 15, 2, 2, 0, 0, 0), (15, 16, 9, 0, 6, 0, 0), (16, 17, 9, 0, 4, 0, 0), (17, 18, 5, 1, 0, 0, 0), (18, 21, 8, 2, 0, 1, 0), (21, 24, 22, 4, 0, 0, 0), (24, 25, 2, 1, 0, 0, 0), (25, 26, 43, 0, 0, 0, 0)]
/-- 132: FlagSignalsModel.isUsed(II)Z -/
def fg_c132 : List fg_I := [(0, 1, 0, 0, 0, 0, 0), (1, 2, 5, 3, 0, 0, 0), (2, 3, 0, 0, 0, 0, 0), (3, 5, 5, 4, 0, 0, 0), (5, 7, 2, 4, 0, 0, 0), (7, 8, 2, 2, 0, 0, 0), (8, 11, 24, 38, 3, 0, 0), (11, 12, 2, 3, 0, 0, 0), (12, 15, 23, 26, 1, 0, 0), (15, 16, 3, 0, 0, 0, 0), (16, 19, 27, 10, 21, 0, 900), (19, 21, 2, 4, 0, 0, 0), (21, 22, 31, 0, 0, 0, 0), (22, 23, 2, 1, 0, 0, 0), (23, 26, 24, 30, 1, 0, 0), (26, 27, 0, 0, 0, 1, 0), (27, 30, 22, 31, 0, 0, 0), (30, 31, 0, 0, 0, 0, 0), (31, 32, 5, 3, 0, 0, 0), (32, 35, 8, 4, 0, 1, 0), (35, 38, 22, 5, 0, 0, 0), (38, 39, 2, 3, 0, 0, 0), (39, 40, 44, 0, 0, 0, 0)]
/-- 133: FlagSignalsModel.itemFor(IIII)I -/
def fg_c133 : List fg_I := [(0, 1, 3, 0, 0, 0, 0), (1, 4, 27, 10, 6, 0, 885), (4, 5, 0, 0, 0, 4, 0), (5, 6, 2, 1, 0, 0, 0), (6, 7, 9, 0, 2, 0, 0), (7, 8, 2, 2, 0, 0, 0), (8, 9, 9, 0, 0, 0, 0), (9, 10, 31, 0, 0, 0, 0), (10, 12, 5, 5, 0, 0, 0), (12, 13, 2, 3, 0, 0, 0), (13, 15, 2, 5, 0, 0, 0), (15, 18, 39, 111, 2, 0, 1073), (18, 21, 23, 34, 0, 0, 0), (21, 22, 3, 0, 0, 0, 0), (22, 24, 2, 5, 0, 0, 0), (24, 25, 2, 2, 0, 0, 0), (25, 28, 37, 132, 2, 0, 1084), (28, 31, 23, 34, 1, 0, 0), (31, 33, 2, 5, 0, 0, 0), (33, 34, 43, 0, 0, 0, 0), (34, 35, 0, 0, 0, 1, 0), (35, 37, 5, 6, 0, 0, 0), (37, 39, 2, 6, 0, 0, 0), (39, 40, 2, 2, 0, 0, 0), (40, 43, 24, 96, 4, 0, 0), (43, 45, 2, 4, 0, 0, 0), (45, 47, 2, 6, 0, 0, 0), (47, 50, 39, 111, 2, 0, 1073), (50, 53, 23, 90, 0, 0, 0), (53, 54, 3, 0, 0, 0, 0), (54, 56, 0, 0, 0, 20, 0), (56, 58, 2, 6, 0, 0, 0), (58, 59, 9, 0, 0, 0, 0), (59, 60, 2, 2, 0, 0, 0), (60, 63, 37, 132, 2, 0, 1084), (63, 66, 23, 90, 1, 0, 0), (66, 67, 3, 0, 0, 0, 0), (67, 70, 27, 10, 6, 0, 885), (70, 71, 0, 0, 0, 4, 0), (71, 72, 2, 1, 0, 0, 0), (72, 73, 9, 0, 2, 0, 0), (73, 75, 2, 6, 0, 0, 0), (75, 76, 9, 0, 0, 0, 0), (76, 77, 0, 0, 0, 1, 0), (77, 78, 9, 0, 1, 0, 0), (78, 79, 31, 0, 0, 0, 0), (79, 81, 2, 5, 0, 0, 0), (81, 84, 24, 90, 1, 0, 0), (84, 86, 0, 0, 0, 20, 0), (86, 88, 2, 6, 0, 0, 0), (88, 89, 9, 0, 0, 0, 0), (89, 90, 43, 0, 0, 0, 0), (90, 93, 8, 6, 0, 1, 0), (93, 96, 22, 37, 0, 0, 0), (96, 97, 0, 0, 0, (-1), 0), (97, 98, 43, 0, 0, 0, 0)]
/-- 134: FlagSignalsModel.goesUp(III)Z -/
def fg_c134 : List fg_I := [(0, 1, 0, 0, 0, 0, 0), (1, 3, 5, 4, 0, 0, 0), (3, 5, 2, 4, 0, 0, 0), (5, 6, 0, 0, 0, 4, 0), (6, 9, 24, 23, 3, 0, 0), (9, 10, 3, 0, 0, 0, 0), (10, 13, 27, 10, 21, 0, 900), (13, 15, 2, 4, 0, 0, 0), (15, 16, 0, 0, 0, (-1), 0), (16, 17, 32, 0, 0, 0, 0), (17, 20, 8, 4, 0, 1, 0), (20, 23, 22, 3, 0, 0, 0), (23, 24, 0, 0, 0, 0, 0), (24, 26, 5, 4, 0, 0, 0), (26, 28, 2, 4, 0, 0, 0), (28, 29, 3, 0, 0, 0, 0), (29, 32, 27, 10, 5, 0, 884), (32, 33, 2, 1, 0, 0, 0), (33, 34, 31, 0, 0, 0, 0), (34, 37, 24, 72, 3, 0, 0), (37, 38, 3, 0, 0, 0, 0), (38, 41, 27, 10, 21, 0, 900), (41, 43, 2, 4, 0, 0, 0), (43, 44, 3, 0, 0, 0, 0), (44, 45, 2, 1, 0, 0, 0), (45, 47, 2, 4, 0, 0, 0), (47, 48, 2, 2, 0, 0, 0), (48, 49, 2, 3, 0, 0, 0), (49, 52, 37, 133, 4, 0, 1080), (52, 53, 32, 0, 0, 0, 0), (53, 54, 3, 0, 0, 0, 0), (54, 57, 27, 10, 21, 0, 900), (57, 59, 2, 4, 0, 0, 0), (59, 60, 31, 0, 0, 0, 0), (60, 61, 0, 0, 0, (-1), 0), (61, 64, 24, 66, 1, 0, 0), (64, 65, 0, 0, 0, 0, 0), (65, 66, 44, 0, 0, 0, 0), (66, 69, 8, 4, 0, 1, 0), (69, 72, 22, 26, 0, 0, 0), (72, 73, 0, 0, 0, 1, 0), (73, 74, 44, 0, 0, 0, 0)]
/-- 135: FlagSignalsModel.canGoUp()I -/
def fg_c135 : List fg_I := [(0, 1, 0, 0, 0, 0, 0), (1, 2, 5, 1, 0, 0, 0), (2, 3, 0, 0, 0, 0, 0), (3, 4, 5, 2, 0, 0, 0), (4, 5, 2, 2, 0, 0, 0), (5, 6, 3, 0, 0, 0, 0), (6, 9, 26, 10, 4, 0, 883), (9, 12, 24, 44, 3, 0, 0), (12, 13, 2, 1, 0, 0, 0), (13, 14, 3, 0, 0, 0, 0), (14, 15, 2, 2, 0, 0, 0), (15, 16, 3, 0, 0, 0, 0), (16, 19, 37, 128, 0, 0, 1109), (19, 20, 3, 0, 0, 0, 0), (20, 23, 37, 130, 0, 0, 1117), (23, 26, 37, 134, 3, 0, 1076), (26, 29, 23, 35, 0, 0, 0), (29, 30, 0, 0, 0, 1, 0), (30, 31, 2, 2, 0, 0, 0), (31, 32, 9, 0, 6, 0, 0), (32, 35, 22, 36, 0, 0, 0), (35, 36, 0, 0, 0, 0, 0), (36, 37, 9, 0, 4, 0, 0), (37, 38, 5, 1, 0, 0, 0), (38, 41, 8, 2, 0, 1, 0), (41, 44, 22, 4, 0, 0, 0), (44, 45, 2, 1, 0, 0, 0), (45, 46, 43, 0, 0, 0, 0)]
/-- 136: FlagSignalsModel.seenColour(II)I -/
def fg_c136 : List fg_I := [(0, 1, 2, 1, 0, 0, 0), (1, 4, 23, 8, 1, 0, 0), (4, 5, 2, 0, 0, 0, 0), (5, 8, 22, 27, 0, 0, 0), (8, 9, 2, 0, 0, 0, 0), (9, 10, 0, 0, 0, 1, 0), (10, 13, 24, 17, 1, 0, 0), (13, 14, 0, 0, 0, 0, 0), (14, 17, 22, 27, 0, 0, 0), (17, 18, 2, 0, 0, 0, 0), (18, 19, 0, 0, 0, 4, 0), (19, 22, 24, 26, 1, 0, 0), (22, 23, 0, 0, 0, 3, 0), (23, 26, 22, 27, 0, 0, 0), (26, 27, 2, 0, 0, 0, 0), (27, 28, 43, 0, 0, 0, 0)]
/-- 137: FlagSignalsModel.lookOf(III)I -/
def fg_c137 : List fg_I := [(0, 1, 2, 0, 0, 0, 0), (1, 3, 0, 0, 0, 100, 0), (3, 4, 10, 0, 0, 0, 0), (4, 5, 5, 3, 0, 0, 0), (5, 6, 2, 0, 0, 0, 0), (6, 8, 0, 0, 0, 10, 0), (8, 9, 10, 0, 0, 0, 0), (9, 11, 0, 0, 0, 10, 0), (11, 12, 11, 0, 0, 0, 0), (12, 14, 5, 4, 0, 0, 0), (14, 15, 2, 3, 0, 0, 0), (15, 18, 23, 37, 0, 0, 0), (18, 19, 2, 3, 0, 0, 0), (19, 20, 0, 0, 0, 1, 0), (20, 23, 24, 27, 1, 0, 0), (23, 24, 2, 2, 0, 0, 0), (24, 27, 23, 37, 0, 0, 0), (27, 28, 2, 3, 0, 0, 0), (28, 29, 0, 0, 0, 1, 0), (29, 32, 24, 41, 5, 0, 0), (32, 33, 2, 1, 0, 0, 0), (33, 34, 0, 0, 0, 2, 0), (34, 37, 24, 41, 1, 0, 0), (37, 38, 0, 0, 0, 1, 0), (38, 41, 22, 42, 0, 0, 0), (41, 42, 0, 0, 0, 0, 0), (42, 44, 5, 5, 0, 0, 0), (44, 46, 2, 5, 0, 0, 0), (46, 49, 23, 54, 0, 0, 0), (49, 51, 2, 4, 0, 0, 0), (51, 54, 22, 58, 0, 0, 0), (54, 55, 2, 0, 0, 0, 0), (55, 57, 0, 0, 0, 10, 0), (57, 58, 11, 0, 0, 0, 0), (58, 60, 5, 6, 0, 0, 0), (60, 62, 2, 5, 0, 0, 0), (62, 65, 23, 69, 0, 0, 0), (65, 66, 0, 0, 0, 0, 0), (66, 69, 22, 70, 0, 0, 0), (69, 70, 2, 3, 0, 0, 0), (70, 71, 5, 3, 0, 0, 0), (71, 73, 0, 0, 0, 25, 0), (73, 74, 2, 3, 0, 0, 0), (74, 75, 9, 0, 2, 0, 0), (75, 76, 0, 0, 0, 5, 0), (76, 78, 2, 4, 0, 0, 0), (78, 79, 2, 1, 0, 0, 0), (79, 82, 39, 136, 2, 0, 1136), (82, 83, 9, 0, 2, 0, 0), (83, 84, 9, 0, 0, 0, 0), (84, 86, 2, 6, 0, 0, 0), (86, 87, 2, 1, 0, 0, 0), (87, 90, 39, 136, 2, 0, 1136), (90, 91, 9, 0, 0, 0, 0), (91, 92, 43, 0, 0, 0, 0)]
/-- 138: FlagSignalsModel.layLooks(II)V -/
def fg_c138 : List fg_I := [(0, 1, 0, 0, 0, 1, 0), (1, 2, 3, 0, 0, 0, 0), (2, 5, 26, 10, 2, 0, 881), (5, 6, 9, 0, 6, 0, 0), (6, 7, 0, 0, 0, 1, 0), (7, 8, 9, 0, 1, 0, 0), (8, 9, 3, 0, 0, 0, 0), (9, 12, 37, 129, 0, 0, 1062), (12, 13, 0, 0, 0, (-1), 0), (13, 14, 9, 0, 5, 0, 0), (14, 15, 9, 0, 3, 0, 0), (15, 16, 5, 3, 0, 0, 0), (16, 17, 0, 0, 0, 0, 0), (17, 19, 5, 4, 0, 0, 0), (19, 21, 2, 4, 0, 0, 0), (21, 22, 3, 0, 0, 0, 0), (22, 25, 26, 10, 4, 0, 883), (25, 28, 24, 137, 3, 0, 0), (28, 29, 3, 0, 0, 0, 0), (29, 32, 27, 10, 22, 0, 901), (32, 34, 2, 4, 0, 0, 0), (34, 35, 3, 0, 0, 0, 0), (35, 37, 2, 4, 0, 0, 0), (37, 38, 2, 3, 0, 0, 0), (38, 39, 3, 0, 0, 0, 0), (39, 42, 37, 131, 0, 0, 1066), (42, 45, 37, 134, 3, 0, 1076), (45, 46, 34, 0, 0, 0, 0), (46, 47, 0, 0, 0, 0, 0), (47, 49, 5, 5, 0, 0, 0), (49, 51, 2, 5, 0, 0, 0), (51, 52, 0, 0, 0, 4, 0), (52, 55, 24, 131, 3, 0, 0), (55, 56, 3, 0, 0, 0, 0), (56, 59, 27, 10, 23, 0, 902), (59, 60, 0, 0, 0, 4, 0), (60, 62, 2, 4, 0, 0, 0), (62, 63, 9, 0, 2, 0, 0), (63, 65, 2, 5, 0, 0, 0), (65, 66, 9, 0, 0, 0, 0), (66, 67, 3, 0, 0, 0, 0), (67, 70, 27, 10, 21, 0, 900), (70, 72, 2, 5, 0, 0, 0), (72, 73, 31, 0, 0, 0, 0), (73, 74, 0, 0, 0, (-1), 0), (74, 77, 24, 81, 1, 0, 0), (77, 78, 0, 0, 0, (-1), 0), (78, 81, 22, 124, 0, 0, 0), (81, 82, 3, 0, 0, 0, 0), (82, 85, 27, 10, 21, 0, 900), (85, 87, 2, 5, 0, 0, 0), (87, 88, 31, 0, 0, 0, 0), (88, 90, 0, 0, 0, 20, 0), (90, 93, 24, 107, 5, 0, 0), (93, 96, 0, 0, 0, 180, 0), (96, 97, 3, 0, 0, 0, 0), (97, 100, 27, 10, 21, 0, 900), (100, 102, 2, 5, 0, 0, 0), (102, 103, 31, 0, 0, 0, 0), (103, 104, 9, 0, 0, 0, 0), (104, 107, 22, 124, 0, 0, 0), (107, 108, 3, 0, 0, 0, 0), (108, 111, 27, 10, 7, 0, 886), (111, 112, 3, 0, 0, 0, 0), (112, 115, 27, 10, 21, 0, 900), (115, 117, 2, 5, 0, 0, 0), (117, 118, 31, 0, 0, 0, 0), (118, 119, 31, 0, 0, 0, 0), (119, 120, 2, 1, 0, 0, 0), (120, 121, 2, 2, 0, 0, 0), (121, 124, 39, 137, 3, 0, 1133), (124, 125, 32, 0, 0, 0, 0), (125, 128, 8, 5, 0, 1, 0), (128, 131, 22, 49, 0, 0, 0), (131, 134, 8, 4, 0, 1, 0), (134, 137, 22, 19, 0, 0, 0), (137, 138, 45, 0, 0, 0, 0)]
/-- 139: FlagSignalsModel.isLike(II)Z -/
def fg_c139 : List fg_I := [(0, 1, 3, 0, 0, 0, 0), (1, 4, 27, 10, 22, 0, 901), (4, 5, 2, 1, 0, 0, 0), (5, 6, 33, 0, 0, 0, 0), (6, 9, 23, 22, 0, 0, 0), (9, 10, 3, 0, 0, 0, 0), (10, 13, 27, 10, 22, 0, 901), (13, 14, 2, 2, 0, 0, 0), (14, 15, 33, 0, 0, 0, 0), (15, 18, 23, 22, 0, 0, 0), (18, 19, 0, 0, 0, 1, 0), (19, 22, 22, 23, 0, 0, 0), (22, 23, 0, 0, 0, 0, 0), (23, 24, 5, 3, 0, 0, 0), (24, 25, 0, 0, 0, 0, 0), (25, 27, 5, 4, 0, 0, 0), (27, 29, 2, 4, 0, 0, 0), (29, 30, 0, 0, 0, 4, 0), (30, 33, 24, 74, 3, 0, 0), (33, 34, 2, 3, 0, 0, 0), (34, 37, 23, 66, 0, 0, 0), (37, 38, 3, 0, 0, 0, 0), (38, 41, 27, 10, 23, 0, 902), (41, 42, 0, 0, 0, 4, 0), (42, 43, 2, 1, 0, 0, 0), (43, 44, 9, 0, 2, 0, 0), (44, 46, 2, 4, 0, 0, 0), (46, 47, 9, 0, 0, 0, 0), (47, 48, 31, 0, 0, 0, 0), (48, 49, 3, 0, 0, 0, 0), (49, 52, 27, 10, 23, 0, 902), (52, 53, 0, 0, 0, 4, 0), (53, 54, 2, 2, 0, 0, 0), (54, 55, 9, 0, 2, 0, 0), (55, 57, 2, 4, 0, 0, 0), (57, 58, 9, 0, 0, 0, 0), (58, 59, 31, 0, 0, 0, 0), (59, 62, 24, 66, 1, 0, 0), (62, 63, 0, 0, 0, 1, 0), (63, 66, 22, 67, 0, 0, 0), (66, 67, 0, 0, 0, 0, 0), (67, 68, 5, 3, 0, 0, 0), (68, 71, 8, 4, 0, 1, 0), (71, 74, 22, 27, 0, 0, 0), (74, 75, 2, 3, 0, 0, 0), (75, 76, 44, 0, 0, 0, 0)]
/-- 140: FlagSignalsModel.likeOf(I)I -/
def fg_c140 : List fg_I := [(0, 1, 0, 0, 0, 0, 0), (1, 2, 5, 2, 0, 0, 0), (2, 3, 0, 0, 0, 0, 0), (3, 4, 5, 3, 0, 0, 0), (4, 5, 2, 3, 0, 0, 0), (5, 6, 3, 0, 0, 0, 0), (6, 9, 26, 10, 4, 0, 883), (9, 12, 24, 37, 3, 0, 0), (12, 13, 2, 2, 0, 0, 0), (13, 14, 3, 0, 0, 0, 0), (14, 15, 2, 1, 0, 0, 0), (15, 16, 2, 3, 0, 0, 0), (16, 19, 37, 139, 2, 0, 1143), (19, 22, 23, 28, 0, 0, 0), (22, 23, 0, 0, 0, 1, 0), (23, 24, 2, 3, 0, 0, 0), (24, 25, 9, 0, 6, 0, 0), (25, 28, 22, 29, 0, 0, 0), (28, 29, 0, 0, 0, 0, 0), (29, 30, 9, 0, 4, 0, 0), (30, 31, 5, 2, 0, 0, 0), (31, 34, 8, 3, 0, 1, 0), (34, 37, 22, 4, 0, 0, 0), (37, 38, 2, 2, 0, 0, 0), (38, 39, 43, 0, 0, 0, 0)]
/-- 141: FlagSignalsModel.clearIn(II)I -/
def fg_c141 : List fg_I := [(0, 1, 3, 0, 0, 0, 0), (1, 2, 2, 1, 0, 0, 0), (2, 3, 2, 2, 0, 0, 0), (3, 6, 38, 138, 2, 0, 1129), (6, 7, 0, 0, 0, 0, 0), (7, 8, 5, 3, 0, 0, 0), (8, 9, 0, 0, 0, 0, 0), (9, 11, 5, 4, 0, 0, 0), (11, 13, 2, 4, 0, 0, 0), (13, 14, 3, 0, 0, 0, 0), (14, 17, 26, 10, 4, 0, 883), (17, 20, 24, 50, 3, 0, 0), (20, 21, 2, 3, 0, 0, 0), (21, 22, 3, 0, 0, 0, 0), (22, 24, 2, 4, 0, 0, 0), (24, 27, 37, 140, 1, 0, 1139), (27, 28, 0, 0, 0, 1, 0), (28, 30, 2, 4, 0, 0, 0), (30, 31, 9, 0, 6, 0, 0), (31, 34, 24, 41, 1, 0, 0), (34, 35, 0, 0, 0, 1, 0), (35, 37, 2, 4, 0, 0, 0), (37, 38, 9, 0, 6, 0, 0), (38, 41, 22, 42, 0, 0, 0), (41, 42, 0, 0, 0, 0, 0), (42, 43, 9, 0, 4, 0, 0), (43, 44, 5, 3, 0, 0, 0), (44, 47, 8, 4, 0, 1, 0), (47, 50, 22, 11, 0, 0, 0), (50, 51, 2, 3, 0, 0, 0), (51, 52, 43, 0, 0, 0, 0)]
/-- 142: FlagSignalsModel.clearNow()I -/
def fg_c142 : List fg_I := [(0, 1, 3, 0, 0, 0, 0), (1, 2, 3, 0, 0, 0, 0), (2, 5, 27, 10, 7, 0, 886), (5, 7, 0, 0, 0, 58, 0), (7, 8, 31, 0, 0, 0, 0), (8, 9, 3, 0, 0, 0, 0), (9, 12, 27, 10, 7, 0, 886), (12, 14, 0, 0, 0, 59, 0), (14, 15, 31, 0, 0, 0, 0), (15, 18, 37, 141, 2, 0, 1125), (18, 19, 43, 0, 0, 0, 0)]
/-- 143: FlagSignalsModel.clearest()I -/
def fg_c143 : List fg_I := [(0, 1, 0, 0, 0, 0, 0), (1, 2, 5, 1, 0, 0, 0), (2, 3, 0, 0, 0, 0, 0), (3, 4, 5, 2, 0, 0, 0), (4, 5, 0, 0, 0, 0, 0), (5, 6, 5, 3, 0, 0, 0), (6, 7, 2, 3, 0, 0, 0), (7, 9, 0, 0, 0, 6, 0), (9, 12, 24, 58, 3, 0, 0), (12, 13, 3, 0, 0, 0, 0), (13, 14, 2, 3, 0, 0, 0), (14, 15, 0, 0, 0, 2, 0), (15, 16, 10, 0, 0, 0, 0), (16, 17, 2, 3, 0, 0, 0), (17, 18, 0, 0, 0, 2, 0), (18, 19, 11, 0, 0, 0, 0), (19, 22, 37, 141, 2, 0, 1125), (22, 25, 39, 112, 1, 0, 1070), (25, 27, 5, 4, 0, 0, 0), (27, 29, 2, 4, 0, 0, 0), (29, 30, 2, 2, 0, 0, 0), (30, 33, 24, 37, 5, 0, 0), (33, 34, 2, 3, 0, 0, 0), (34, 37, 22, 38, 0, 0, 0), (37, 38, 2, 1, 0, 0, 0), (38, 39, 5, 1, 0, 0, 0), (39, 41, 2, 4, 0, 0, 0), (41, 42, 2, 2, 0, 0, 0), (42, 45, 24, 50, 5, 0, 0), (45, 47, 2, 4, 0, 0, 0), (47, 50, 22, 51, 0, 0, 0), (50, 51, 2, 2, 0, 0, 0), (51, 52, 5, 2, 0, 0, 0), (52, 55, 8, 3, 0, 1, 0), (55, 58, 22, 6, 0, 0, 0), (58, 59, 2, 1, 0, 0, 0), (59, 60, 43, 0, 0, 0, 0)]
/-- 144: FlagSignalsModel.isToldIn(II)Z -/
def fg_c144 : List fg_I := [(0, 1, 0, 0, 0, 0, 0), (1, 2, 5, 3, 0, 0, 0), (2, 3, 0, 0, 0, 0, 0), (3, 5, 5, 4, 0, 0, 0), (5, 7, 2, 4, 0, 0, 0), (7, 8, 3, 0, 0, 0, 0), (8, 11, 27, 10, 5, 0, 884), (11, 12, 2, 2, 0, 0, 0), (12, 13, 31, 0, 0, 0, 0), (13, 16, 24, 47, 3, 0, 0), (16, 17, 2, 3, 0, 0, 0), (17, 20, 23, 35, 1, 0, 0), (20, 21, 3, 0, 0, 0, 0), (21, 24, 27, 10, 6, 0, 885), (24, 25, 0, 0, 0, 4, 0), (25, 26, 2, 2, 0, 0, 0), (26, 27, 9, 0, 2, 0, 0), (27, 29, 2, 4, 0, 0, 0), (29, 30, 9, 0, 0, 0, 0), (30, 31, 31, 0, 0, 0, 0), (31, 32, 2, 1, 0, 0, 0), (32, 35, 24, 39, 1, 0, 0), (35, 36, 0, 0, 0, 1, 0), (36, 39, 22, 40, 0, 0, 0), (39, 40, 0, 0, 0, 0, 0), (40, 41, 5, 3, 0, 0, 0), (41, 44, 8, 4, 0, 1, 0), (44, 47, 22, 5, 0, 0, 0), (47, 48, 2, 3, 0, 0, 0), (48, 49, 44, 0, 0, 0, 0)]
/-- 145: FlagSignalsModel.needed()I -/
def fg_c145 : List fg_I := [(0, 1, 0, 0, 0, (-1), 0), (1, 2, 5, 1, 0, 0, 0), (2, 3, 0, 0, 0, (-1), 0), (3, 4, 5, 2, 0, 0, 0), (4, 5, 0, 0, 0, 0, 0), (5, 6, 5, 3, 0, 0, 0), (6, 7, 2, 3, 0, 0, 0), (7, 8, 3, 0, 0, 0, 0), (8, 11, 26, 10, 2, 0, 881), (11, 14, 24, 86, 3, 0, 0), (14, 15, 0, 0, 0, 0, 0), (15, 17, 5, 4, 0, 0, 0), (17, 18, 0, 0, 0, 0, 0), (18, 20, 5, 5, 0, 0, 0), (20, 22, 2, 5, 0, 0, 0), (22, 23, 3, 0, 0, 0, 0), (23, 26, 26, 10, 4, 0, 883), (26, 29, 24, 55, 3, 0, 0), (29, 31, 2, 4, 0, 0, 0), (31, 32, 3, 0, 0, 0, 0), (32, 33, 2, 3, 0, 0, 0), (33, 35, 2, 5, 0, 0, 0), (35, 38, 37, 144, 2, 0, 1159), (38, 41, 23, 45, 0, 0, 0), (41, 42, 0, 0, 0, 1, 0), (42, 45, 22, 46, 0, 0, 0), (45, 46, 0, 0, 0, 0, 0), (46, 47, 9, 0, 0, 0, 0), (47, 49, 5, 4, 0, 0, 0), (49, 52, 8, 5, 0, 1, 0), (52, 55, 22, 20, 0, 0, 0), (55, 57, 2, 4, 0, 0, 0), (57, 58, 2, 2, 0, 0, 0), (58, 61, 24, 65, 5, 0, 0), (61, 62, 2, 3, 0, 0, 0), (62, 65, 22, 66, 0, 0, 0), (65, 66, 2, 1, 0, 0, 0), (66, 67, 5, 1, 0, 0, 0), (67, 69, 2, 4, 0, 0, 0), (69, 70, 2, 2, 0, 0, 0), (70, 73, 24, 78, 5, 0, 0), (73, 75, 2, 4, 0, 0, 0), (75, 78, 22, 79, 0, 0, 0), (78, 79, 2, 2, 0, 0, 0), (79, 80, 5, 2, 0, 0, 0), (80, 83, 8, 3, 0, 1, 0), (83, 86, 22, 6, 0, 0, 0), (86, 87, 2, 1, 0, 0, 0), (87, 88, 43, 0, 0, 0, 0)]
/-- 146: FlagSignalsModel.better()I -/
def fg_c146 : List fg_I := [(0, 1, 0, 0, 0, (-1), 0), (1, 2, 5, 1, 0, 0, 0), (2, 3, 3, 0, 0, 0, 0), (3, 6, 37, 142, 0, 0, 1121), (6, 9, 39, 112, 1, 0, 1070), (9, 10, 5, 2, 0, 0, 0), (10, 11, 0, 0, 0, 0, 0), (11, 12, 5, 3, 0, 0, 0), (12, 13, 2, 3, 0, 0, 0), (13, 14, 3, 0, 0, 0, 0), (14, 17, 26, 10, 2, 0, 881), (17, 20, 24, 164, 3, 0, 0), (20, 21, 3, 0, 0, 0, 0), (21, 24, 27, 10, 7, 0, 886), (24, 25, 2, 3, 0, 0, 0), (25, 26, 31, 0, 0, 0, 0), (26, 28, 5, 4, 0, 0, 0), (28, 29, 3, 0, 0, 0, 0), (29, 32, 27, 10, 7, 0, 886), (32, 34, 0, 0, 0, 30, 0), (34, 35, 2, 3, 0, 0, 0), (35, 36, 9, 0, 0, 0, 0), (36, 37, 31, 0, 0, 0, 0), (37, 39, 5, 5, 0, 0, 0), (39, 40, 3, 0, 0, 0, 0), (40, 43, 27, 10, 7, 0, 886), (43, 45, 0, 0, 0, 30, 0), (45, 46, 2, 3, 0, 0, 0), (46, 47, 9, 0, 0, 0, 0), (47, 48, 0, 0, 0, 0, 0), (48, 49, 32, 0, 0, 0, 0), (49, 50, 0, 0, 0, 0, 0), (50, 52, 5, 6, 0, 0, 0), (52, 54, 2, 6, 0, 0, 0), (54, 56, 0, 0, 0, 100, 0), (56, 59, 24, 139, 3, 0, 0), (59, 60, 3, 0, 0, 0, 0), (60, 63, 27, 10, 7, 0, 886), (63, 64, 2, 3, 0, 0, 0), (64, 66, 2, 6, 0, 0, 0), (66, 68, 0, 0, 0, 25, 0), (68, 69, 10, 0, 0, 0, 0), (69, 71, 0, 0, 0, 100, 0), (71, 72, 9, 0, 2, 0, 0), (72, 74, 2, 6, 0, 0, 0), (74, 75, 0, 0, 0, 5, 0), (75, 76, 10, 0, 0, 0, 0), (76, 77, 0, 0, 0, 5, 0), (77, 78, 11, 0, 0, 0, 0), (78, 80, 0, 0, 0, 10, 0), (80, 81, 9, 0, 2, 0, 0), (81, 82, 9, 0, 0, 0, 0), (82, 84, 2, 6, 0, 0, 0), (84, 85, 0, 0, 0, 5, 0), (85, 86, 11, 0, 0, 0, 0), (86, 87, 9, 0, 0, 0, 0), (87, 88, 32, 0, 0, 0, 0), (88, 89, 3, 0, 0, 0, 0), (89, 92, 37, 142, 0, 0, 1121), (92, 95, 39, 112, 1, 0, 1070), (95, 97, 5, 7, 0, 0, 0), (97, 99, 2, 7, 0, 0, 0), (99, 100, 2, 2, 0, 0, 0), (100, 103, 24, 118, 5, 0, 0), (103, 106, 0, 0, 0, 1000, 0), (106, 107, 2, 3, 0, 0, 0), (107, 108, 9, 0, 2, 0, 0), (108, 109, 3, 0, 0, 0, 0), (109, 112, 27, 10, 7, 0, 886), (112, 113, 2, 3, 0, 0, 0), (113, 114, 31, 0, 0, 0, 0), (114, 115, 9, 0, 0, 0, 0), (115, 118, 22, 119, 0, 0, 0), (118, 119, 2, 1, 0, 0, 0), (119, 120, 5, 1, 0, 0, 0), (120, 122, 2, 7, 0, 0, 0), (122, 123, 2, 2, 0, 0, 0), (123, 126, 24, 131, 5, 0, 0), (126, 128, 2, 7, 0, 0, 0), (128, 131, 22, 132, 0, 0, 0), (131, 132, 2, 2, 0, 0, 0), (132, 133, 5, 2, 0, 0, 0), (133, 136, 8, 6, 0, 1, 0), (136, 139, 22, 52, 0, 0, 0), (139, 140, 3, 0, 0, 0, 0), (140, 143, 27, 10, 7, 0, 886), (143, 144, 2, 3, 0, 0, 0), (144, 146, 2, 4, 0, 0, 0), (146, 147, 32, 0, 0, 0, 0), (147, 148, 3, 0, 0, 0, 0), (148, 151, 27, 10, 7, 0, 886), (151, 153, 0, 0, 0, 30, 0), (153, 154, 2, 3, 0, 0, 0), (154, 155, 9, 0, 0, 0, 0), (155, 157, 2, 5, 0, 0, 0), (157, 158, 32, 0, 0, 0, 0), (158, 161, 8, 3, 0, 1, 0), (161, 164, 22, 12, 0, 0, 0), (164, 165, 2, 1, 0, 0, 0), (165, 166, 43, 0, 0, 0, 0)]
/-- 147: FlagSignalsModel.rowFlags()I -/
def fg_c147 : List fg_I := [(0, 1, 0, 0, 0, 0, 0), (1, 2, 5, 1, 0, 0, 0), (2, 3, 0, 0, 0, 0, 0), (3, 4, 5, 2, 0, 0, 0), (4, 5, 2, 2, 0, 0, 0), (5, 6, 0, 0, 0, 4, 0), (6, 9, 24, 51, 3, 0, 0), (9, 10, 2, 1, 0, 0, 0), (10, 11, 3, 0, 0, 0, 0), (11, 14, 27, 10, 21, 0, 900), (14, 15, 2, 2, 0, 0, 0), (15, 16, 31, 0, 0, 0, 0), (16, 17, 0, 0, 0, (-1), 0), (17, 20, 24, 42, 0, 0, 0), (20, 21, 3, 0, 0, 0, 0), (21, 24, 27, 10, 21, 0, 900), (24, 25, 2, 2, 0, 0, 0), (25, 26, 31, 0, 0, 0, 0), (26, 28, 0, 0, 0, 20, 0), (28, 31, 24, 42, 3, 0, 0), (31, 32, 0, 0, 0, 1, 0), (32, 33, 3, 0, 0, 0, 0), (33, 36, 27, 10, 21, 0, 900), (36, 37, 2, 2, 0, 0, 0), (37, 38, 31, 0, 0, 0, 0), (38, 39, 9, 0, 6, 0, 0), (39, 42, 22, 43, 0, 0, 0), (42, 43, 0, 0, 0, 0, 0), (43, 44, 9, 0, 4, 0, 0), (44, 45, 5, 1, 0, 0, 0), (45, 48, 8, 2, 0, 1, 0), (48, 51, 22, 4, 0, 0, 0), (51, 52, 2, 1, 0, 0, 0), (52, 53, 43, 0, 0, 0, 0)]
/-- 148: FlagSignalsModel.rowSubs()I -/
def fg_c148 : List fg_I := [(0, 1, 0, 0, 0, 0, 0), (1, 2, 5, 1, 0, 0, 0), (2, 3, 0, 0, 0, 0, 0), (3, 4, 5, 2, 0, 0, 0), (4, 5, 2, 2, 0, 0, 0), (5, 6, 0, 0, 0, 4, 0), (6, 9, 24, 44, 3, 0, 0), (9, 10, 2, 1, 0, 0, 0), (10, 11, 3, 0, 0, 0, 0), (11, 14, 27, 10, 21, 0, 900), (14, 15, 2, 2, 0, 0, 0), (15, 16, 31, 0, 0, 0, 0), (16, 18, 0, 0, 0, 20, 0), (18, 21, 24, 35, 5, 0, 0), (21, 22, 0, 0, 0, 1, 0), (22, 23, 3, 0, 0, 0, 0), (23, 26, 27, 10, 21, 0, 900), (26, 27, 2, 2, 0, 0, 0), (27, 28, 31, 0, 0, 0, 0), (28, 30, 0, 0, 0, 20, 0), (30, 31, 9, 0, 1, 0, 0), (31, 32, 9, 0, 6, 0, 0), (32, 35, 22, 36, 0, 0, 0), (35, 36, 0, 0, 0, 0, 0), (36, 37, 9, 0, 4, 0, 0), (37, 38, 5, 1, 0, 0, 0), (38, 41, 8, 2, 0, 1, 0), (41, 44, 22, 4, 0, 0, 0), (44, 45, 2, 1, 0, 0, 0), (45, 46, 43, 0, 0, 0, 0)]
/-- 149: FlagSignalsModel.fly(I)Z -/
def fg_c149 : List fg_I := [(0, 1, 0, 0, 0, 1, 0), (1, 2, 3, 0, 0, 0, 0), (2, 5, 26, 10, 2, 0, 881), (5, 6, 9, 0, 6, 0, 0), (6, 7, 0, 0, 0, 1, 0), (7, 8, 9, 0, 1, 0, 0), (8, 9, 3, 0, 0, 0, 0), (9, 12, 37, 129, 0, 0, 1062), (12, 13, 0, 0, 0, (-1), 0), (13, 14, 9, 0, 5, 0, 0), (14, 15, 9, 0, 3, 0, 0), (15, 16, 5, 2, 0, 0, 0), (16, 17, 3, 0, 0, 0, 0), (17, 20, 37, 131, 0, 0, 1066), (20, 21, 5, 3, 0, 0, 0), (21, 22, 2, 1, 0, 0, 0), (22, 25, 39, 112, 1, 0, 1070), (25, 26, 3, 0, 0, 0, 0), (26, 29, 26, 10, 0, 0, 879), (29, 32, 24, 36, 4, 0, 0), (32, 33, 0, 0, 0, 1, 0), (33, 36, 22, 37, 0, 0, 0), (36, 37, 0, 0, 0, 0, 0), (37, 39, 5, 4, 0, 0, 0), (39, 40, 0, 0, 0, 0, 0), (40, 42, 5, 5, 0, 0, 0), (42, 44, 2, 5, 0, 0, 0), (44, 45, 3, 0, 0, 0, 0), (45, 48, 26, 10, 4, 0, 883), (48, 51, 24, 99, 3, 0, 0), (51, 53, 2, 4, 0, 0, 0), (53, 56, 23, 99, 0, 0, 0), (56, 57, 2, 1, 0, 0, 0), (57, 59, 2, 5, 0, 0, 0), (59, 62, 39, 111, 2, 0, 1073), (62, 65, 23, 93, 0, 0, 0), (65, 66, 3, 0, 0, 0, 0), (66, 68, 2, 5, 0, 0, 0), (68, 69, 2, 2, 0, 0, 0), (69, 70, 2, 3, 0, 0, 0), (70, 73, 37, 134, 3, 0, 1076), (73, 75, 5, 4, 0, 0, 0), (75, 76, 2, 2, 0, 0, 0), (76, 77, 3, 0, 0, 0, 0), (77, 80, 37, 147, 0, 0, 1088), (80, 81, 0, 0, 0, (-1), 0), (81, 82, 9, 0, 5, 0, 0), (82, 83, 9, 0, 3, 0, 0), (83, 84, 5, 2, 0, 0, 0), (84, 85, 2, 3, 0, 0, 0), (85, 86, 3, 0, 0, 0, 0), (86, 89, 37, 148, 0, 0, 1092), (89, 90, 0, 0, 0, (-1), 0), (90, 91, 9, 0, 5, 0, 0), (91, 92, 9, 0, 3, 0, 0), (92, 93, 5, 3, 0, 0, 0), (93, 96, 8, 5, 0, 1, 0), (96, 99, 22, 42, 0, 0, 0), (99, 101, 2, 4, 0, 0, 0), (101, 102, 44, 0, 0, 0, 0)]
/-- 150: FlagSignalsModel.mostTogether()I -/
def fg_c150 : List fg_I := [(0, 1, 0, 0, 0, 0, 0), (1, 2, 5, 1, 0, 0, 0), (2, 3, 0, 0, 0, 0, 0), (3, 4, 5, 2, 0, 0, 0), (4, 5, 2, 2, 0, 0, 0), (5, 6, 0, 0, 0, 1, 0), (6, 7, 3, 0, 0, 0, 0), (7, 10, 26, 10, 4, 0, 883), (10, 11, 9, 0, 6, 0, 0), (11, 14, 24, 45, 3, 0, 0), (14, 15, 2, 2, 0, 0, 0), (15, 18, 39, 112, 1, 0, 1070), (18, 19, 2, 1, 0, 0, 0), (19, 22, 39, 112, 1, 0, 1070), (22, 25, 24, 37, 5, 0, 0), (25, 26, 3, 0, 0, 0, 0), (26, 27, 2, 2, 0, 0, 0), (27, 30, 37, 149, 1, 0, 1058), (30, 33, 23, 37, 0, 0, 0), (33, 34, 2, 2, 0, 0, 0), (34, 37, 22, 38, 0, 0, 0), (37, 38, 2, 1, 0, 0, 0), (38, 39, 5, 1, 0, 0, 0), (39, 42, 8, 2, 0, 1, 0), (42, 45, 22, 4, 0, 0, 0), (45, 46, 2, 1, 0, 0, 0), (46, 47, 43, 0, 0, 0, 0)]
/-- 151: FlagSignalsModel.areSignals(I)Z -/
def fg_c151 : List fg_I := [(0, 1, 2, 1, 0, 0, 0), (1, 2, 13, 0, 0, 0, 0), (2, 3, 1, 0, 0, 0, 0), (3, 4, 0, 0, 0, 1, 0), (4, 5, 3, 0, 0, 0, 0), (5, 8, 26, 10, 4, 0, 883), (8, 9, 9, 0, 6, 0, 0), (9, 10, 0, 0, 0, 1, 0), (10, 11, 9, 0, 1, 0, 0), (11, 12, 13, 0, 0, 0, 0), (12, 15, 39, 110, 3, 0, 996), (15, 16, 44, 0, 0, 0, 0)]
/-- 152: FlagSignalsModel.together(I)I -/
def fg_c152 : List fg_I := [(0, 1, 3, 0, 0, 0, 0), (1, 2, 2, 1, 0, 0, 0), (2, 5, 37, 151, 1, 0, 1053), (5, 8, 23, 11, 1, 0, 0), (8, 10, 0, 0, 0, (-1000000001), 1057), (10, 11, 43, 0, 0, 0, 0), (11, 12, 3, 0, 0, 0, 0), (12, 13, 2, 1, 0, 0, 0), (13, 16, 37, 149, 1, 0, 1058), (16, 19, 23, 23, 0, 0, 0), (19, 20, 0, 0, 0, 1, 0), (20, 23, 22, 24, 0, 0, 0), (23, 24, 0, 0, 0, 0, 0), (24, 25, 43, 0, 0, 0, 0)]
/-- 153: FlagSignalsModel.findTurns(I)V -/
def fg_c153 : List fg_I := [(0, 1, 3, 0, 0, 0, 0), (1, 4, 27, 10, 25, 0, 904), (4, 5, 0, 0, 0, 0, 0), (5, 6, 0, 0, 0, 0, 0), (6, 7, 32, 0, 0, 0, 0), (7, 8, 0, 0, 0, 1, 0), (8, 9, 5, 2, 0, 0, 0), (9, 10, 2, 2, 0, 0, 0), (10, 11, 2, 1, 0, 0, 0), (11, 14, 24, 146, 4, 0, 0), (14, 15, 2, 2, 0, 0, 0), (15, 16, 2, 1, 0, 0, 0), (16, 17, 0, 0, 0, (-1), 0), (17, 18, 9, 0, 5, 0, 0), (18, 19, 9, 0, 3, 0, 0), (19, 22, 23, 26, 1, 0, 0), (22, 23, 0, 0, 0, 1, 0), (23, 26, 22, 27, 0, 0, 0), (26, 27, 0, 0, 0, 0, 0), (27, 28, 5, 3, 0, 0, 0), (28, 29, 3, 0, 0, 0, 0), (29, 32, 27, 10, 24, 0, 903), (32, 33, 2, 2, 0, 0, 0), (33, 34, 2, 3, 0, 0, 0), (34, 37, 23, 49, 0, 0, 0), (37, 38, 3, 0, 0, 0, 0), (38, 39, 2, 2, 0, 0, 0), (39, 42, 37, 149, 1, 0, 1058), (42, 45, 23, 49, 0, 0, 0), (45, 46, 0, 0, 0, 1, 0), (46, 49, 22, 50, 0, 0, 0), (49, 50, 0, 0, 0, 0, 0), (50, 51, 34, 0, 0, 0, 0), (51, 52, 3, 0, 0, 0, 0), (52, 55, 27, 10, 25, 0, 904), (55, 56, 2, 2, 0, 0, 0), (56, 58, 0, 0, 0, 1000000, 1104), (58, 59, 32, 0, 0, 0, 0), (59, 60, 2, 2, 0, 0, 0), (60, 62, 5, 4, 0, 0, 0), (62, 64, 2, 4, 0, 0, 0), (64, 67, 23, 140, 5, 0, 0), (67, 68, 2, 3, 0, 0, 0), (68, 71, 23, 140, 0, 0, 0), (71, 72, 3, 0, 0, 0, 0), (72, 75, 27, 10, 24, 0, 903), (75, 77, 2, 4, 0, 0, 0), (77, 78, 33, 0, 0, 0, 0), (78, 81, 23, 97, 0, 0, 0), (81, 82, 3, 0, 0, 0, 0), (82, 85, 27, 10, 25, 0, 904), (85, 86, 2, 2, 0, 0, 0), (86, 88, 2, 4, 0, 0, 0), (88, 89, 0, 0, 0, (-1), 0), (89, 90, 9, 0, 5, 0, 0), (90, 91, 9, 0, 3, 0, 0), (91, 92, 31, 0, 0, 0, 0), (92, 93, 0, 0, 0, 1, 0), (93, 94, 9, 0, 0, 0, 0), (94, 97, 22, 99, 0, 0, 0), (97, 99, 0, 0, 0, 1000000, 1104), (99, 101, 5, 5, 0, 0, 0), (101, 102, 3, 0, 0, 0, 0), (102, 105, 27, 10, 25, 0, 904), (105, 106, 2, 2, 0, 0, 0), (106, 108, 2, 5, 0, 0, 0), (108, 109, 3, 0, 0, 0, 0), (109, 112, 27, 10, 25, 0, 904), (112, 113, 2, 2, 0, 0, 0), (113, 114, 31, 0, 0, 0, 0), (114, 117, 24, 122, 3, 0, 0), (117, 119, 2, 5, 0, 0, 0), (119, 122, 22, 128, 0, 0, 0), (122, 123, 3, 0, 0, 0, 0), (123, 126, 27, 10, 25, 0, 904), (126, 127, 2, 2, 0, 0, 0), (127, 128, 31, 0, 0, 0, 0), (128, 129, 32, 0, 0, 0, 0), (129, 131, 2, 4, 0, 0, 0), (131, 132, 0, 0, 0, 1, 0), (132, 133, 9, 0, 1, 0, 0), (133, 134, 2, 2, 0, 0, 0), (134, 135, 9, 0, 3, 0, 0), (135, 137, 5, 4, 0, 0, 0), (137, 140, 22, 62, 0, 0, 0), (140, 143, 8, 2, 0, 1, 0), (143, 146, 22, 9, 0, 0, 0), (146, 147, 45, 0, 0, 0, 0)]
/-- 154: FlagSignalsModel.turns(II)I -/
def fg_c154 : List fg_I := [(0, 1, 3, 0, 0, 0, 0), (1, 2, 2, 1, 0, 0, 0), (2, 5, 37, 151, 1, 0, 1053), (5, 8, 23, 11, 1, 0, 0), (8, 10, 0, 0, 0, (-1000000001), 1057), (10, 11, 43, 0, 0, 0, 0), (11, 12, 2, 2, 0, 0, 0), (12, 13, 13, 0, 0, 0, 0), (13, 14, 1, 0, 0, 0, 0), (14, 15, 1, 1, 0, 0, 0), (15, 18, 39, 110, 3, 0, 996), (18, 21, 23, 24, 1, 0, 0), (21, 23, 0, 0, 0, (-1000000002), 999), (23, 24, 43, 0, 0, 0, 0), (24, 25, 3, 0, 0, 0, 0), (25, 26, 2, 1, 0, 0, 0), (26, 29, 38, 153, 1, 0, 1100), (29, 30, 2, 2, 0, 0, 0), (30, 33, 23, 44, 0, 0, 0), (33, 34, 3, 0, 0, 0, 0), (34, 37, 27, 10, 25, 0, 904), (37, 38, 2, 1, 0, 0, 0), (38, 39, 31, 0, 0, 0, 0), (39, 41, 0, 0, 0, 1000000, 1104), (41, 44, 24, 66, 2, 0, 0), (44, 45, 3, 0, 0, 0, 0), (45, 48, 27, 10, 25, 0, 904), (48, 49, 2, 1, 0, 0, 0), (49, 50, 31, 0, 0, 0, 0), (50, 52, 0, 0, 0, 1000000, 1104), (52, 55, 24, 64, 3, 0, 0), (55, 56, 3, 0, 0, 0, 0), (56, 59, 27, 10, 25, 0, 904), (59, 60, 2, 1, 0, 0, 0), (60, 61, 31, 0, 0, 0, 0), (61, 64, 22, 65, 0, 0, 0), (64, 65, 0, 0, 0, (-1), 0), (65, 66, 43, 0, 0, 0, 0), (66, 67, 0, 0, 0, (-1), 0), (67, 68, 5, 3, 0, 0, 0), (68, 69, 2, 1, 0, 0, 0), (69, 71, 5, 4, 0, 0, 0), (71, 73, 2, 4, 0, 0, 0), (73, 76, 23, 126, 5, 0, 0), (76, 77, 3, 0, 0, 0, 0), (77, 80, 27, 10, 24, 0, 903), (80, 82, 2, 4, 0, 0, 0), (82, 83, 33, 0, 0, 0, 0), (83, 86, 23, 113, 0, 0, 0), (86, 87, 3, 0, 0, 0, 0), (87, 90, 27, 10, 25, 0, 904), (90, 91, 2, 1, 0, 0, 0), (91, 93, 2, 4, 0, 0, 0), (93, 94, 0, 0, 0, (-1), 0), (94, 95, 9, 0, 5, 0, 0), (95, 96, 9, 0, 3, 0, 0), (96, 97, 31, 0, 0, 0, 0), (97, 98, 3, 0, 0, 0, 0), (98, 101, 27, 10, 25, 0, 904), (101, 102, 2, 1, 0, 0, 0), (102, 103, 31, 0, 0, 0, 0), (103, 104, 0, 0, 0, 1, 0), (104, 105, 9, 0, 1, 0, 0), (105, 108, 24, 113, 1, 0, 0), (108, 110, 2, 4, 0, 0, 0), (110, 113, 22, 114, 0, 0, 0), (113, 114, 2, 3, 0, 0, 0), (114, 115, 5, 3, 0, 0, 0), (115, 117, 2, 4, 0, 0, 0), (117, 118, 0, 0, 0, 1, 0), (118, 119, 9, 0, 1, 0, 0), (119, 120, 2, 1, 0, 0, 0), (120, 121, 9, 0, 3, 0, 0), (121, 123, 5, 4, 0, 0, 0), (123, 126, 22, 71, 0, 0, 0), (126, 127, 2, 3, 0, 0, 0), (127, 128, 43, 0, 0, 0, 0)]
/-- 155: FlagSignalsModel.weathers()I -/
def fg_c155 : List fg_I := [(0, 1, 0, 0, 0, 0, 0), (1, 2, 5, 1, 0, 0, 0), (2, 3, 0, 0, 0, 0, 0), (3, 4, 5, 2, 0, 0, 0), (4, 5, 2, 2, 0, 0, 0), (5, 7, 0, 0, 0, 6, 0), (7, 10, 24, 83, 3, 0, 0), (10, 11, 3, 0, 0, 0, 0), (11, 12, 2, 2, 0, 0, 0), (12, 13, 0, 0, 0, 2, 0), (13, 14, 10, 0, 0, 0, 0), (14, 15, 2, 2, 0, 0, 0), (15, 16, 0, 0, 0, 2, 0), (16, 17, 11, 0, 0, 0, 0), (17, 20, 38, 138, 2, 0, 1129), (20, 21, 0, 0, 0, 1, 0), (21, 22, 5, 3, 0, 0, 0), (22, 23, 0, 0, 0, 0, 0), (23, 25, 5, 4, 0, 0, 0), (25, 27, 2, 4, 0, 0, 0), (27, 28, 3, 0, 0, 0, 0), (28, 31, 26, 10, 26, 0, 905), (31, 34, 24, 63, 3, 0, 0), (34, 35, 2, 3, 0, 0, 0), (35, 38, 23, 63, 0, 0, 0), (38, 39, 3, 0, 0, 0, 0), (39, 40, 3, 0, 0, 0, 0), (40, 43, 27, 10, 27, 0, 906), (43, 45, 2, 4, 0, 0, 0), (45, 46, 31, 0, 0, 0, 0), (46, 47, 3, 0, 0, 0, 0), (47, 50, 27, 10, 28, 0, 907), (50, 52, 2, 4, 0, 0, 0), (52, 53, 31, 0, 0, 0, 0), (53, 56, 37, 139, 2, 0, 1143), (56, 57, 5, 3, 0, 0, 0), (57, 60, 8, 4, 0, 1, 0), (60, 63, 22, 25, 0, 0, 0), (63, 64, 2, 1, 0, 0, 0), (64, 65, 2, 3, 0, 0, 0), (65, 68, 23, 74, 0, 0, 0), (68, 69, 0, 0, 0, 1, 0), (69, 70, 2, 2, 0, 0, 0), (70, 71, 9, 0, 6, 0, 0), (71, 74, 22, 75, 0, 0, 0), (74, 75, 0, 0, 0, 0, 0), (75, 76, 9, 0, 4, 0, 0), (76, 77, 5, 1, 0, 0, 0), (77, 80, 8, 2, 0, 1, 0), (80, 83, 22, 4, 0, 0, 0), (83, 84, 2, 1, 0, 0, 0), (84, 85, 43, 0, 0, 0, 0)]
/-- 156: FlagSignalsModel.layLikes()V -/
def fg_c156 : List fg_I := [(0, 1, 0, 0, 0, 0, 0), (1, 2, 5, 1, 0, 0, 0), (2, 3, 2, 1, 0, 0, 0), (3, 5, 0, 0, 0, 6, 0), (5, 8, 24, 56, 3, 0, 0), (8, 9, 3, 0, 0, 0, 0), (9, 10, 2, 1, 0, 0, 0), (10, 11, 0, 0, 0, 2, 0), (11, 12, 10, 0, 0, 0, 0), (12, 13, 2, 1, 0, 0, 0), (13, 14, 0, 0, 0, 2, 0), (14, 15, 11, 0, 0, 0, 0), (15, 18, 38, 138, 2, 0, 1129), (18, 19, 0, 0, 0, 0, 0), (19, 20, 5, 2, 0, 0, 0), (20, 21, 2, 2, 0, 0, 0), (21, 22, 3, 0, 0, 0, 0), (22, 25, 26, 10, 4, 0, 883), (25, 28, 24, 50, 3, 0, 0), (28, 29, 3, 0, 0, 0, 0), (29, 32, 27, 10, 29, 0, 908), (32, 34, 0, 0, 0, 10, 0), (34, 35, 2, 1, 0, 0, 0), (35, 36, 9, 0, 2, 0, 0), (36, 37, 2, 2, 0, 0, 0), (37, 38, 9, 0, 0, 0, 0), (38, 39, 3, 0, 0, 0, 0), (39, 40, 2, 2, 0, 0, 0), (40, 43, 37, 140, 1, 0, 1139), (43, 44, 32, 0, 0, 0, 0), (44, 47, 8, 2, 0, 1, 0), (47, 50, 22, 20, 0, 0, 0), (50, 53, 8, 1, 0, 1, 0), (53, 56, 22, 2, 0, 0, 0), (56, 57, 45, 0, 0, 0, 0)]
/-- 157: FlagSignalsModel.greatestPart(II)I -/
def fg_c157 : List fg_I := [(0, 1, 0, 0, 0, 0, 0), (1, 2, 5, 3, 0, 0, 0), (2, 3, 0, 0, 0, 0, 0), (3, 5, 5, 4, 0, 0, 0), (5, 7, 2, 4, 0, 0, 0), (7, 9, 0, 0, 0, 6, 0), (9, 12, 24, 105, 3, 0, 0), (12, 13, 0, 0, 0, 0, 0), (13, 15, 5, 5, 0, 0, 0), (15, 16, 0, 0, 0, 0, 0), (16, 18, 5, 6, 0, 0, 0), (18, 20, 2, 6, 0, 0, 0), (20, 22, 0, 0, 0, 6, 0), (22, 25, 24, 86, 3, 0, 0), (25, 27, 2, 5, 0, 0, 0), (27, 28, 2, 1, 0, 0, 0), (28, 30, 2, 4, 0, 0, 0), (30, 33, 39, 111, 2, 0, 1073), (33, 36, 23, 76, 0, 0, 0), (36, 37, 2, 1, 0, 0, 0), (37, 39, 2, 6, 0, 0, 0), (39, 42, 39, 111, 2, 0, 1073), (42, 45, 23, 76, 0, 0, 0), (45, 46, 3, 0, 0, 0, 0), (46, 49, 27, 10, 29, 0, 908), (49, 51, 0, 0, 0, 10, 0), (51, 53, 2, 4, 0, 0, 0), (53, 54, 9, 0, 2, 0, 0), (54, 55, 2, 2, 0, 0, 0), (55, 56, 9, 0, 0, 0, 0), (56, 57, 31, 0, 0, 0, 0), (57, 58, 3, 0, 0, 0, 0), (58, 61, 27, 10, 29, 0, 908), (61, 63, 0, 0, 0, 10, 0), (63, 65, 2, 6, 0, 0, 0), (65, 66, 9, 0, 2, 0, 0), (66, 67, 2, 2, 0, 0, 0), (67, 68, 9, 0, 0, 0, 0), (68, 69, 31, 0, 0, 0, 0), (69, 72, 24, 76, 1, 0, 0), (72, 73, 0, 0, 0, 1, 0), (73, 76, 22, 77, 0, 0, 0), (76, 77, 0, 0, 0, 0, 0), (77, 78, 9, 0, 0, 0, 0), (78, 80, 5, 5, 0, 0, 0), (80, 83, 8, 6, 0, 1, 0), (83, 86, 22, 18, 0, 0, 0), (86, 88, 2, 5, 0, 0, 0), (88, 89, 2, 3, 0, 0, 0), (89, 92, 24, 97, 5, 0, 0), (92, 94, 2, 5, 0, 0, 0), (94, 97, 22, 98, 0, 0, 0), (97, 98, 2, 3, 0, 0, 0), (98, 99, 5, 3, 0, 0, 0), (99, 102, 8, 4, 0, 1, 0), (102, 105, 22, 5, 0, 0, 0), (105, 106, 2, 3, 0, 0, 0), (106, 107, 43, 0, 0, 0, 0)]
/-- 158: FlagSignalsModel.askNext()I -/
def fg_c158 : List fg_I := [(0, 1, 3, 0, 0, 0, 0), (1, 4, 37, 155, 0, 0, 1167), (4, 5, 5, 1, 0, 0, 0), (5, 6, 3, 0, 0, 0, 0), (6, 9, 38, 156, 0, 0, 1175), (9, 10, 0, 0, 0, (-1), 0), (10, 11, 5, 2, 0, 0, 0), (11, 12, 2, 1, 0, 0, 0), (12, 15, 39, 112, 1, 0, 1070), (15, 16, 5, 3, 0, 0, 0), (16, 17, 0, 0, 0, 0, 0), (17, 19, 5, 4, 0, 0, 0), (19, 21, 2, 4, 0, 0, 0), (21, 22, 3, 0, 0, 0, 0), (22, 25, 26, 10, 4, 0, 883), (25, 28, 24, 69, 3, 0, 0), (28, 29, 3, 0, 0, 0, 0), (29, 30, 2, 1, 0, 0, 0), (30, 32, 2, 4, 0, 0, 0), (32, 35, 37, 157, 2, 0, 1179), (35, 37, 5, 5, 0, 0, 0), (37, 39, 2, 5, 0, 0, 0), (39, 40, 2, 3, 0, 0, 0), (40, 43, 24, 48, 3, 0, 0), (43, 45, 2, 4, 0, 0, 0), (45, 48, 22, 49, 0, 0, 0), (48, 49, 2, 2, 0, 0, 0), (49, 50, 5, 2, 0, 0, 0), (50, 52, 2, 5, 0, 0, 0), (52, 53, 2, 3, 0, 0, 0), (53, 56, 24, 61, 3, 0, 0), (56, 58, 2, 5, 0, 0, 0), (58, 61, 22, 62, 0, 0, 0), (61, 62, 2, 3, 0, 0, 0), (62, 63, 5, 3, 0, 0, 0), (63, 66, 8, 4, 0, 1, 0), (66, 69, 22, 19, 0, 0, 0), (69, 70, 2, 2, 0, 0, 0), (70, 71, 43, 0, 0, 0, 0)]
/-- 159: FlagSignalsModel.told(I)I -/
def fg_c159 : List fg_I := [(0, 1, 2, 1, 0, 0, 0), (1, 104, 25, 3, 0, 0, 0), (104, 105, 3, 0, 0, 0, 0), (105, 108, 26, 10, 0, 0, 879), (108, 109, 43, 0, 0, 0, 0), (109, 110, 3, 0, 0, 0, 0), (110, 113, 26, 10, 1, 0, 880), (113, 114, 43, 0, 0, 0, 0), (114, 115, 3, 0, 0, 0, 0), (115, 118, 26, 10, 2, 0, 881), (118, 119, 43, 0, 0, 0, 0), (119, 120, 3, 0, 0, 0, 0), (120, 123, 26, 10, 4, 0, 883), (123, 124, 43, 0, 0, 0, 0), (124, 125, 3, 0, 0, 0, 0), (125, 128, 26, 10, 10, 0, 889), (128, 129, 43, 0, 0, 0, 0), (129, 130, 3, 0, 0, 0, 0), (130, 133, 27, 10, 7, 0, 886), (133, 135, 0, 0, 0, 60, 0), (135, 136, 31, 0, 0, 0, 0), (136, 137, 43, 0, 0, 0, 0), (137, 138, 3, 0, 0, 0, 0), (138, 141, 27, 10, 7, 0, 886), (141, 143, 0, 0, 0, 58, 0), (143, 144, 31, 0, 0, 0, 0), (144, 145, 43, 0, 0, 0, 0), (145, 146, 3, 0, 0, 0, 0), (146, 149, 27, 10, 7, 0, 886), (149, 151, 0, 0, 0, 59, 0), (151, 152, 31, 0, 0, 0, 0), (152, 153, 43, 0, 0, 0, 0), (153, 154, 3, 0, 0, 0, 0), (154, 157, 37, 128, 0, 0, 1109), (157, 158, 43, 0, 0, 0, 0), (158, 159, 3, 0, 0, 0, 0), (159, 162, 37, 129, 0, 0, 1062), (162, 163, 43, 0, 0, 0, 0), (163, 164, 3, 0, 0, 0, 0), (164, 167, 37, 135, 0, 0, 1113), (167, 168, 43, 0, 0, 0, 0), (168, 169, 3, 0, 0, 0, 0), (169, 172, 37, 142, 0, 0, 1121), (172, 173, 43, 0, 0, 0, 0), (173, 174, 3, 0, 0, 0, 0), (174, 177, 37, 143, 0, 0, 1147), (177, 178, 43, 0, 0, 0, 0), (178, 179, 3, 0, 0, 0, 0), (179, 182, 37, 150, 0, 0, 1151), (182, 183, 43, 0, 0, 0, 0), (183, 184, 3, 0, 0, 0, 0), (184, 187, 37, 145, 0, 0, 1155), (187, 188, 43, 0, 0, 0, 0), (188, 189, 3, 0, 0, 0, 0), (189, 192, 37, 146, 0, 0, 1163), (192, 193, 43, 0, 0, 0, 0), (193, 194, 3, 0, 0, 0, 0), (194, 197, 26, 10, 26, 0, 905), (197, 198, 43, 0, 0, 0, 0), (198, 199, 3, 0, 0, 0, 0), (199, 202, 37, 155, 0, 0, 1167), (202, 205, 39, 112, 1, 0, 1070), (205, 206, 43, 0, 0, 0, 0), (206, 207, 3, 0, 0, 0, 0), (207, 210, 37, 155, 0, 0, 1167), (210, 211, 43, 0, 0, 0, 0), (211, 212, 3, 0, 0, 0, 0), (212, 215, 37, 158, 0, 0, 1171), (215, 216, 43, 0, 0, 0, 0), (216, 217, 3, 0, 0, 0, 0), (217, 220, 26, 10, 32, 0, 911), (220, 221, 43, 0, 0, 0, 0), (221, 222, 3, 0, 0, 0, 0), (222, 225, 26, 10, 30, 0, 909), (225, 226, 43, 0, 0, 0, 0), (226, 228, 0, 0, 0, (-1000000002), 999), (228, 229, 43, 0, 0, 0, 0)]
/-- 160: FlagSignalsModel.flag(II)I -/
def fg_c160 : List fg_I := [(0, 1, 3, 0, 0, 0, 0), (1, 2, 2, 1, 0, 0, 0), (2, 5, 37, 114, 1, 0, 1187), (5, 8, 23, 11, 1, 0, 0), (8, 10, 0, 0, 0, (-1000000001), 1057), (10, 11, 43, 0, 0, 0, 0), (11, 12, 2, 2, 0, 0, 0), (12, 56, 25, 4, 0, 0, 0), (56, 57, 3, 0, 0, 0, 0), (57, 60, 27, 10, 7, 0, 886), (60, 61, 2, 1, 0, 0, 0), (61, 62, 31, 0, 0, 0, 0), (62, 64, 0, 0, 0, 100, 0), (64, 65, 10, 0, 0, 0, 0), (65, 66, 43, 0, 0, 0, 0), (66, 67, 3, 0, 0, 0, 0), (67, 70, 27, 10, 7, 0, 886), (70, 71, 2, 1, 0, 0, 0), (71, 72, 31, 0, 0, 0, 0), (72, 74, 0, 0, 0, 10, 0), (74, 75, 10, 0, 0, 0, 0), (75, 77, 0, 0, 0, 10, 0), (77, 78, 11, 0, 0, 0, 0), (78, 79, 43, 0, 0, 0, 0), (79, 80, 3, 0, 0, 0, 0), (80, 83, 27, 10, 7, 0, 886), (83, 84, 2, 1, 0, 0, 0), (84, 85, 31, 0, 0, 0, 0), (85, 87, 0, 0, 0, 10, 0), (87, 88, 11, 0, 0, 0, 0), (88, 89, 43, 0, 0, 0, 0), (89, 90, 3, 0, 0, 0, 0), (90, 93, 27, 10, 7, 0, 886), (93, 95, 0, 0, 0, 10, 0), (95, 96, 2, 1, 0, 0, 0), (96, 97, 9, 0, 0, 0, 0), (97, 98, 31, 0, 0, 0, 0), (98, 99, 43, 0, 0, 0, 0), (99, 100, 3, 0, 0, 0, 0), (100, 103, 27, 10, 7, 0, 886), (103, 105, 0, 0, 0, 20, 0), (105, 106, 2, 1, 0, 0, 0), (106, 107, 9, 0, 0, 0, 0), (107, 108, 31, 0, 0, 0, 0), (108, 109, 43, 0, 0, 0, 0), (109, 110, 3, 0, 0, 0, 0), (110, 113, 27, 10, 7, 0, 886), (113, 115, 0, 0, 0, 30, 0), (115, 116, 2, 1, 0, 0, 0), (116, 117, 9, 0, 0, 0, 0), (117, 118, 31, 0, 0, 0, 0), (118, 119, 43, 0, 0, 0, 0), (119, 120, 3, 0, 0, 0, 0), (120, 123, 27, 10, 7, 0, 886), (123, 124, 2, 1, 0, 0, 0), (124, 125, 31, 0, 0, 0, 0), (125, 126, 3, 0, 0, 0, 0), (126, 129, 27, 10, 7, 0, 886), (129, 131, 0, 0, 0, 58, 0), (131, 132, 31, 0, 0, 0, 0), (132, 133, 3, 0, 0, 0, 0), (133, 136, 27, 10, 7, 0, 886), (136, 138, 0, 0, 0, 59, 0), (138, 139, 31, 0, 0, 0, 0), (139, 142, 39, 137, 3, 0, 1133), (142, 143, 43, 0, 0, 0, 0), (143, 145, 0, 0, 0, (-1000000002), 999), (145, 146, 43, 0, 0, 0, 0)]
/-- 161: FlagSignalsModel.lineOf(I)I -/
def fg_c161 : List fg_I := [(0, 1, 0, 0, 0, (-1), 0), (1, 2, 5, 2, 0, 0, 0), (2, 3, 3, 0, 0, 0, 0), (3, 6, 26, 10, 0, 0, 879), (6, 7, 0, 0, 0, 1, 0), (7, 8, 9, 0, 1, 0, 0), (8, 9, 5, 3, 0, 0, 0), (9, 10, 2, 3, 0, 0, 0), (10, 13, 23, 38, 2, 0, 0), (13, 14, 3, 0, 0, 0, 0), (14, 17, 27, 10, 7, 0, 886), (17, 19, 0, 0, 0, 43, 0), (19, 20, 2, 3, 0, 0, 0), (20, 21, 9, 0, 0, 0, 0), (21, 22, 31, 0, 0, 0, 0), (22, 23, 2, 1, 0, 0, 0), (23, 26, 24, 30, 1, 0, 0), (26, 27, 2, 3, 0, 0, 0), (27, 30, 22, 31, 0, 0, 0), (30, 31, 2, 2, 0, 0, 0), (31, 32, 5, 2, 0, 0, 0), (32, 35, 8, 3, 0, (-1), 0), (35, 38, 22, 9, 0, 0, 0), (38, 39, 2, 2, 0, 0, 0), (39, 40, 43, 0, 0, 0, 0)]
/-- 162: FlagSignalsModel.likeNow(I)I -/
def fg_c162 : List fg_I := [(0, 1, 3, 0, 0, 0, 0), (1, 2, 3, 0, 0, 0, 0), (2, 5, 27, 10, 7, 0, 886), (5, 7, 0, 0, 0, 58, 0), (7, 8, 31, 0, 0, 0, 0), (8, 9, 3, 0, 0, 0, 0), (9, 12, 27, 10, 7, 0, 886), (12, 14, 0, 0, 0, 59, 0), (14, 15, 31, 0, 0, 0, 0), (15, 18, 38, 138, 2, 0, 1129), (18, 19, 3, 0, 0, 0, 0), (19, 20, 2, 1, 0, 0, 0), (20, 23, 37, 140, 1, 0, 1139), (23, 24, 43, 0, 0, 0, 0)]
/-- 163: FlagSignalsModel.signal(II)I -/
def fg_c163 : List fg_I := [(0, 1, 3, 0, 0, 0, 0), (1, 2, 2, 1, 0, 0, 0), (2, 5, 37, 115, 1, 0, 1195), (5, 8, 23, 11, 1, 0, 0), (8, 10, 0, 0, 0, (-1000000001), 1057), (10, 11, 43, 0, 0, 0, 0), (11, 12, 2, 2, 0, 0, 0), (12, 13, 13, 0, 0, 0, 0), (13, 14, 1, 0, 0, 0, 0), (14, 17, 1, 6, 0, 0, 1199), (17, 20, 39, 110, 3, 0, 996), (20, 23, 23, 26, 1, 0, 0), (23, 25, 0, 0, 0, (-1000000002), 999), (25, 26, 43, 0, 0, 0, 0), (26, 27, 2, 2, 0, 0, 0), (27, 28, 13, 0, 0, 0, 0), (28, 29, 1, 1, 0, 0, 0), (29, 32, 1, 4, 0, 0, 1200), (32, 35, 39, 110, 3, 0, 996), (35, 38, 23, 65, 0, 0, 0), (38, 39, 2, 2, 0, 0, 0), (39, 40, 3, 0, 0, 0, 0), (40, 43, 27, 10, 5, 0, 884), (43, 44, 2, 1, 0, 0, 0), (44, 45, 31, 0, 0, 0, 0), (45, 48, 24, 63, 4, 0, 0), (48, 49, 3, 0, 0, 0, 0), (49, 52, 27, 10, 6, 0, 885), (52, 53, 0, 0, 0, 4, 0), (53, 54, 2, 1, 0, 0, 0), (54, 55, 9, 0, 2, 0, 0), (55, 56, 2, 2, 0, 0, 0), (56, 57, 9, 0, 0, 0, 0), (57, 58, 0, 0, 0, 1, 0), (58, 59, 9, 0, 1, 0, 0), (59, 60, 31, 0, 0, 0, 0), (60, 63, 22, 64, 0, 0, 0), (63, 64, 0, 0, 0, (-1), 0), (64, 65, 43, 0, 0, 0, 0), (65, 66, 2, 2, 0, 0, 0), (66, 69, 23, 78, 1, 0, 0), (69, 70, 3, 0, 0, 0, 0), (70, 73, 27, 10, 5, 0, 884), (73, 74, 2, 1, 0, 0, 0), (74, 75, 31, 0, 0, 0, 0), (75, 78, 22, 96, 0, 0, 0), (78, 79, 2, 2, 0, 0, 0), (79, 80, 0, 0, 0, 5, 0), (80, 83, 24, 91, 1, 0, 0), (83, 84, 3, 0, 0, 0, 0), (84, 85, 2, 1, 0, 0, 0), (85, 88, 37, 162, 1, 0, 1201), (88, 91, 22, 96, 0, 0, 0), (91, 92, 3, 0, 0, 0, 0), (92, 93, 2, 1, 0, 0, 0), (93, 96, 37, 161, 1, 0, 1205), (96, 97, 43, 0, 0, 0, 0)]
/-- 164: FlagSignalsModel.line(II)I -/
def fg_c164 : List fg_I := [(0, 1, 3, 0, 0, 0, 0), (1, 2, 2, 1, 0, 0, 0), (2, 5, 37, 113, 1, 0, 1213), (5, 8, 23, 11, 1, 0, 0), (8, 10, 0, 0, 0, (-1000000001), 1057), (10, 11, 43, 0, 0, 0, 0), (11, 12, 2, 2, 0, 0, 0), (12, 13, 13, 0, 0, 0, 0), (13, 14, 1, 0, 0, 0, 0), (14, 17, 1, 4, 0, 0, 1200), (17, 20, 39, 110, 3, 0, 996), (20, 23, 23, 26, 1, 0, 0), (23, 25, 0, 0, 0, (-1000000002), 999), (25, 26, 43, 0, 0, 0, 0), (26, 27, 2, 2, 0, 0, 0), (27, 30, 23, 42, 1, 0, 0), (30, 31, 3, 0, 0, 0, 0), (31, 34, 27, 10, 7, 0, 886), (34, 36, 0, 0, 0, 43, 0), (36, 37, 2, 1, 0, 0, 0), (37, 38, 9, 0, 0, 0, 0), (38, 39, 31, 0, 0, 0, 0), (39, 42, 22, 57, 0, 0, 0), (42, 43, 3, 0, 0, 0, 0), (43, 46, 27, 10, 7, 0, 886), (46, 48, 0, 0, 0, 46, 0), (48, 49, 0, 0, 0, 4, 0), (49, 50, 2, 1, 0, 0, 0), (50, 51, 9, 0, 2, 0, 0), (51, 52, 9, 0, 0, 0, 0), (52, 53, 2, 2, 0, 0, 0), (53, 54, 9, 0, 0, 0, 0), (54, 55, 0, 0, 0, 1, 0), (55, 56, 9, 0, 1, 0, 0), (56, 57, 31, 0, 0, 0, 0), (57, 58, 43, 0, 0, 0, 0)]
/-- 165: FlagSignalsModel.needs(II)I -/
def fg_c165 : List fg_I := [(0, 1, 3, 0, 0, 0, 0), (1, 2, 2, 1, 0, 0, 0), (2, 5, 37, 115, 1, 0, 1195), (5, 8, 23, 11, 1, 0, 0), (8, 10, 0, 0, 0, (-1000000001), 1057), (10, 11, 43, 0, 0, 0, 0), (11, 12, 2, 2, 0, 0, 0), (12, 13, 13, 0, 0, 0, 0), (13, 14, 1, 1, 0, 0, 0), (14, 17, 1, 4, 0, 0, 1200), (17, 20, 39, 110, 3, 0, 996), (20, 23, 23, 26, 1, 0, 0), (23, 25, 0, 0, 0, (-1000000002), 999), (25, 26, 43, 0, 0, 0, 0), (26, 27, 3, 0, 0, 0, 0), (27, 28, 2, 1, 0, 0, 0), (28, 29, 3, 0, 0, 0, 0), (29, 32, 37, 128, 0, 0, 1109), (32, 33, 3, 0, 0, 0, 0), (33, 36, 37, 130, 0, 0, 1117), (36, 39, 37, 134, 3, 0, 1076), (39, 42, 23, 53, 0, 0, 0), (42, 43, 3, 0, 0, 0, 0), (43, 46, 27, 10, 21, 0, 900), (46, 47, 2, 2, 0, 0, 0), (47, 48, 0, 0, 0, 1, 0), (48, 49, 9, 0, 1, 0, 0), (49, 50, 31, 0, 0, 0, 0), (50, 53, 22, 54, 0, 0, 0), (53, 54, 0, 0, 0, (-1), 0), (54, 55, 43, 0, 0, 0, 0)]
/-- 166: FlagSignalsModel.remember()V -/
def fg_c166 : List fg_I := [(0, 1, 3, 0, 0, 0, 0), (1, 4, 26, 10, 30, 0, 909), (4, 6, 0, 0, 0, 16, 0), (6, 9, 24, 50, 1, 0, 0), (9, 11, 0, 0, 0, 61, 0), (11, 12, 5, 1, 0, 0, 0), (12, 13, 2, 1, 0, 0, 0), (13, 16, 0, 0, 0, 976, 0), (16, 19, 24, 40, 3, 0, 0), (19, 20, 3, 0, 0, 0, 0), (20, 23, 27, 10, 31, 0, 910), (23, 24, 2, 1, 0, 0, 0), (24, 26, 0, 0, 0, 61, 0), (26, 27, 9, 0, 1, 0, 0), (27, 28, 3, 0, 0, 0, 0), (28, 31, 27, 10, 31, 0, 910), (31, 32, 2, 1, 0, 0, 0), (32, 33, 31, 0, 0, 0, 0), (33, 34, 32, 0, 0, 0, 0), (34, 37, 8, 1, 0, 1, 0), (37, 40, 22, 12, 0, 0, 0), (40, 41, 3, 0, 0, 0, 0), (41, 42, 19, 0, 0, 0, 0), (42, 45, 26, 10, 30, 0, 909), (45, 46, 0, 0, 0, 1, 0), (46, 47, 9, 0, 1, 0, 0), (47, 50, 28, 10, 30, 0, 909), (50, 51, 0, 0, 0, 0, 0), (51, 52, 5, 1, 0, 0, 0), (52, 53, 2, 1, 0, 0, 0), (53, 55, 0, 0, 0, 61, 0), (55, 58, 24, 84, 3, 0, 0), (58, 59, 3, 0, 0, 0, 0), (59, 62, 27, 10, 31, 0, 910), (62, 64, 0, 0, 0, 61, 0), (64, 65, 3, 0, 0, 0, 0), (65, 68, 26, 10, 30, 0, 909), (68, 69, 9, 0, 2, 0, 0), (69, 70, 2, 1, 0, 0, 0), (70, 71, 9, 0, 0, 0, 0), (71, 72, 3, 0, 0, 0, 0), (72, 75, 27, 10, 7, 0, 886), (75, 76, 2, 1, 0, 0, 0), (76, 77, 31, 0, 0, 0, 0), (77, 78, 32, 0, 0, 0, 0), (78, 81, 8, 1, 0, 1, 0), (81, 84, 22, 52, 0, 0, 0), (84, 85, 3, 0, 0, 0, 0), (85, 86, 19, 0, 0, 0, 0), (86, 89, 26, 10, 30, 0, 909), (89, 90, 0, 0, 0, 1, 0), (90, 91, 9, 0, 0, 0, 0), (91, 94, 28, 10, 30, 0, 909), (94, 95, 45, 0, 0, 0, 0)]
/-- 167: FlagSignalsModel.canHoist(II)Z -/
def fg_c167 : List fg_I := [(0, 1, 3, 0, 0, 0, 0), (1, 4, 27, 10, 7, 0, 886), (4, 6, 0, 0, 0, 43, 0), (6, 7, 2, 1, 0, 0, 0), (7, 8, 9, 0, 0, 0, 0), (8, 9, 31, 0, 0, 0, 0), (9, 10, 0, 0, 0, (-1), 0), (10, 13, 24, 33, 1, 0, 0), (13, 14, 3, 0, 0, 0, 0), (14, 15, 2, 2, 0, 0, 0), (15, 16, 3, 0, 0, 0, 0), (16, 19, 37, 128, 0, 0, 1109), (19, 20, 3, 0, 0, 0, 0), (20, 23, 37, 130, 0, 0, 1117), (23, 26, 37, 134, 3, 0, 1076), (26, 29, 23, 33, 0, 0, 0), (29, 30, 0, 0, 0, 1, 0), (30, 33, 22, 34, 0, 0, 0), (33, 34, 0, 0, 0, 0, 0), (34, 35, 44, 0, 0, 0, 0)]
/-- 168: FlagSignalsModel.hoistRow(II)I -/
def fg_c168 : List fg_I := [(0, 1, 0, 0, 0, 0, 0), (1, 2, 5, 3, 0, 0, 0), (2, 3, 0, 0, 0, 0, 0), (3, 5, 5, 4, 0, 0, 0), (5, 7, 2, 4, 0, 0, 0), (7, 8, 0, 0, 0, 4, 0), (8, 11, 24, 104, 3, 0, 0), (11, 12, 3, 0, 0, 0, 0), (12, 15, 27, 10, 7, 0, 886), (15, 17, 0, 0, 0, 46, 0), (17, 18, 0, 0, 0, 4, 0), (18, 19, 2, 1, 0, 0, 0), (19, 20, 9, 0, 2, 0, 0), (20, 21, 9, 0, 0, 0, 0), (21, 23, 2, 4, 0, 0, 0), (23, 24, 9, 0, 0, 0, 0), (24, 25, 3, 0, 0, 0, 0), (25, 28, 27, 10, 21, 0, 900), (28, 30, 2, 4, 0, 0, 0), (30, 31, 31, 0, 0, 0, 0), (31, 32, 32, 0, 0, 0, 0), (32, 33, 3, 0, 0, 0, 0), (33, 36, 27, 10, 21, 0, 900), (36, 38, 2, 4, 0, 0, 0), (38, 39, 31, 0, 0, 0, 0), (39, 41, 0, 0, 0, 20, 0), (41, 44, 24, 71, 5, 0, 0), (44, 45, 3, 0, 0, 0, 0), (45, 48, 27, 10, 7, 0, 886), (48, 50, 0, 0, 0, 40, 0), (50, 51, 3, 0, 0, 0, 0), (51, 54, 27, 10, 21, 0, 900), (54, 56, 2, 4, 0, 0, 0), (56, 57, 31, 0, 0, 0, 0), (57, 58, 9, 0, 0, 0, 0), (58, 60, 0, 0, 0, 20, 0), (60, 61, 9, 0, 1, 0, 0), (61, 62, 0, 0, 0, 1, 0), (62, 63, 9, 0, 1, 0, 0), (63, 64, 2, 1, 0, 0, 0), (64, 65, 32, 0, 0, 0, 0), (65, 68, 8, 3, 0, 1, 0), (68, 71, 22, 98, 0, 0, 0), (71, 72, 3, 0, 0, 0, 0), (72, 75, 27, 10, 21, 0, 900), (75, 77, 2, 4, 0, 0, 0), (77, 78, 31, 0, 0, 0, 0), (78, 79, 0, 0, 0, (-1), 0), (79, 82, 24, 98, 0, 0, 0), (82, 83, 3, 0, 0, 0, 0), (83, 86, 27, 10, 7, 0, 886), (86, 88, 0, 0, 0, 20, 0), (88, 89, 3, 0, 0, 0, 0), (89, 92, 27, 10, 21, 0, 900), (92, 94, 2, 4, 0, 0, 0), (94, 95, 31, 0, 0, 0, 0), (95, 96, 9, 0, 0, 0, 0), (96, 97, 2, 1, 0, 0, 0), (97, 98, 32, 0, 0, 0, 0), (98, 101, 8, 4, 0, 1, 0), (101, 104, 22, 5, 0, 0, 0), (104, 105, 3, 0, 0, 0, 0), (105, 108, 27, 10, 7, 0, 886), (108, 110, 0, 0, 0, 43, 0), (110, 111, 2, 1, 0, 0, 0), (111, 112, 9, 0, 0, 0, 0), (112, 113, 2, 2, 0, 0, 0), (113, 114, 32, 0, 0, 0, 0), (114, 115, 2, 3, 0, 0, 0), (115, 116, 43, 0, 0, 0, 0)]
/-- 169: FlagSignalsModel.hoist(II)I -/
def fg_c169 : List fg_I := [(0, 1, 3, 0, 0, 0, 0), (1, 2, 2, 1, 0, 0, 0), (2, 5, 37, 113, 1, 0, 1213), (5, 8, 23, 16, 0, 0, 0), (8, 9, 3, 0, 0, 0, 0), (9, 10, 2, 2, 0, 0, 0), (10, 13, 37, 115, 1, 0, 1195), (13, 16, 23, 19, 1, 0, 0), (16, 18, 0, 0, 0, (-1000000001), 1057), (18, 19, 43, 0, 0, 0, 0), (19, 20, 3, 0, 0, 0, 0), (20, 21, 2, 1, 0, 0, 0), (21, 22, 2, 2, 0, 0, 0), (22, 25, 37, 167, 2, 0, 1225), (25, 28, 23, 32, 1, 0, 0), (28, 31, 0, 0, 0, (-1000000003), 1229), (31, 32, 43, 0, 0, 0, 0), (32, 33, 3, 0, 0, 0, 0), (33, 36, 38, 166, 0, 0, 1230), (36, 37, 3, 0, 0, 0, 0), (37, 38, 2, 1, 0, 0, 0), (38, 39, 2, 2, 0, 0, 0), (39, 42, 37, 168, 2, 0, 1234), (42, 43, 43, 0, 0, 0, 0)]
/-- 170: FlagSignalsModel.haulNow(I)I -/
def fg_c170 : List fg_I := [(0, 1, 3, 0, 0, 0, 0), (1, 4, 27, 10, 7, 0, 886), (4, 6, 0, 0, 0, 43, 0), (6, 7, 2, 1, 0, 0, 0), (7, 8, 9, 0, 0, 0, 0), (8, 9, 31, 0, 0, 0, 0), (9, 10, 5, 2, 0, 0, 0), (10, 11, 3, 0, 0, 0, 0), (11, 14, 27, 10, 7, 0, 886), (14, 16, 0, 0, 0, 43, 0), (16, 17, 2, 1, 0, 0, 0), (17, 18, 9, 0, 0, 0, 0), (18, 19, 0, 0, 0, (-1), 0), (19, 20, 32, 0, 0, 0, 0), (20, 21, 0, 0, 0, 0, 0), (21, 22, 5, 3, 0, 0, 0), (22, 23, 2, 3, 0, 0, 0), (23, 24, 0, 0, 0, 4, 0), (24, 27, 24, 47, 3, 0, 0), (27, 28, 3, 0, 0, 0, 0), (28, 31, 27, 10, 7, 0, 886), (31, 33, 0, 0, 0, 46, 0), (33, 34, 0, 0, 0, 4, 0), (34, 35, 2, 1, 0, 0, 0), (35, 36, 9, 0, 2, 0, 0), (36, 37, 9, 0, 0, 0, 0), (37, 38, 2, 3, 0, 0, 0), (38, 39, 9, 0, 0, 0, 0), (39, 40, 0, 0, 0, (-1), 0), (40, 41, 32, 0, 0, 0, 0), (41, 44, 8, 3, 0, 1, 0), (44, 47, 22, 22, 0, 0, 0), (47, 48, 0, 0, 0, 0, 0), (48, 49, 5, 3, 0, 0, 0), (49, 50, 2, 3, 0, 0, 0), (50, 52, 0, 0, 0, 10, 0), (52, 55, 24, 96, 3, 0, 0), (55, 56, 3, 0, 0, 0, 0), (56, 59, 27, 10, 7, 0, 886), (59, 61, 0, 0, 0, 20, 0), (61, 62, 2, 3, 0, 0, 0), (62, 63, 9, 0, 0, 0, 0), (63, 64, 3, 0, 0, 0, 0), (64, 67, 27, 10, 7, 0, 886), (67, 69, 0, 0, 0, 20, 0), (69, 70, 2, 3, 0, 0, 0), (70, 71, 9, 0, 0, 0, 0), (71, 72, 31, 0, 0, 0, 0), (72, 73, 2, 1, 0, 0, 0), (73, 76, 24, 80, 1, 0, 0), (76, 77, 0, 0, 0, (-1), 0), (77, 80, 22, 89, 0, 0, 0), (80, 81, 3, 0, 0, 0, 0), (81, 84, 27, 10, 7, 0, 886), (84, 86, 0, 0, 0, 20, 0), (86, 87, 2, 3, 0, 0, 0), (87, 88, 9, 0, 0, 0, 0), (88, 89, 31, 0, 0, 0, 0), (89, 90, 32, 0, 0, 0, 0), (90, 93, 8, 3, 0, 1, 0), (93, 96, 22, 49, 0, 0, 0), (96, 97, 0, 0, 0, 0, 0), (97, 98, 5, 3, 0, 0, 0), (98, 99, 2, 3, 0, 0, 0), (99, 100, 0, 0, 0, 3, 0), (100, 103, 24, 144, 3, 0, 0), (103, 104, 3, 0, 0, 0, 0), (104, 107, 27, 10, 7, 0, 886), (107, 109, 0, 0, 0, 40, 0), (109, 110, 2, 3, 0, 0, 0), (110, 111, 9, 0, 0, 0, 0), (111, 112, 3, 0, 0, 0, 0), (112, 115, 27, 10, 7, 0, 886), (115, 117, 0, 0, 0, 40, 0), (117, 118, 2, 3, 0, 0, 0), (118, 119, 9, 0, 0, 0, 0), (119, 120, 31, 0, 0, 0, 0), (120, 121, 2, 1, 0, 0, 0), (121, 124, 24, 128, 1, 0, 0), (124, 125, 0, 0, 0, (-1), 0), (125, 128, 22, 137, 0, 0, 0), (128, 129, 3, 0, 0, 0, 0), (129, 132, 27, 10, 7, 0, 886), (132, 134, 0, 0, 0, 40, 0), (134, 135, 2, 3, 0, 0, 0), (135, 136, 9, 0, 0, 0, 0), (136, 137, 31, 0, 0, 0, 0), (137, 138, 32, 0, 0, 0, 0), (138, 141, 8, 3, 0, 1, 0), (141, 144, 22, 98, 0, 0, 0), (144, 145, 2, 2, 0, 0, 0), (145, 146, 43, 0, 0, 0, 0)]
/-- 171: FlagSignalsModel.haul(I)I -/
def fg_c171 : List fg_I := [(0, 1, 3, 0, 0, 0, 0), (1, 2, 2, 1, 0, 0, 0), (2, 5, 37, 113, 1, 0, 1213), (5, 8, 23, 11, 1, 0, 0), (8, 10, 0, 0, 0, (-1000000001), 1057), (10, 11, 43, 0, 0, 0, 0), (11, 12, 3, 0, 0, 0, 0), (12, 15, 27, 10, 7, 0, 886), (15, 17, 0, 0, 0, 43, 0), (17, 18, 2, 1, 0, 0, 0), (18, 19, 9, 0, 0, 0, 0), (19, 20, 31, 0, 0, 0, 0), (20, 21, 0, 0, 0, (-1), 0), (21, 24, 24, 28, 1, 0, 0), (24, 27, 0, 0, 0, (-1000000003), 1229), (27, 28, 43, 0, 0, 0, 0), (28, 29, 3, 0, 0, 0, 0), (29, 32, 38, 166, 0, 0, 1230), (32, 33, 3, 0, 0, 0, 0), (33, 34, 2, 1, 0, 0, 0), (34, 37, 37, 170, 1, 0, 1242), (37, 38, 43, 0, 0, 0, 0)]
/-- 172: FlagSignalsModel.pass()V -/
def fg_c172 : List fg_I := [(0, 1, 0, 0, 0, 0, 0), (1, 2, 5, 1, 0, 0, 0), (2, 3, 2, 1, 0, 0, 0), (3, 4, 3, 0, 0, 0, 0), (4, 7, 26, 10, 2, 0, 881), (7, 10, 24, 107, 3, 0, 0), (10, 11, 3, 0, 0, 0, 0), (11, 14, 27, 10, 7, 0, 886), (14, 16, 0, 0, 0, 20, 0), (16, 17, 2, 1, 0, 0, 0), (17, 18, 9, 0, 0, 0, 0), (18, 19, 31, 0, 0, 0, 0), (19, 20, 0, 0, 0, (-1), 0), (20, 23, 24, 39, 0, 0, 0), (23, 24, 3, 0, 0, 0, 0), (24, 27, 27, 10, 7, 0, 886), (27, 29, 0, 0, 0, 30, 0), (29, 30, 2, 1, 0, 0, 0), (30, 31, 9, 0, 0, 0, 0), (31, 32, 31, 0, 0, 0, 0), (32, 35, 23, 39, 1, 0, 0), (35, 36, 0, 0, 0, 1, 0), (36, 39, 22, 40, 0, 0, 0), (39, 40, 0, 0, 0, 0, 0), (40, 41, 5, 2, 0, 0, 0), (41, 42, 3, 0, 0, 0, 0), (42, 45, 27, 10, 7, 0, 886), (45, 47, 0, 0, 0, 10, 0), (47, 48, 2, 1, 0, 0, 0), (48, 49, 9, 0, 0, 0, 0), (49, 50, 21, 0, 0, 0, 0), (50, 51, 31, 0, 0, 0, 0), (51, 52, 2, 2, 0, 0, 0), (52, 55, 23, 59, 0, 0, 0), (55, 56, 0, 0, 0, 1, 0), (56, 59, 22, 60, 0, 0, 0), (59, 60, 0, 0, 0, 0, 0), (60, 61, 9, 0, 0, 0, 0), (61, 62, 32, 0, 0, 0, 0), (62, 63, 3, 0, 0, 0, 0), (63, 66, 27, 10, 7, 0, 886), (66, 68, 0, 0, 0, 30, 0), (68, 69, 2, 1, 0, 0, 0), (69, 70, 9, 0, 0, 0, 0), (70, 71, 2, 2, 0, 0, 0), (71, 74, 23, 91, 0, 0, 0), (74, 75, 3, 0, 0, 0, 0), (75, 78, 27, 10, 7, 0, 886), (78, 80, 0, 0, 0, 10, 0), (80, 81, 2, 1, 0, 0, 0), (81, 82, 9, 0, 0, 0, 0), (82, 83, 31, 0, 0, 0, 0), (83, 84, 0, 0, 0, 5, 0), (84, 87, 24, 91, 1, 0, 0), (87, 88, 0, 0, 0, 1, 0), (88, 91, 22, 100, 0, 0, 0), (91, 92, 3, 0, 0, 0, 0), (92, 95, 27, 10, 7, 0, 886), (95, 97, 0, 0, 0, 30, 0), (97, 98, 2, 1, 0, 0, 0), (98, 99, 9, 0, 0, 0, 0), (99, 100, 31, 0, 0, 0, 0), (100, 101, 32, 0, 0, 0, 0), (101, 104, 8, 1, 0, 1, 0), (104, 107, 22, 2, 0, 0, 0), (107, 108, 3, 0, 0, 0, 0), (108, 111, 27, 10, 7, 0, 886), (111, 113, 0, 0, 0, 60, 0), (113, 114, 21, 0, 0, 0, 0), (114, 115, 31, 0, 0, 0, 0), (115, 116, 0, 0, 0, 1, 0), (116, 117, 9, 0, 0, 0, 0), (117, 118, 32, 0, 0, 0, 0), (118, 119, 45, 0, 0, 0, 0)]
/-- 173: FlagSignalsModel.daysRefused(I)I -/
def fg_c173 : List fg_I := [(0, 1, 2, 1, 0, 0, 0), (1, 2, 13, 0, 0, 0, 0), (2, 3, 1, 1, 0, 0, 0), (3, 6, 1, 60, 0, 0, 1254), (6, 9, 39, 110, 3, 0, 996), (9, 12, 23, 15, 1, 0, 0), (12, 14, 0, 0, 0, (-1000000002), 999), (14, 15, 43, 0, 0, 0, 0), (15, 16, 3, 0, 0, 0, 0), (16, 19, 26, 10, 0, 0, 879), (19, 22, 23, 28, 1, 0, 0), (22, 25, 0, 0, 0, (-1000000003), 1229), (25, 28, 22, 47, 0, 0, 0), (28, 29, 3, 0, 0, 0, 0), (29, 32, 27, 10, 7, 0, 886), (32, 34, 0, 0, 0, 60, 0), (34, 35, 31, 0, 0, 0, 0), (35, 38, 0, 0, 0, 9000, 0), (38, 41, 24, 46, 5, 0, 0), (41, 43, 0, 0, 0, (-1000000004), 1000), (43, 46, 22, 47, 0, 0, 0), (46, 47, 0, 0, 0, 0, 0), (47, 48, 43, 0, 0, 0, 0)]
/-- 174: FlagSignalsModel.day(I)I -/
def fg_c174 : List fg_I := [(0, 1, 3, 0, 0, 0, 0), (1, 2, 2, 1, 0, 0, 0), (2, 5, 37, 173, 1, 0, 1250), (5, 6, 5, 2, 0, 0, 0), (6, 7, 2, 2, 0, 0, 0), (7, 10, 23, 12, 0, 0, 0), (10, 11, 2, 2, 0, 0, 0), (11, 12, 43, 0, 0, 0, 0), (12, 13, 3, 0, 0, 0, 0), (13, 16, 38, 166, 0, 0, 1230), (16, 17, 0, 0, 0, 0, 0), (17, 18, 5, 3, 0, 0, 0), (18, 19, 2, 3, 0, 0, 0), (19, 20, 2, 1, 0, 0, 0), (20, 23, 24, 33, 3, 0, 0), (23, 24, 3, 0, 0, 0, 0), (24, 27, 38, 172, 0, 0, 1255), (27, 30, 8, 3, 0, 1, 0), (30, 33, 22, 18, 0, 0, 0), (33, 34, 3, 0, 0, 0, 0), (34, 37, 37, 129, 0, 0, 1062), (37, 38, 43, 0, 0, 0, 0)]
/-- 175: FlagSignalsModel.canSew(I)Z -/
def fg_c175 : List fg_I := [(0, 1, 3, 0, 0, 0, 0), (1, 4, 27, 10, 7, 0, 886), (4, 6, 0, 0, 0, 20, 0), (6, 7, 2, 1, 0, 0, 0), (7, 8, 9, 0, 0, 0, 0), (8, 9, 31, 0, 0, 0, 0), (9, 10, 0, 0, 0, (-1), 0), (10, 13, 24, 30, 1, 0, 0), (13, 14, 3, 0, 0, 0, 0), (14, 17, 27, 10, 7, 0, 886), (17, 19, 0, 0, 0, 30, 0), (19, 20, 2, 1, 0, 0, 0), (20, 21, 9, 0, 0, 0, 0), (21, 22, 31, 0, 0, 0, 0), (22, 23, 0, 0, 0, 1, 0), (23, 26, 24, 30, 1, 0, 0), (26, 27, 0, 0, 0, 1, 0), (27, 30, 22, 31, 0, 0, 0), (30, 31, 0, 0, 0, 0, 0), (31, 32, 44, 0, 0, 0, 0)]
/-- 176: FlagSignalsModel.sewNow(I)V -/
def fg_c176 : List fg_I := [(0, 1, 3, 0, 0, 0, 0), (1, 4, 27, 10, 7, 0, 886), (4, 6, 0, 0, 0, 30, 0), (6, 7, 2, 1, 0, 0, 0), (7, 8, 9, 0, 0, 0, 0), (8, 9, 0, 0, 0, 0, 0), (9, 10, 32, 0, 0, 0, 0), (10, 11, 3, 0, 0, 0, 0), (11, 14, 27, 10, 7, 0, 886), (14, 16, 0, 0, 0, 10, 0), (16, 17, 2, 1, 0, 0, 0), (17, 18, 9, 0, 0, 0, 0), (18, 19, 0, 0, 0, 0, 0), (19, 20, 32, 0, 0, 0, 0), (20, 21, 45, 0, 0, 0, 0)]
/-- 177: FlagSignalsModel.sew(I)I -/
def fg_c177 : List fg_I := [(0, 1, 3, 0, 0, 0, 0), (1, 2, 2, 1, 0, 0, 0), (2, 5, 37, 114, 1, 0, 1187), (5, 8, 23, 11, 1, 0, 0), (8, 10, 0, 0, 0, (-1000000001), 1057), (10, 11, 43, 0, 0, 0, 0), (11, 12, 3, 0, 0, 0, 0), (12, 13, 2, 1, 0, 0, 0), (13, 16, 37, 175, 1, 0, 1263), (16, 19, 23, 23, 1, 0, 0), (19, 22, 0, 0, 0, (-1000000003), 1229), (22, 23, 43, 0, 0, 0, 0), (23, 24, 3, 0, 0, 0, 0), (24, 27, 38, 166, 0, 0, 1230), (27, 28, 3, 0, 0, 0, 0), (28, 31, 27, 10, 7, 0, 886), (31, 33, 0, 0, 0, 10, 0), (33, 34, 2, 1, 0, 0, 0), (34, 35, 9, 0, 0, 0, 0), (35, 36, 31, 0, 0, 0, 0), (36, 37, 5, 2, 0, 0, 0), (37, 38, 3, 0, 0, 0, 0), (38, 39, 2, 1, 0, 0, 0), (39, 42, 38, 176, 1, 0, 1267), (42, 43, 2, 2, 0, 0, 0), (43, 44, 43, 0, 0, 0, 0)]
/-- 178: FlagSignalsModel.anew(IIII)I -/
def fg_c178 : List fg_I := [(0, 1, 3, 0, 0, 0, 0), (1, 2, 2, 1, 0, 0, 0), (2, 5, 37, 114, 1, 0, 1187), (5, 8, 23, 11, 1, 0, 0), (8, 10, 0, 0, 0, (-1000000001), 1057), (10, 11, 43, 0, 0, 0, 0), (11, 12, 2, 2, 0, 0, 0), (12, 13, 13, 0, 0, 0, 0), (13, 14, 1, 0, 0, 0, 0), (14, 17, 1, 3, 0, 0, 1275), (17, 20, 39, 110, 3, 0, 996), (20, 23, 23, 48, 0, 0, 0), (23, 24, 2, 3, 0, 0, 0), (24, 25, 13, 0, 0, 0, 0), (25, 26, 1, 0, 0, 0, 0), (26, 29, 1, 4, 0, 0, 1200), (29, 32, 39, 110, 3, 0, 996), (32, 35, 23, 48, 0, 0, 0), (35, 37, 2, 4, 0, 0, 0), (37, 38, 13, 0, 0, 0, 0), (38, 39, 1, 0, 0, 0, 0), (39, 42, 1, 4, 0, 0, 1200), (42, 45, 39, 110, 3, 0, 996), (45, 48, 23, 51, 1, 0, 0), (48, 50, 0, 0, 0, (-1000000002), 999), (50, 51, 43, 0, 0, 0, 0), (51, 52, 3, 0, 0, 0, 0), (52, 55, 27, 10, 7, 0, 886), (55, 57, 0, 0, 0, 20, 0), (57, 58, 2, 1, 0, 0, 0), (58, 59, 9, 0, 0, 0, 0), (59, 60, 31, 0, 0, 0, 0), (60, 61, 0, 0, 0, (-1), 0), (61, 64, 24, 68, 0, 0, 0), (64, 67, 0, 0, 0, (-1000000003), 1229), (67, 68, 43, 0, 0, 0, 0), (68, 69, 3, 0, 0, 0, 0), (69, 72, 38, 166, 0, 0, 1230), (72, 73, 3, 0, 0, 0, 0), (73, 74, 2, 1, 0, 0, 0), (74, 77, 38, 176, 1, 0, 1267), (77, 78, 3, 0, 0, 0, 0), (78, 81, 27, 10, 7, 0, 886), (81, 82, 2, 1, 0, 0, 0), (82, 84, 0, 0, 0, 100, 0), (84, 85, 2, 2, 0, 0, 0), (85, 86, 9, 0, 2, 0, 0), (86, 88, 0, 0, 0, 10, 0), (88, 89, 2, 3, 0, 0, 0), (89, 90, 9, 0, 2, 0, 0), (90, 91, 9, 0, 0, 0, 0), (91, 93, 2, 4, 0, 0, 0), (93, 94, 9, 0, 0, 0, 0), (94, 95, 32, 0, 0, 0, 0), (95, 96, 3, 0, 0, 0, 0), (96, 99, 37, 142, 0, 0, 1121), (99, 100, 43, 0, 0, 0, 0)]
/-- 179: FlagSignalsModel.weather(IZ)I -/
def fg_c179 : List fg_I := [(0, 1, 2, 1, 0, 0, 0), (1, 2, 13, 0, 0, 0, 0), (2, 3, 1, 0, 0, 0, 0), (3, 6, 1, 2, 0, 0, 1280), (6, 9, 39, 110, 3, 0, 996), (9, 12, 23, 15, 1, 0, 0), (12, 14, 0, 0, 0, (-1000000002), 999), (14, 15, 43, 0, 0, 0, 0), (15, 16, 2, 2, 0, 0, 0), (16, 19, 23, 23, 0, 0, 0), (19, 20, 0, 0, 0, 1, 0), (20, 23, 22, 24, 0, 0, 0), (23, 24, 0, 0, 0, 0, 0), (24, 25, 5, 3, 0, 0, 0), (25, 26, 3, 0, 0, 0, 0), (26, 29, 26, 10, 0, 0, 879), (29, 32, 23, 54, 0, 0, 0), (32, 33, 3, 0, 0, 0, 0), (33, 36, 27, 10, 7, 0, 886), (36, 38, 0, 0, 0, 58, 0), (38, 39, 31, 0, 0, 0, 0), (39, 40, 2, 1, 0, 0, 0), (40, 43, 24, 58, 1, 0, 0), (43, 44, 3, 0, 0, 0, 0), (44, 47, 27, 10, 7, 0, 886), (47, 49, 0, 0, 0, 59, 0), (49, 50, 31, 0, 0, 0, 0), (50, 51, 2, 3, 0, 0, 0), (51, 54, 24, 58, 1, 0, 0), (54, 57, 0, 0, 0, (-1000000003), 1229), (57, 58, 43, 0, 0, 0, 0), (58, 59, 3, 0, 0, 0, 0), (59, 62, 38, 166, 0, 0, 1230), (62, 63, 3, 0, 0, 0, 0), (63, 66, 27, 10, 7, 0, 886), (66, 68, 0, 0, 0, 58, 0), (68, 69, 2, 1, 0, 0, 0), (69, 70, 32, 0, 0, 0, 0), (70, 71, 3, 0, 0, 0, 0), (71, 74, 27, 10, 7, 0, 886), (74, 76, 0, 0, 0, 59, 0), (76, 77, 2, 3, 0, 0, 0), (77, 78, 32, 0, 0, 0, 0), (78, 79, 3, 0, 0, 0, 0), (79, 82, 37, 142, 0, 0, 1121), (82, 83, 43, 0, 0, 0, 0)]
/-- 180: FlagSignalsModel.draw(I)I -/
def fg_c180 : List fg_I := [(0, 1, 3, 0, 0, 0, 0), (1, 2, 3, 0, 0, 0, 0), (2, 5, 26, 10, 8, 0, 887), (5, 6, 13, 0, 0, 0, 0), (6, 9, 1, 1103515245, 0, 0, 1293), (9, 10, 15, 0, 1, 0, 0), (10, 13, 1, 12345, 0, 0, 1294), (13, 14, 15, 0, 0, 0, 0), (14, 17, 1, 2147483648, 0, 0, 1295), (17, 18, 17, 0, 0, 0, 0), (18, 19, 14, 0, 0, 0, 0), (19, 22, 28, 10, 8, 0, 887), (22, 23, 3, 0, 0, 0, 0), (23, 26, 26, 10, 8, 0, 887), (26, 29, 0, 0, 0, 65536, 1296), (29, 30, 10, 0, 0, 0, 0), (30, 31, 2, 1, 0, 0, 0), (31, 32, 11, 0, 0, 0, 0), (32, 33, 43, 0, 0, 0, 0)]
/-- 181: FlagSignalsModel.chanceHoist(I)V -/
def fg_c181 : List fg_I := [(0, 1, 3, 0, 0, 0, 0), (1, 2, 3, 0, 0, 0, 0), (2, 5, 26, 10, 4, 0, 883), (5, 8, 37, 180, 1, 0, 1289), (8, 9, 5, 2, 0, 0, 0), (9, 10, 3, 0, 0, 0, 0), (10, 11, 2, 1, 0, 0, 0), (11, 12, 2, 2, 0, 0, 0), (12, 15, 37, 167, 2, 0, 1225), (15, 18, 23, 25, 0, 0, 0), (18, 19, 3, 0, 0, 0, 0), (19, 20, 2, 1, 0, 0, 0), (20, 21, 2, 2, 0, 0, 0), (21, 24, 37, 168, 2, 0, 1234), (24, 25, 5, 3, 0, 0, 0), (25, 26, 45, 0, 0, 0, 0)]
/-- 182: FlagSignalsModel.chanceSew()V -/
def fg_c182 : List fg_I := [(0, 1, 3, 0, 0, 0, 0), (1, 2, 3, 0, 0, 0, 0), (2, 5, 26, 10, 2, 0, 881), (5, 8, 37, 180, 1, 0, 1289), (8, 9, 5, 1, 0, 0, 0), (9, 10, 3, 0, 0, 0, 0), (10, 11, 2, 1, 0, 0, 0), (11, 14, 37, 175, 1, 0, 1263), (14, 17, 23, 22, 0, 0, 0), (17, 18, 3, 0, 0, 0, 0), (18, 19, 2, 1, 0, 0, 0), (19, 22, 38, 176, 1, 0, 1267), (22, 23, 45, 0, 0, 0, 0)]
/-- 183: FlagSignalsModel.chance()V -/
def fg_c183 : List fg_I := [(0, 1, 3, 0, 0, 0, 0), (1, 2, 0, 0, 0, 5, 0), (2, 5, 37, 180, 1, 0, 1289), (5, 6, 5, 1, 0, 0, 0), (6, 7, 3, 0, 0, 0, 0), (7, 8, 3, 0, 0, 0, 0), (8, 11, 26, 10, 0, 0, 879), (11, 14, 37, 180, 1, 0, 1289), (14, 15, 5, 2, 0, 0, 0), (15, 16, 2, 1, 0, 0, 0), (16, 17, 0, 0, 0, 2, 0), (17, 20, 24, 35, 3, 0, 0), (20, 21, 3, 0, 0, 0, 0), (21, 24, 26, 10, 4, 0, 883), (24, 27, 23, 35, 5, 0, 0), (27, 28, 3, 0, 0, 0, 0), (28, 29, 2, 2, 0, 0, 0), (29, 32, 38, 181, 1, 0, 1297), (32, 35, 22, 110, 0, 0, 0), (35, 36, 2, 1, 0, 0, 0), (36, 37, 0, 0, 0, 2, 0), (37, 40, 24, 62, 1, 0, 0), (40, 41, 3, 0, 0, 0, 0), (41, 44, 27, 10, 7, 0, 886), (44, 46, 0, 0, 0, 43, 0), (46, 47, 2, 2, 0, 0, 0), (47, 48, 9, 0, 0, 0, 0), (48, 49, 31, 0, 0, 0, 0), (49, 50, 0, 0, 0, (-1), 0), (50, 53, 24, 62, 0, 0, 0), (53, 54, 3, 0, 0, 0, 0), (54, 55, 2, 2, 0, 0, 0), (55, 58, 37, 170, 1, 0, 1242), (58, 59, 5, 3, 0, 0, 0), (59, 62, 22, 110, 0, 0, 0), (62, 63, 2, 1, 0, 0, 0), (63, 64, 0, 0, 0, 3, 0), (64, 67, 24, 94, 1, 0, 0), (67, 68, 3, 0, 0, 0, 0), (68, 71, 27, 10, 7, 0, 886), (71, 73, 0, 0, 0, 58, 0), (73, 74, 3, 0, 0, 0, 0), (74, 75, 0, 0, 0, 3, 0), (75, 78, 37, 180, 1, 0, 1289), (78, 79, 32, 0, 0, 0, 0), (79, 80, 3, 0, 0, 0, 0), (80, 83, 27, 10, 7, 0, 886), (83, 85, 0, 0, 0, 59, 0), (85, 86, 3, 0, 0, 0, 0), (86, 87, 0, 0, 0, 2, 0), (87, 90, 37, 180, 1, 0, 1289), (90, 91, 32, 0, 0, 0, 0), (91, 94, 22, 110, 0, 0, 0), (94, 95, 2, 1, 0, 0, 0), (95, 96, 0, 0, 0, 4, 0), (96, 99, 24, 110, 1, 0, 0), (99, 100, 3, 0, 0, 0, 0), (100, 103, 26, 10, 2, 0, 881), (103, 106, 23, 110, 5, 0, 0), (106, 107, 3, 0, 0, 0, 0), (107, 110, 38, 182, 0, 0, 1301), (110, 111, 45, 0, 0, 0, 0)]
/-- 184: FlagSignalsModel.drift(I)I -/
def fg_c184 : List fg_I := [(0, 1, 3, 0, 0, 0, 0), (1, 2, 2, 1, 0, 0, 0), (2, 5, 37, 173, 1, 0, 1250), (5, 6, 5, 2, 0, 0, 0), (6, 7, 2, 2, 0, 0, 0), (7, 10, 23, 12, 0, 0, 0), (10, 11, 2, 2, 0, 0, 0), (11, 12, 43, 0, 0, 0, 0), (12, 13, 3, 0, 0, 0, 0), (13, 16, 38, 166, 0, 0, 1230), (16, 17, 0, 0, 0, 0, 0), (17, 18, 5, 3, 0, 0, 0), (18, 19, 2, 3, 0, 0, 0), (19, 20, 2, 1, 0, 0, 0), (20, 23, 24, 37, 3, 0, 0), (23, 24, 3, 0, 0, 0, 0), (24, 27, 38, 183, 0, 0, 1285), (27, 28, 3, 0, 0, 0, 0), (28, 31, 38, 172, 0, 0, 1255), (31, 34, 8, 3, 0, 1, 0), (34, 37, 22, 18, 0, 0, 0), (37, 38, 3, 0, 0, 0, 0), (38, 41, 37, 129, 0, 0, 1062), (41, 42, 43, 0, 0, 0, 0)]
/-- 185: FlagSignalsModel.undo()I -/
def fg_c185 : List fg_I := [(0, 1, 3, 0, 0, 0, 0), (1, 4, 26, 10, 30, 0, 909), (4, 7, 23, 11, 1, 0, 0), (7, 10, 0, 0, 0, (-1000000003), 1229), (10, 11, 43, 0, 0, 0, 0), (11, 12, 3, 0, 0, 0, 0), (12, 13, 19, 0, 0, 0, 0), (13, 16, 26, 10, 30, 0, 909), (16, 17, 0, 0, 0, 1, 0), (17, 18, 9, 0, 1, 0, 0), (18, 21, 28, 10, 30, 0, 909), (21, 22, 0, 0, 0, 0, 0), (22, 23, 5, 1, 0, 0, 0), (23, 24, 2, 1, 0, 0, 0), (24, 26, 0, 0, 0, 61, 0), (26, 29, 24, 55, 3, 0, 0), (29, 30, 3, 0, 0, 0, 0), (30, 33, 27, 10, 7, 0, 886), (33, 34, 2, 1, 0, 0, 0), (34, 35, 3, 0, 0, 0, 0), (35, 38, 27, 10, 31, 0, 910), (38, 40, 0, 0, 0, 61, 0), (40, 41, 3, 0, 0, 0, 0), (41, 44, 26, 10, 30, 0, 909), (44, 45, 9, 0, 2, 0, 0), (45, 46, 2, 1, 0, 0, 0), (46, 47, 9, 0, 0, 0, 0), (47, 48, 31, 0, 0, 0, 0), (48, 49, 32, 0, 0, 0, 0), (49, 52, 8, 1, 0, 1, 0), (52, 55, 22, 23, 0, 0, 0), (55, 56, 3, 0, 0, 0, 0), (56, 59, 26, 10, 30, 0, 909), (59, 60, 43, 0, 0, 0, 0)]
/-- 186: FlagSignalsModel.look(IIZ)I -/
def fg_c186 : List fg_I := [(0, 1, 3, 0, 0, 0, 0), (1, 2, 2, 1, 0, 0, 0), (2, 5, 37, 114, 1, 0, 1187), (5, 8, 23, 11, 1, 0, 0), (8, 10, 0, 0, 0, (-1000000001), 1057), (10, 11, 43, 0, 0, 0, 0), (11, 12, 2, 2, 0, 0, 0), (12, 13, 13, 0, 0, 0, 0), (13, 14, 1, 0, 0, 0, 0), (14, 17, 1, 2, 0, 0, 1280), (17, 20, 39, 110, 3, 0, 996), (20, 23, 23, 45, 0, 0, 0), (23, 24, 3, 0, 0, 0, 0), (24, 27, 27, 10, 7, 0, 886), (27, 28, 2, 1, 0, 0, 0), (28, 29, 31, 0, 0, 0, 0), (29, 30, 2, 2, 0, 0, 0), (30, 31, 2, 3, 0, 0, 0), (31, 34, 23, 38, 0, 0, 0), (34, 35, 0, 0, 0, 1, 0), (35, 38, 22, 39, 0, 0, 0), (38, 39, 0, 0, 0, 0, 0), (39, 42, 39, 137, 3, 0, 1133), (42, 45, 22, 47, 0, 0, 0), (45, 47, 0, 0, 0, (-1000000002), 999), (47, 48, 43, 0, 0, 0, 0)]
/-- 187: FlagSignalsModel.clear(II)I -/
def fg_c187 : List fg_I := [(0, 1, 2, 1, 0, 0, 0), (1, 2, 13, 0, 0, 0, 0), (2, 3, 1, 0, 0, 0, 0), (3, 6, 1, 60, 0, 0, 1254), (6, 9, 39, 110, 3, 0, 996), (9, 12, 23, 24, 0, 0, 0), (12, 13, 2, 2, 0, 0, 0), (13, 14, 13, 0, 0, 0, 0), (14, 15, 1, 0, 0, 0, 0), (15, 18, 1, 100, 0, 0, 1317), (18, 21, 39, 110, 3, 0, 996), (21, 24, 23, 27, 1, 0, 0), (24, 26, 0, 0, 0, (-1000000002), 999), (26, 27, 43, 0, 0, 0, 0), (27, 30, 1, 1000000000, 0, 0, 1318), (30, 31, 7, 3, 0, 0, 0), (31, 32, 0, 0, 0, 0, 0), (32, 34, 5, 5, 0, 0, 0), (34, 36, 2, 5, 0, 0, 0), (36, 37, 2, 1, 0, 0, 0), (37, 40, 24, 55, 3, 0, 0), (40, 41, 4, 3, 0, 0, 0), (41, 42, 2, 2, 0, 0, 0), (42, 43, 13, 0, 0, 0, 0), (43, 44, 15, 0, 1, 0, 0), (44, 47, 1, 100, 0, 0, 1317), (47, 48, 16, 0, 0, 0, 0), (48, 49, 7, 3, 0, 0, 0), (49, 52, 8, 5, 0, 1, 0), (52, 55, 22, 34, 0, 0, 0), (55, 56, 4, 3, 0, 0, 0), (56, 57, 14, 0, 0, 0, 0), (57, 58, 43, 0, 0, 0, 0)]
/-- 188: FlagSignalsModel.read(II)I -/
def fg_c188 : List fg_I := [(0, 1, 3, 0, 0, 0, 0), (1, 2, 2, 1, 0, 0, 0), (2, 5, 37, 115, 1, 0, 1195), (5, 8, 23, 16, 0, 0, 0), (8, 9, 3, 0, 0, 0, 0), (9, 10, 2, 2, 0, 0, 0), (10, 13, 37, 115, 1, 0, 1195), (13, 16, 23, 19, 1, 0, 0), (16, 18, 0, 0, 0, (-1000000001), 1057), (18, 19, 43, 0, 0, 0, 0), (19, 20, 3, 0, 0, 0, 0), (20, 23, 26, 10, 26, 0, 905), (23, 25, 0, 0, 0, 8, 0), (25, 28, 24, 31, 1, 0, 0), (28, 30, 0, 0, 0, (-1000000004), 1000), (30, 31, 43, 0, 0, 0, 0), (31, 32, 3, 0, 0, 0, 0), (32, 35, 27, 10, 27, 0, 906), (35, 36, 3, 0, 0, 0, 0), (36, 39, 26, 10, 26, 0, 905), (39, 40, 2, 1, 0, 0, 0), (40, 41, 32, 0, 0, 0, 0), (41, 42, 3, 0, 0, 0, 0), (42, 45, 27, 10, 28, 0, 907), (45, 46, 3, 0, 0, 0, 0), (46, 49, 26, 10, 26, 0, 905), (49, 50, 2, 2, 0, 0, 0), (50, 51, 32, 0, 0, 0, 0), (51, 52, 3, 0, 0, 0, 0), (52, 53, 19, 0, 0, 0, 0), (53, 56, 26, 10, 26, 0, 905), (56, 57, 0, 0, 0, 1, 0), (57, 58, 9, 0, 0, 0, 0), (58, 61, 28, 10, 26, 0, 905), (61, 62, 3, 0, 0, 0, 0), (62, 65, 26, 10, 26, 0, 905), (65, 66, 43, 0, 0, 0, 0)]
/-- 189: FlagSignalsModel.write(II)I -/
def fg_c189 : List fg_I := [(0, 1, 3, 0, 0, 0, 0), (1, 2, 2, 1, 0, 0, 0), (2, 5, 37, 113, 1, 0, 1213), (5, 8, 23, 21, 0, 0, 0), (8, 9, 2, 2, 0, 0, 0), (9, 10, 0, 0, 0, (-1), 0), (10, 13, 24, 24, 0, 0, 0), (13, 14, 3, 0, 0, 0, 0), (14, 15, 2, 2, 0, 0, 0), (15, 18, 37, 115, 1, 0, 1195), (18, 21, 23, 24, 1, 0, 0), (21, 23, 0, 0, 0, (-1000000001), 1057), (23, 24, 43, 0, 0, 0, 0), (24, 25, 3, 0, 0, 0, 0), (25, 28, 26, 10, 32, 0, 911), (28, 30, 0, 0, 0, 15, 0), (30, 33, 24, 36, 1, 0, 0), (33, 35, 0, 0, 0, (-1000000004), 1000), (35, 36, 43, 0, 0, 0, 0), (36, 37, 3, 0, 0, 0, 0), (37, 40, 27, 10, 33, 0, 912), (40, 41, 3, 0, 0, 0, 0), (41, 44, 26, 10, 32, 0, 911), (44, 45, 2, 1, 0, 0, 0), (45, 46, 32, 0, 0, 0, 0), (46, 47, 3, 0, 0, 0, 0), (47, 50, 27, 10, 34, 0, 913), (50, 51, 3, 0, 0, 0, 0), (51, 54, 26, 10, 32, 0, 911), (54, 55, 2, 2, 0, 0, 0), (55, 56, 32, 0, 0, 0, 0), (56, 57, 3, 0, 0, 0, 0), (57, 58, 19, 0, 0, 0, 0), (58, 61, 26, 10, 32, 0, 911), (61, 62, 0, 0, 0, 1, 0), (62, 63, 9, 0, 0, 0, 0), (63, 66, 28, 10, 32, 0, 911), (66, 67, 3, 0, 0, 0, 0), (67, 70, 26, 10, 32, 0, 911), (70, 71, 43, 0, 0, 0, 0)]
/-- 190: FlagSignalsModel.tear()I -/
def fg_c190 : List fg_I := [(0, 1, 3, 0, 0, 0, 0), (1, 4, 26, 10, 26, 0, 905), (4, 5, 3, 0, 0, 0, 0), (5, 8, 26, 10, 32, 0, 911), (8, 9, 9, 0, 0, 0, 0), (9, 10, 5, 1, 0, 0, 0), (10, 11, 3, 0, 0, 0, 0), (11, 12, 0, 0, 0, 0, 0), (12, 15, 28, 10, 26, 0, 905), (15, 16, 3, 0, 0, 0, 0), (16, 17, 0, 0, 0, 0, 0), (17, 20, 28, 10, 32, 0, 911), (20, 21, 2, 1, 0, 0, 0), (21, 22, 43, 0, 0, 0, 0)]
/-- 191: FlagSignalsModel.judge()I -/
def fg_c191 : List fg_I := [(0, 1, 0, 0, 0, 0, 0), (1, 2, 5, 1, 0, 0, 0), (2, 3, 2, 1, 0, 0, 0), (3, 4, 3, 0, 0, 0, 0), (4, 7, 26, 10, 32, 0, 911), (7, 10, 24, 41, 3, 0, 0), (10, 11, 3, 0, 0, 0, 0), (11, 14, 27, 10, 7, 0, 886), (14, 16, 0, 0, 0, 43, 0), (16, 17, 3, 0, 0, 0, 0), (17, 20, 27, 10, 33, 0, 912), (20, 21, 2, 1, 0, 0, 0), (21, 22, 31, 0, 0, 0, 0), (22, 23, 9, 0, 0, 0, 0), (23, 24, 31, 0, 0, 0, 0), (24, 25, 3, 0, 0, 0, 0), (25, 28, 27, 10, 34, 0, 913), (28, 29, 2, 1, 0, 0, 0), (29, 30, 31, 0, 0, 0, 0), (30, 33, 24, 35, 0, 0, 0), (33, 34, 2, 1, 0, 0, 0), (34, 35, 43, 0, 0, 0, 0), (35, 38, 8, 1, 0, 1, 0), (38, 41, 22, 2, 0, 0, 0), (41, 42, 0, 0, 0, (-1), 0), (42, 43, 43, 0, 0, 0, 0)]
/-- 192: FlagSignalsModel.seed(I)I -/
def fg_c192 : List fg_I := [(0, 1, 2, 1, 0, 0, 0), (1, 4, 23, 7, 3, 0, 0), (4, 6, 0, 0, 0, (-1000000002), 999), (6, 7, 43, 0, 0, 0, 0), (7, 8, 3, 0, 0, 0, 0), (8, 11, 26, 10, 8, 0, 887), (11, 12, 5, 2, 0, 0, 0), (12, 13, 3, 0, 0, 0, 0), (13, 14, 2, 1, 0, 0, 0), (14, 17, 28, 10, 8, 0, 887), (17, 18, 2, 2, 0, 0, 0), (18, 19, 43, 0, 0, 0, 0)]
/-- 193: FlagSignalsModel.keep(I)I -/
def fg_c193 : List fg_I := [(0, 1, 2, 1, 0, 0, 0), (1, 2, 13, 0, 0, 0, 0), (2, 3, 1, 0, 0, 0, 0), (3, 4, 1, 1, 0, 0, 0), (4, 7, 39, 110, 3, 0, 996), (7, 10, 23, 13, 1, 0, 0), (10, 12, 0, 0, 0, (-1000000001), 1057), (12, 13, 43, 0, 0, 0, 0), (13, 14, 0, 0, 0, 0, 0), (14, 15, 5, 2, 0, 0, 0), (15, 16, 2, 2, 0, 0, 0), (16, 18, 0, 0, 0, 61, 0), (18, 21, 24, 44, 3, 0, 0), (21, 22, 3, 0, 0, 0, 0), (22, 25, 27, 10, 35, 0, 914), (25, 27, 0, 0, 0, 62, 0), (27, 28, 2, 1, 0, 0, 0), (28, 29, 9, 0, 2, 0, 0), (29, 30, 2, 2, 0, 0, 0), (30, 31, 9, 0, 0, 0, 0), (31, 32, 3, 0, 0, 0, 0), (32, 35, 27, 10, 7, 0, 886), (35, 36, 2, 2, 0, 0, 0), (36, 37, 31, 0, 0, 0, 0), (37, 38, 32, 0, 0, 0, 0), (38, 41, 8, 2, 0, 1, 0), (41, 44, 22, 15, 0, 0, 0), (44, 45, 3, 0, 0, 0, 0), (45, 48, 27, 10, 35, 0, 914), (48, 50, 0, 0, 0, 62, 0), (50, 51, 2, 1, 0, 0, 0), (51, 52, 9, 0, 2, 0, 0), (52, 54, 0, 0, 0, 61, 0), (54, 55, 9, 0, 0, 0, 0), (55, 56, 3, 0, 0, 0, 0), (56, 59, 26, 10, 8, 0, 887), (59, 60, 32, 0, 0, 0, 0), (60, 61, 3, 0, 0, 0, 0), (61, 64, 27, 10, 36, 0, 915), (64, 65, 2, 1, 0, 0, 0), (65, 66, 0, 0, 0, 1, 0), (66, 67, 34, 0, 0, 0, 0), (67, 68, 3, 0, 0, 0, 0), (68, 69, 0, 0, 0, 0, 0), (69, 72, 28, 10, 30, 0, 909), (72, 73, 0, 0, 0, 1, 0), (73, 74, 43, 0, 0, 0, 0)]
/-- 194: FlagSignalsModel.goBack(I)I -/
def fg_c194 : List fg_I := [(0, 1, 2, 1, 0, 0, 0), (1, 2, 13, 0, 0, 0, 0), (2, 3, 1, 0, 0, 0, 0), (3, 4, 1, 1, 0, 0, 0), (4, 7, 39, 110, 3, 0, 996), (7, 10, 23, 13, 1, 0, 0), (10, 12, 0, 0, 0, (-1000000001), 1057), (12, 13, 43, 0, 0, 0, 0), (13, 14, 3, 0, 0, 0, 0), (14, 17, 27, 10, 36, 0, 915), (17, 18, 2, 1, 0, 0, 0), (18, 19, 33, 0, 0, 0, 0), (19, 22, 23, 26, 1, 0, 0), (22, 25, 0, 0, 0, (-1000000003), 1229), (25, 26, 43, 0, 0, 0, 0), (26, 27, 0, 0, 0, 0, 0), (27, 28, 5, 2, 0, 0, 0), (28, 29, 2, 2, 0, 0, 0), (29, 31, 0, 0, 0, 61, 0), (31, 34, 24, 57, 3, 0, 0), (34, 35, 3, 0, 0, 0, 0), (35, 38, 27, 10, 7, 0, 886), (38, 39, 2, 2, 0, 0, 0), (39, 40, 3, 0, 0, 0, 0), (40, 43, 27, 10, 35, 0, 914), (43, 45, 0, 0, 0, 62, 0), (45, 46, 2, 1, 0, 0, 0), (46, 47, 9, 0, 2, 0, 0), (47, 48, 2, 2, 0, 0, 0), (48, 49, 9, 0, 0, 0, 0), (49, 50, 31, 0, 0, 0, 0), (50, 51, 32, 0, 0, 0, 0), (51, 54, 8, 2, 0, 1, 0), (54, 57, 22, 28, 0, 0, 0), (57, 58, 3, 0, 0, 0, 0), (58, 59, 3, 0, 0, 0, 0), (59, 62, 27, 10, 35, 0, 914), (62, 64, 0, 0, 0, 62, 0), (64, 65, 2, 1, 0, 0, 0), (65, 66, 9, 0, 2, 0, 0), (66, 68, 0, 0, 0, 61, 0), (68, 69, 9, 0, 0, 0, 0), (69, 70, 31, 0, 0, 0, 0), (70, 73, 28, 10, 8, 0, 887), (73, 74, 3, 0, 0, 0, 0), (74, 75, 0, 0, 0, 0, 0), (75, 78, 28, 10, 30, 0, 909), (78, 79, 0, 0, 0, 1, 0), (79, 80, 43, 0, 0, 0, 0)]
/-- 195: java/lang/Integer.bitCount(I)I -/
def fg_c195 : List fg_I := [(0, 1, 2, 0, 0, 0, 0), (1, 2, 2, 0, 0, 0, 0), (2, 3, 0, 0, 0, 1, 0), (3, 4, 9, 0, 8, 0, 0), (4, 7, 0, 0, 0, 1431655765, 588), (7, 8, 9, 0, 3, 0, 0), (8, 9, 9, 0, 1, 0, 0), (9, 10, 5, 0, 0, 0, 0), (10, 11, 2, 0, 0, 0, 0), (11, 14, 0, 0, 0, 858993459, 589), (14, 15, 9, 0, 3, 0, 0), (15, 16, 2, 0, 0, 0, 0), (16, 17, 0, 0, 0, 2, 0), (17, 18, 9, 0, 8, 0, 0), (18, 21, 0, 0, 0, 858993459, 589), (21, 22, 9, 0, 3, 0, 0), (22, 23, 9, 0, 0, 0, 0), (23, 24, 5, 0, 0, 0, 0), (24, 25, 2, 0, 0, 0, 0), (25, 26, 2, 0, 0, 0, 0), (26, 27, 0, 0, 0, 4, 0), (27, 28, 9, 0, 8, 0, 0), (28, 29, 9, 0, 0, 0, 0), (29, 32, 0, 0, 0, 252645135, 590), (32, 33, 9, 0, 3, 0, 0), (33, 34, 5, 0, 0, 0, 0), (34, 35, 2, 0, 0, 0, 0), (35, 36, 2, 0, 0, 0, 0), (36, 38, 0, 0, 0, 8, 0), (38, 39, 9, 0, 8, 0, 0), (39, 40, 9, 0, 0, 0, 0), (40, 41, 5, 0, 0, 0, 0), (41, 42, 2, 0, 0, 0, 0), (42, 43, 2, 0, 0, 0, 0), (43, 45, 0, 0, 0, 16, 0), (45, 46, 9, 0, 8, 0, 0), (46, 47, 9, 0, 0, 0, 0), (47, 48, 5, 0, 0, 0, 0), (48, 49, 2, 0, 0, 0, 0), (49, 51, 0, 0, 0, 63, 0), (51, 52, 9, 0, 3, 0, 0), (52, 53, 43, 0, 0, 0, 0)]
def fg_cd : List (List fg_I) := [fg_c0, fg_c1, fg_c2, fg_c3, fg_c4, fg_c5, fg_c6, fg_c7, fg_c8, fg_c9, fg_c10, fg_c11, fg_c12, fg_c13, fg_c14, fg_c15, fg_c16, fg_c17, fg_c18, fg_c19, fg_c20, fg_c21, fg_c22, fg_c23, fg_c24, fg_c25, fg_c26, fg_c27, fg_c28, fg_c29, fg_c30, fg_c31, fg_c32, fg_c33, fg_c34, fg_c35, fg_c36, fg_c37, fg_c38, fg_c39, fg_c40, fg_c41, fg_c42, fg_c43, fg_c44, fg_c45, fg_c46, fg_c47, fg_c48, fg_c49, fg_c50, fg_c51, fg_c52, fg_c53, fg_c54, fg_c55, fg_c56, fg_c57, fg_c58, fg_c59, fg_c60, fg_c61, fg_c62, fg_c63, fg_c64, fg_c65, fg_c66, fg_c67, fg_c68, fg_c69, fg_c70, fg_c71, fg_c72, fg_c73, fg_c74, fg_c75, fg_c76, fg_c77, fg_c78, fg_c79, fg_c80, fg_c81, fg_c82, fg_c83, fg_c84, fg_c85, fg_c86, fg_c87, fg_c88, fg_c89, fg_c90, fg_c91, fg_c92, fg_c93, fg_c94, fg_c95, fg_c96, fg_c97, fg_c98, fg_c99, fg_c100, fg_c101, fg_c102, fg_c103, fg_c104, fg_c105, fg_c106, fg_c107, fg_c108, fg_c109, fg_c110, fg_c111, fg_c112, fg_c113, fg_c114, fg_c115, fg_c116, fg_c117, fg_c118, fg_c119, fg_c120, fg_c121, fg_c122, fg_c123, fg_c124, fg_c125, fg_c126, fg_c127, fg_c128, fg_c129, fg_c130, fg_c131, fg_c132, fg_c133, fg_c134, fg_c135, fg_c136, fg_c137, fg_c138, fg_c139, fg_c140, fg_c141, fg_c142, fg_c143, fg_c144, fg_c145, fg_c146, fg_c147, fg_c148, fg_c149, fg_c150, fg_c151, fg_c152, fg_c153, fg_c154, fg_c155, fg_c156, fg_c157, fg_c158, fg_c159, fg_c160, fg_c161, fg_c162, fg_c163, fg_c164, fg_c165, fg_c166, fg_c167, fg_c168, fg_c169, fg_c170, fg_c171, fg_c172, fg_c173, fg_c174, fg_c175, fg_c176, fg_c177, fg_c178, fg_c179, fg_c180, fg_c181, fg_c182, fg_c183, fg_c184, fg_c185, fg_c186, fg_c187, fg_c188, fg_c189, fg_c190, fg_c191, fg_c192, fg_c193, fg_c194, fg_c195]
abbrev fg_M : Type := MethodName × ByteArray × Nat × Option FieldType
def fg_mt : List fg_M := [(yX0_rig, cX0_rig, 3, none), (yX0_become, cX0_become, 2, none), (yX0_weatherNumber, cX0_weatherNumber, 1, (some .int)), (yX0_freeFlags, cX0_freeFlags, 4, (some .int)), (yX0_freeSubstitutes, cX0_freeSubstitutes, 2, (some .int)), (yX0_lookIn, cX0_lookIn, 4, (some .int)), (yX0_lineOf, cX0_lineOf, 3, (some .int)), (yX0_canBeSewn, cX0_canBeSewn, 2, (some .boolean)), (yX0_mend, cX0_mend, 2, none), (yX0_raise, cX0_raise, 7, (some .int)), (yX0_lower, cX0_lower, 5, (some .int)), (yX0_emptyLine, cX0_emptyLine, 3, none), (yX0_passDay, cX0_passDay, 3, none), (yX2_open, cX2_open, 3, none), (yX2_take, cX2_take, 7, (some .boolean)), (yX2_pieceFor, cX2_pieceFor, 6, (some .int)), (yX2_emptyRow, cX2_emptyRow, 2, none), (yX3_addRead, cX3_addRead, 3, (some .boolean)), (yX3_addEntry, cX3_addEntry, 3, (some .boolean)), (yX3_wipe, cX3_wipe, 1, none), (yX3_fits, cX3_fits, 4, (some .boolean)), (yX3_firstFalse, cX3_firstFalse, 4, (some .int)), (yX4_remember, cX4_remember, 2, none), (yX4_giveBack, cX4_giveBack, 2, none), (yX4_forget, cX4_forget, 1, none), (yX5_largestGroup, cX5_largestGroup, 3, (some .int)), (yX5_plan, cX5_plan, 3, none), (yX5_fewestOf, cX5_fewestOf, 6, (some .int)), (yX5_firstGroup, cX5_firstGroup, 3, (some .int)), (yX6_strike, cX6_strike, 1, none), (yX6_stands, cX6_stands, 1, (some .boolean)), (yX6_hasLine, cX6_hasLine, 2, (some .boolean)), (yX6_hasFlag, cX6_hasFlag, 2, (some .boolean)), (yX6_hasSignal, cX6_hasSignal, 2, (some .boolean)), (yX6_hasAll, cX6_hasAll, 2, (some .boolean)), (yX6_allSignals, cX6_allSignals, 1, (some .int)), (yX6_allFlags, cX6_allFlags, 1, (some .int)), (yX6_allSubstitutes, cX6_allSubstitutes, 1, (some .int)), (yX6_addFlag, cX6_addFlag, 4, none), (yX6_startSignal, cX6_startSignal, 2, none), (yX6_addToSignal, cX6_addToSignal, 2, none), (yX6_endSignal, cX6_endSignal, 1, none), (yX6_flagAt, cX6_flagAt, 4, (some .int)), (yX6_signalsWith, cX6_signalsWith, 5, (some .int)), (yX7_append, cX7_append, 2, (some .boolean)), (yX7_parseInto, cX7_parseInto, 3, (some .int)), (yX7_nextLetter, cX7_nextLetter, 1, (some .int)), (yX7_blame, cX7_blame, 3, none), (yX7_parseLines, cX7_parseLines, 4, none), (yX7_parseClause, cX7_parseClause, 3, none), (yX7_parseFlag, cX7_parseFlag, 5, none), (yX7_parseSignal, cX7_parseSignal, 3, none), (yX7_pass, cX7_pass, 2, none), (yX7_parseNumber, cX7_parseNumber, 5, (some .int)), (yX8_raiseAll, cX8_raiseAll, 6, none), (yX8_see, cX8_see, 5, none), (yX8_sign, cX8_sign, 6, none), (yX8_lookOfPiece, cX8_lookOfPiece, 2, (some .int)), (yX8_likeOf, cX8_likeOf, 5, (some .int)), (yX8_clearOnes, cX8_clearOnes, 5, (some .int)), (yX9_feed, cX9_feed, 2, (some .int)), (yX9_ship, cX9_ship, 4, (some .int)), (yX9_fault, cX9_fault, 1, (some .int)), (yX9_told, cX9_told, 2, (some .int)), (yX9_flag, cX9_flag, 3, (some .int)), (yX9_signal, cX9_signal, 3, (some .int)), (yX9_line, cX9_line, 3, (some .int)), (yX9_needs, cX9_needs, 3, (some .int)), (yX9_hoist, cX9_hoist, 3, (some .int)), (yX9_haul, cX9_haul, 2, (some .int)), (yX9_day, cX9_day, 4, (some .int)), (yX9_sew, cX9_sew, 3, (some .int)), (yX9_anew, cX9_anew, 5, (some .int)), (yX9_weather, cX9_weather, 4, (some .int)), (yX9_drift, cX9_drift, 4, (some .int)), (yX9_undo, cX9_undo, 1, (some .int)), (yX9_look, cX9_look, 4, (some .int)), (yX9_together, cX9_together, 2, (some .int)), (yX9_turns, cX9_turns, 3, (some .int)), (yX9_clear, cX9_clear, 6, (some .int)), (yX9_read, cX9_read, 3, (some .int)), (yX9_write, cX9_write, 3, (some .int)), (yX9_tear, cX9_tear, 2, (some .int)), (yX9_judge, cX9_judge, 1, (some .int)), (yX9_seed, cX9_seed, 3, (some .int)), (yX9_keep, cX9_keep, 2, (some .int)), (yX9_goBack, cX9_goBack, 2, (some .int)), (yX9_has, cX9_has, 2, (some .boolean)), (yX9_canHoist, cX9_canHoist, 3, (some .boolean)), (yX9_refusedDays, cX9_refusedDays, 2, (some .int)), (yX9_draw, cX9_draw, 2, (some .int)), (yX9_actByDraws, cX9_actByDraws, 3, none), (yX9_hoistDrawn, cX9_hoistDrawn, 3, none), (yX9_sewDrawn, cX9_sewDrawn, 2, none), (yX9_readySignals, cX9_readySignals, 3, (some .int)), (yX9_watchIn, cX9_watchIn, 2, none), (yX9_clearNow, cX9_clearNow, 1, (some .int)), (yX9_clearest, cX9_clearest, 5, (some .int)), (yX9_flyTogether, cX9_flyTogether, 3, (some .boolean)), (yX9_groupWithin, cX9_groupWithin, 3, none), (yX9_mostTogether, cX9_mostTogether, 1, (some .int)), (yX9_neededFlag, cX9_neededFlag, 5, (some .int)), (yX9_betterFlag, cX9_betterFlag, 7, (some .int)), (yX9_countClearWith, cX9_countClearWith, 4, (some .int)), (yX9_possibleWeathers, cX9_possibleWeathers, 3, (some .int)), (yX9_askedSignal, cX9_askedSignal, 6, (some .int)), (yX9_fillLikes, cX9_fillLikes, 3, none), (yX9_greatestPart, cX9_greatestPart, 7, (some .int)), (yX9_seenPattern, cX9_seenPattern, 8, (some .int)), (yX9_seenColour, cX9_seenColour, 2, (some .int)), (yX10_in, cX10_in, 6, (some .boolean)), (yX10_has, cX10_has, 2, (some .boolean)), (yX10_bits, cX10_bits, 3, (some .int)), (yX10_isLine, cX10_isLine, 2, (some .boolean)), (yX10_isFlag, cX10_isFlag, 2, (some .boolean)), (yX10_isSignal, cX10_isSignal, 2, (some .boolean)), (yX10_feed, cX10_feed, 2, (some .int)), (yX10_here, cX10_here, 1, (some .int)), (yX10_fails, cX10_fails, 3, (some .int)), (yX10_takeNumber, cX10_takeNumber, 5, (some .int)), (yX10_takeLines, cX10_takeLines, 2, (some .int)), (yX10_takeFlag, cX10_takeFlag, 4, (some .int)), (yX10_takeSignal, cX10_takeSignal, 3, (some .int)), (yX10_takeClause, cX10_takeClause, 5, (some .int)), (yX10_copyRow, cX10_copyRow, 4, none), (yX10_beginAll, cX10_beginAll, 2, none), (yX10_ship, cX10_ship, 2, (some .int)), (yX10_fault, cX10_fault, 1, (some .int)), (yX10_freeFlags, cX10_freeFlags, 3, (some .int)), (yX10_tornFlags, cX10_tornFlags, 3, (some .int)), (yX10_freeSubs, cX10_freeSubs, 3, (some .int)), (yX10_allSubs, cX10_allSubs, 3, (some .int)), (yX10_isUsed, cX10_isUsed, 5, (some .boolean)), (yX10_itemFor, cX10_itemFor, 7, (some .int)), (yX10_goesUp, cX10_goesUp, 5, (some .boolean)), (yX10_canGoUp, cX10_canGoUp, 3, (some .int)), (yX10_seenColour, cX10_seenColour, 2, (some .int)), (yX10_lookOf, cX10_lookOf, 7, (some .int)), (yX10_layLooks, cX10_layLooks, 6, none), (yX10_isLike, cX10_isLike, 5, (some .boolean)), (yX10_likeOf, cX10_likeOf, 4, (some .int)), (yX10_clearIn, cX10_clearIn, 5, (some .int)), (yX10_clearNow, cX10_clearNow, 1, (some .int)), (yX10_clearest, cX10_clearest, 5, (some .int)), (yX10_isToldIn, cX10_isToldIn, 5, (some .boolean)), (yX10_needed, cX10_needed, 6, (some .int)), (yX10_better, cX10_better, 8, (some .int)), (yX10_rowFlags, cX10_rowFlags, 3, (some .int)), (yX10_rowSubs, cX10_rowSubs, 3, (some .int)), (yX10_fly, cX10_fly, 6, (some .boolean)), (yX10_mostTogether, cX10_mostTogether, 3, (some .int)), (yX10_areSignals, cX10_areSignals, 2, (some .boolean)), (yX10_together, cX10_together, 2, (some .int)), (yX10_findTurns, cX10_findTurns, 6, none), (yX10_turns, cX10_turns, 5, (some .int)), (yX10_weathers, cX10_weathers, 5, (some .int)), (yX10_layLikes, cX10_layLikes, 3, none), (yX10_greatestPart, cX10_greatestPart, 7, (some .int)), (yX10_askNext, cX10_askNext, 6, (some .int)), (yX10_told, cX10_told, 2, (some .int)), (yX10_flag, cX10_flag, 3, (some .int)), (yX10_lineOf, cX10_lineOf, 4, (some .int)), (yX10_likeNow, cX10_likeNow, 2, (some .int)), (yX10_signal, cX10_signal, 3, (some .int)), (yX10_line, cX10_line, 3, (some .int)), (yX10_needs, cX10_needs, 3, (some .int)), (yX10_remember, cX10_remember, 2, none), (yX10_canHoist, cX10_canHoist, 3, (some .boolean)), (yX10_hoistRow, cX10_hoistRow, 5, (some .int)), (yX10_hoist, cX10_hoist, 3, (some .int)), (yX10_haulNow, cX10_haulNow, 4, (some .int)), (yX10_haul, cX10_haul, 2, (some .int)), (yX10_pass, cX10_pass, 3, none), (yX10_daysRefused, cX10_daysRefused, 2, (some .int)), (yX10_day, cX10_day, 4, (some .int)), (yX10_canSew, cX10_canSew, 2, (some .boolean)), (yX10_sewNow, cX10_sewNow, 2, none), (yX10_sew, cX10_sew, 3, (some .int)), (yX10_anew, cX10_anew, 5, (some .int)), (yX10_weather, cX10_weather, 4, (some .int)), (yX10_draw, cX10_draw, 2, (some .int)), (yX10_chanceHoist, cX10_chanceHoist, 4, none), (yX10_chanceSew, cX10_chanceSew, 2, none), (yX10_chance, cX10_chance, 4, none), (yX10_drift, cX10_drift, 4, (some .int)), (yX10_undo, cX10_undo, 2, (some .int)), (yX10_look, cX10_look, 4, (some .int)), (yX10_clear, cX10_clear, 6, (some .int)), (yX10_read, cX10_read, 3, (some .int)), (yX10_write, cX10_write, 3, (some .int)), (yX10_tear, cX10_tear, 2, (some .int)), (yX10_judge, cX10_judge, 2, (some .int)), (yX10_seed, cX10_seed, 3, (some .int)), (yX10_keep, cX10_keep, 3, (some .int)), (yX10_goBack, cX10_goBack, 3, (some .int)), (yJ6_bitCount_0f7a4, cJ6_bitCount_0f7a4, 1, (some .int))]
def fg_swt : List (List Nat × Nat) := [([104, 112, 120, 128, 136, 144, 152, 160, 168, 180, 188, 193, 198, 203, 208, 213, 218, 226, 234, 239, 244, 252], 260), ([56, 66, 76, 86, 96, 106, 126], 149), ([48, 48, 56, 92], 119), ([104, 109, 114, 119, 124, 129, 137, 145, 153, 158, 163, 168, 173, 178, 183, 188, 193, 198, 206, 211, 216, 221], 226), ([56, 66, 79, 89, 99, 109, 119], 143)]
def fg_nest : List Cond := [.methodLinkNest "FlagSignals$Locker" 46 yX9_has "FlagSignals", .methodLinkNest "FlagSignals$Deck" 75 yX9_seenPattern "FlagSignals", .methodLinkNest "FlagSignals$Watch" 60 yX9_has "FlagSignals", .methodLinkNest "FlagSignals$Log" 37 yX9_has "FlagSignals", .methodLinkNest "FlagSignals$Deck" 79 yX9_has "FlagSignals"]
end
section
/-! THE ABSTRACT MACHINE: the class and the reference over one pool of 209 cells whose places are numbers ('handles'); no method makes a cell -/
/-- a state: the handle of the ship, of the draft, the int fields by handle and slot, the rows by handle and place -/
abbrev fg_St : Type := Nat × Nat × (Nat → Nat → Int32) × (Nat → Nat → Int32)
abbrev fg_F (σ : fg_St) (h k : Nat) : Int32 := σ.2.2.1 h k
abbrev fg_R (σ : fg_St) (h k : Nat) : Int32 := σ.2.2.2 h k
def fg_up (f : Nat → Nat → Int32) (h k : Nat) (x : Int32) : Nat → Nat → Int32 := fun a b => if a = h ∧ b = k then x else f a b
def fg_uf (f : Nat → Nat → Int32) (h k : Nat) (x : Int32) : Nat → Nat → Int32 := fun a b => if b = k ∧ a = h then x else f a b
abbrev fg_sF (σ : fg_St) (h k : Nat) (x : Int32) : fg_St := (σ.1, σ.2.1, fg_uf σ.2.2.1 h k x, σ.2.2.2)
abbrev fg_sR (σ : fg_St) (h k : Nat) (x : Int32) : fg_St := (σ.1, σ.2.1, σ.2.2.1, fg_up σ.2.2.2 h k x)
/-- kinds of the handles: 0 to 10 the classes as vwCl has them, 11 int[], 12 boolean[], 13 Deck[], 14 Image[] -/
def fg_kl : List Nat := [9, 7, 11, 6, 11, 11, 11, 11, 11, 6, 11, 11, 11, 11, 11, 0, 11, 11, 11, 11, 11, 11, 11, 4, 13, 14, 3, 11, 11, 11, 11, 2, 11, 8, 11, 11, 11, 5, 12, 11, 11, 1, 0, 11, 11, 11, 11, 11, 11, 11, 1, 0, 11, 11, 11, 11, 11, 11, 11, 0, 11, 11, 11, 11, 11, 11, 11, 0, 11, 11, 11, 11, 11, 11, 11, 0, 11, 11, 11, 11, 11, 11, 11, 0, 11, 11, 11, 11, 11, 11, 11, 0, 11, 11, 11, 11, 11, 11, 11, 0, 11, 11, 11, 11, 11, 11, 11, 0, 11, 11, 11, 11, 11, 11, 11, 0, 11, 11, 11, 11, 11, 11, 11, 0, 11, 11, 11, 11, 11, 11, 11, 0, 11, 11, 11, 11, 11, 11, 11, 0, 11, 11, 11, 11, 11, 11, 11, 0, 11, 11, 11, 11, 11, 11, 11, 0, 11, 11, 11, 11, 11, 11, 11, 0, 11, 11, 11, 11, 11, 11, 11, 0, 11, 11, 11, 11, 11, 11, 11, 0, 11, 11, 11, 11, 11, 11, 11, 10, 11, 11, 11, 11, 11, 11, 11, 11, 11, 12, 11, 12, 11, 11, 11, 11, 11, 11, 11, 11, 12]
def fg_dl : List Nat := [0, 10, 10, 10, 10, 10, 3, 12]
/-- lengths of the rows -/
def fg_ll : List Nat := [0, 0, 240, 0, 10, 10, 10, 10, 40, 0, 10, 10, 10, 10, 40] ++ fg_dl ++ [0, 16, 2, 0, 8, 8, 15, 15, 0, 4, 0, 40, 10, 10, 0, 1024, 1024, 60, 0] ++ fg_dl ++ [0] ++ fg_dl ++ (fg_dl ++ fg_dl ++ fg_dl ++ fg_dl ++ fg_dl ++ fg_dl ++ fg_dl ++ fg_dl) ++ (fg_dl ++ fg_dl ++ fg_dl ++ fg_dl ++ fg_dl ++ fg_dl ++ fg_dl ++ fg_dl) ++ [0, 10, 10, 40, 61, 240, 10, 10, 40, 4, 10, 40, 1024, 1024, 8, 8, 60, 976, 15, 15, 124, 2]
def fg_kd (h : Nat) : Nat := fg_kl.getD h 99
def fg_ln (h : Nat) : Nat := fg_ll.getD h 0
/-- where the reference's rows lie, by the slot of their field -/
def fg_mp : List Nat := [0, 0, 0, 188, 0, 189, 190, 191, 0, 192, 0, 0, 0, 0, 0, 0, 0, 193, 0, 194, 195, 196, 197, 198, 199, 200, 0, 201, 202, 203, 0, 204, 0, 205, 206, 207, 208]
/-- what a field of a reference's type holds -/
def fg_pt (σ : fg_St) (h k : Nat) : Nat := match fg_kd h with
  | 0 => h + 1 + k
  | 1 => h + 1
  | 2 => h + 1
  | 3 => h + 1 + k
  | 4 => h + 1
  | 5 => h + 1 + k
  | 6 => h + k - 3
  | 7 => h + 1
  | 8 => h + 1 + k
  | 9 => (match k with
    | 0 => 1
    | 1 => σ.1
    | 2 => σ.2.1
    | 3 => 15
    | 4 => 23
    | 5 => 25
    | 6 => 26
    | 7 => 31
    | 8 => 33
    | 9 => 37
    | _ => 40)
  | _ => fg_mp.getD k 0
def fg_ra (h j : Nat) : Nat := if h = 24 then 59 + 8 * j else 41 + 9 * j
/-- is a slot of a class a reference's -/
def fg_rf (c k : Nat) : Bool := match c with
  | 0 => Nat.blt k 7
  | 1 => Nat.beq k 0
  | 2 => Nat.beq k 2
  | 3 => Nat.blt k 4
  | 4 => Nat.beq k 0
  | 5 => true
  | 6 => Nat.ble 4 k
  | 7 => Nat.beq k 0
  | 8 => Nat.blt k 3
  | 9 => Nat.blt k 11
  | _ => Nat.blt 0 (fg_mp.getD k 0)
def fg_nf : List Nat := [12, 3, 3, 6, 3, 2, 9, 5, 4, 13, 37]
def fg_bin (b : Nat) (x y : Int32) : Int32 := match b with
  | 0 => x + y
  | 1 => x - y
  | 2 => x * y
  | 3 => x &&& y
  | 4 => x ||| y
  | 5 => x ^^^ y
  | 6 => x <<< (y &&& 31)
  | 7 => x >>> (y &&& 31)
  | _ => (x.toUInt32 >>> (y.toUInt32 &&& Int32.toUInt32 31)).toInt32
def fg_lbin (b : Nat) (x y : Int64) : Int64 := match b with
  | 0 => x + y
  | 1 => x * y
  | _ => x &&& y
def fg_cnd (b : Nat) (x y : Int32) : Prop := match b with
  | 0 => x = y
  | 1 => ¬ x = y
  | 2 => x < y
  | 3 => y ≤ x
  | 4 => y < x
  | _ => x ≤ y
def fg_look : List fg_I → Nat → Option (Nat × Nat × Nat × Nat × Int32 × Nat)
  | [], _ => none
  | (q, r) :: t, pc => match Nat.beq q pc with
    | true => some r
    | false => fg_look t pc
abbrev fg_P : Type := Nat → Nat → Nat → List (Option Value) → List Value → fg_St → (Int32 → fg_St → Prop) → Prop
/-- is the local ahead of this one a long -/
def fg_lgb (L : List (Option Value)) (a : Nat) : Bool := match a with
  | 0 => false
  | k + 1 => match L[k]? with
    | some (some v) => Nat.beq v.category 2
    | _ => false
def fg_st1 (L : List (Option Value)) (a : Nat) (P : Prop) : Prop := match Nat.blt a L.length && !(fg_lgb L a) with
  | true => P
  | false => False
def fg_st2 (L : List (Option Value)) (a : Nat) (P : Prop) : Prop := match Nat.blt (a + 1) L.length && !(fg_lgb L a) with
  | true => P
  | false => False
def fg_sw (x : Int32) (T : Nat → Prop) (df : Nat) : Nat → List Nat → Prop
  | _, [] => T df
  | k, t :: ts => (x = Int32.ofNat k → T t) ∧ (¬ x = Int32.ofNat k → fg_sw x T df (k + 1) ts)
def fg_pop : Nat → List Value → List Value → Option (List Value × List Value)
  | 0, acc, st => some (acc, st)
  | n + 1, acc, v :: st => fg_pop n (v :: acc) st
  | _ + 1, _, [] => none
def fg_fl : List Value → List (Option Value)
  | [] => []
  | v :: r => match Nat.beq v.category 2 with
    | true => some v :: none :: fg_fl r
    | false => some v :: fg_fl r
def fg_ent (ml : Nat) (vs : List Value) : List (Option Value) := fg_fl vs ++ List.replicate (ml - (fg_fl vs).length) none
def fg_cat (st : List Value) : Nat := (st.map fun v => v.category).sum
def fg_ml (i : Nat) : Nat := match fg_mt[i]? with
  | some m => m.2.2.1
  | none => 0
/-- a call: what is behind it, by the answer -/
def fg_call (S : fg_P) (d a : Nat) (As : List Value) (r : List Value) (σ : fg_St) (K : Nat → Int32 → fg_St → Prop) : Prop := match Nat.ble (fg_cat r) 8 && Nat.ble (fg_fl As).length (fg_ml a) with
  | true => (match d with
    | 0 => False
    | d' + 1 => ∃ P : Int32 → fg_St → Prop, S d' a 0 (fg_ent (fg_ml a) As) [] σ P ∧ ∀ (x : Int32) (u : fg_St), P x u → K (d' + 1) x u)
  | false => False
/-- a call that the machine does at once -/
def fg_m1 (d : Nat) (r : List Value) (P : Prop) : Prop := match Nat.ble (fg_cat r) 8 with
  | true => (match d with
    | 0 => False
    | _ + 1 => P)
  | false => False
def fg_op (S : fg_P) (d i np a b : Nat) (v : Int32) (L : List (Option Value)) (st : List Value) (σ : fg_St) (Q : Int32 → fg_St → Prop) (op : Nat) : Prop := match op with
  | 0 => S d i np L (.int v :: st) σ Q
  | 1 => S d i np L (.long (Int64.ofNat a) :: st) σ Q
  | 2 => (match L[a]? with
    | some (some (.int x)) => S d i np L (.int x :: st) σ Q
    | _ => False)
  | 3 => (match L[a]? with
    | some (some (.ref x)) => S d i np L (.ref x :: st) σ Q
    | _ => False)
  | 4 => (match L[a]? with
    | some (some (.long x)) => S d i np L (.long x :: st) σ Q
    | _ => False)
  | 5 => (match st with
    | .int x :: r => fg_st1 L a (S d i np (L.set a (some (.int x))) r σ Q)
    | _ => False)
  | 6 => (match st with
    | .ref x :: r => fg_st1 L a (S d i np (L.set a (some (.ref x))) r σ Q)
    | _ => False)
  | 7 => (match st with
    | .long x :: r => fg_st2 L a (S d i np ((L.set a (some (.long x))).set (a + 1) none) r σ Q)
    | _ => False)
  | 8 => (match L[a]? with
    | some (some (.int x)) => fg_st1 L a (S d i np (L.set a (some (.int (x + v)))) st σ Q)
    | _ => False)
  | 9 => (match st with
    | .int y :: .int x :: r => S d i np L (.int (fg_bin b x y) :: r) σ Q
    | _ => False)
  | 10 => (match st with
    | .int y :: .int x :: r => ¬ y = 0 ∧ S d i np L (.int (x / y) :: r) σ Q
    | _ => False)
  | 11 => (match st with
    | .int y :: .int x :: r => ¬ y = 0 ∧ S d i np L (.int (x - x / y * y) :: r) σ Q
    | _ => False)
  | 12 => (match st with
    | .int x :: r => S d i np L (.int (-x) :: r) σ Q
    | _ => False)
  | 13 => (match st with
    | .int x :: r => S d i np L (.long x.toInt64 :: r) σ Q
    | _ => False)
  | 14 => (match st with
    | .long x :: r => S d i np L (.int x.toInt32 :: r) σ Q
    | _ => False)
  | 15 => (match st with
    | .long y :: .long x :: r => S d i np L (.long (fg_lbin b x y) :: r) σ Q
    | _ => False)
  | 16 => (match st with
    | .long y :: .long x :: r => ¬ y = 0 ∧ S d i np L (.long (x / y) :: r) σ Q
    | _ => False)
  | 17 => (match st with
    | .long y :: .long x :: r => ¬ y = 0 ∧ S d i np L (.long (x - x / y * y) :: r) σ Q
    | _ => False)
  | 18 => (match st with
    | .long y :: .long x :: r => S d i np L (.int (lg_cmp x y) :: r) σ Q
    | _ => False)
  | 19 => (match st with
    | .int x :: r => S d i np L (.int x :: .int x :: r) σ Q
    | .ref x :: r => S d i np L (.ref x :: .ref x :: r) σ Q
    | _ => False)
  | 20 => (match st with
    | .int _ :: r => S d i np L r σ Q
    | .ref _ :: r => S d i np L r σ Q
    | _ => False)
  | 21 => (match st with
    | .int x :: .ref y :: r => S d i np L (.int x :: .ref y :: .int x :: .ref y :: r) σ Q
    | _ => False)
  | 22 => S d i a L st σ Q
  | 23 => (match st with
    | .int x :: r => (fg_cnd b x 0 → S d i a L r σ Q) ∧ (¬ fg_cnd b x 0 → S d i np L r σ Q)
    | _ => False)
  | 24 => (match st with
    | .int y :: .int x :: r => (fg_cnd b x y → S d i a L r σ Q) ∧ (¬ fg_cnd b x y → S d i np L r σ Q)
    | _ => False)
  | 25 => (match st with
    | .int x :: r => (match fg_swt[a]? with
      | some q => fg_sw x (fun t => S d i t L r σ Q) q.2 0 q.1
      | none => False)
    | _ => False)
  | 26 => (match st with
    | .ref h :: r => fg_kd h = a ∧ S d i np L (.int (fg_F σ h b) :: r) σ Q
    | _ => False)
  | 27 => (match st with
    | .ref h :: r => fg_kd h = a ∧ S d i np L (.ref (fg_pt σ h b) :: r) σ Q
    | _ => False)
  | 28 => (match st with
    | .int x :: .ref h :: r => fg_kd h = a ∧ S d i np L r (fg_sF σ h b x) Q
    | _ => False)
  | 29 => (match st with
    | .int x :: .ref h :: r => fg_kd h = a ∧ (x = 0 ∨ x = 1) ∧ S d i np L r (fg_sF σ h b x) Q
    | _ => False)
  | 30 => (match st with
    | .ref y :: .ref h :: r => h = 0 ∧ (match b with
      | 1 => S d i np L r (y, σ.2.1, σ.2.2) Q
      | 2 => S d i np L r (σ.1, y, σ.2.2) Q
      | _ => False)
    | _ => False)
  | 31 => (match st with
    | .int j :: .ref h :: r => fg_kd h = 11 ∧ vp_in j (fg_ln h) ∧ S d i np L (.int (fg_R σ h j.toNatClampNeg) :: r) σ Q
    | _ => False)
  | 32 => (match st with
    | .int x :: .int j :: .ref h :: r => fg_kd h = 11 ∧ vp_in j (fg_ln h) ∧ S d i np L r (fg_sR σ h j.toNatClampNeg x) Q
    | _ => False)
  | 33 => (match st with
    | .int j :: .ref h :: r => fg_kd h = 12 ∧ vp_in j (fg_ln h) ∧ S d i np L (.int (fg_R σ h j.toNatClampNeg) :: r) σ Q
    | _ => False)
  | 34 => (match st with
    | .int x :: .int j :: .ref h :: r => fg_kd h = 12 ∧ vp_in j (fg_ln h) ∧ (x = 0 ∨ x = 1) ∧ S d i np L r (fg_sR σ h j.toNatClampNeg x) Q
    | _ => False)
  | 35 => (match st with
    | .int j :: .ref h :: r => (fg_kd h = 13 ∨ fg_kd h = 14) ∧ vp_in j (fg_ln h) ∧ S d i np L (.ref (fg_ra h j.toNatClampNeg) :: r) σ Q
    | _ => False)
  | 36 => (match st with
    | .ref h :: r => (11 ≤ fg_kd h ∧ fg_kd h ≤ 14) ∧ S d i np L (.int (Int32.ofNat (fg_ln h)) :: r) σ Q
    | _ => False)
  | 37 => (match fg_pop b [] st with
    | some (As, .ref h :: r) => (fg_mt[a]?.map fun m => m.1.cls) = (vwCl[fg_kd h]?.map fun q => q.1) ∧ fg_call S d a (.ref h :: As) r σ (fun d x u => S d i np L (.int x :: r) u Q)
    | _ => False)
  | 38 => (match fg_pop b [] st with
    | some (As, .ref h :: r) => (fg_mt[a]?.map fun m => m.1.cls) = (vwCl[fg_kd h]?.map fun q => q.1) ∧ fg_call S d a (.ref h :: As) r σ (fun d _ u => S d i np L r u Q)
    | _ => False)
  | 39 => (match fg_pop b [] st with
    | some (As, r) => fg_call S d a As r σ (fun d x u => S d i np L (.int x :: r) u Q)
    | _ => False)
  | 40 => (match fg_pop b [] st with
    | some (As, r) => fg_call S d a As r σ (fun d _ u => S d i np L r u Q)
    | _ => False)
  | 41 => (match fg_pop b [] st with
    | some (As, r) => fg_call S d a As r σ (fun d x u => S d i np L (.int x :: r) u Q)
    | _ => False)
  | 42 => (match st with
    | .int n :: .int dp :: .ref t :: .int sp :: .ref h :: [] => (match d with
      | 0 => False
      | d' + 1 => fg_kd h = 11 ∧ fg_kd t = 11 ∧ (¬ sp < 0 ∧ ¬ dp < 0 ∧ ¬ n < 0) ∧ sp.toNatClampNeg + n.toNatClampNeg ≤ fg_ln h ∧ dp.toNatClampNeg + n.toNatClampNeg ≤ fg_ln t ∧ S (d' + 1) i np L [] (σ.1, σ.2.1, σ.2.2.1, va_up σ.2.2.2 t (va_cpy (σ.2.2.2 h) (σ.2.2.2 t) sp.toNatClampNeg dp.toNatClampNeg n.toNatClampNeg)) Q)
    | _ => False)
  | 43 => (match st with
    | [.int x] => Q x σ
    | _ => False)
  | 44 => (match st with
    | [.int x] => (x = 0 ∨ x = 1) ∧ Q x σ
    | _ => False)
  | 45 => (match st with
    | [] => Q 0 σ
    | _ => False)
  | 46 => (match st with
    | .int y :: .int x :: r => fg_m1 d r (S d i np L (.int (if y < x then y else x) :: r) σ Q)
    | _ => False)
  | 47 => (match st with
    | .int y :: .int x :: r => fg_m1 d r (S d i np L (.int (if x < y then y else x) :: r) σ Q)
    | _ => False)
  | _ => False
def fg_G (S : fg_P) : fg_P := fun d i pc L st σ Q => match fg_look (fg_cd.getD i []) pc with
  | none => False
  | some q => fg_op S d i q.1 q.2.2.1 q.2.2.2.1 q.2.2.2.2.1 L st σ Q q.2.1
/-- it runs: the least that every step keeps -/
def fg_Run : fg_P := fun d i pc L st σ Q => ∀ S : fg_P, (∀ d i pc L st σ Q, fg_G S d i pc L st σ Q → S d i pc L st σ Q) → S d i pc L st σ Q
end
section
/-! WHAT RUNS: rules -/
/-- the second knows all locals of the first, and what it knows more is no long -/
def fg_le (L L' : List (Option Value)) : Prop := L.length = L'.length ∧ ∀ k : Nat, L'[k]? = L[k]? ∨ (L[k]? = some none ∧ ∀ v, L'[k]? = some (some v) → v.category = 1)
theorem fg_le.refl (L : List (Option Value)) : fg_le L L := ⟨rfl, fun _ => Or.inl rfl⟩
theorem fg_le.set {L L' : List (Option Value)} (h : fg_le L L') (a : Nat) (v : Option Value) : fg_le (L.set a v) (L'.set a v) := by
  refine ⟨by simp [h.1], fun k => ?_⟩
  by_cases hk : a = k
  · subst hk
    left
    simp [List.getElem?_set, h.1]
  · rcases h.2 k with e | ⟨e1, e2⟩
    · left
      simp [List.getElem?_set, hk, e]
    · right
      refine ⟨by simp [List.getElem?_set, hk, e1], fun x hx => e2 x (by simpa [List.getElem?_set, hk] using hx)⟩
theorem fg_le.lgb {L L' : List (Option Value)} (h : fg_le L L') {a : Nat} (q : fg_lgb L a = false) : fg_lgb L' a = false := by
  unfold fg_lgb at q ⊢
  cases a with
  | zero => rfl
  | succ k =>
    simp only at q ⊢
    rcases h.2 k with e | ⟨e1, e2⟩
    · rw [e]; exact q
    · split
      · rename_i x hx
        rw [e2 x hx]
        rfl
      · rfl
theorem fg_sw_mono {x : Int32} {T T' : Nat → Prop} {df : Nat} (h : ∀ t, T t → T' t) : ∀ (ts : List Nat) (k : Nat), fg_sw x T df k ts → fg_sw x T' df k ts := by
  intro ts
  induction ts with
  | nil => intro k q; exact h _ q
  | cons t ts ih => intro k q; exact ⟨fun e => h _ (q.1 e), fun e => ih _ (q.2 e)⟩
theorem fg_call_mono {S S' : fg_P} (h : ∀ d i pc L st σ Q, S d i pc L st σ Q → S' d i pc L st σ Q) {d a : Nat} {As r : List Value} {σ : fg_St} {K K' : Nat → Int32 → fg_St → Prop} (hK : ∀ d x u, K d x u → K' d x u) (q : fg_call S d a As r σ K) : fg_call S' d a As r σ K' := by
  unfold fg_call at q ⊢
  split at q
  · cases d with
    | zero => exact q
    | succ d =>
      obtain ⟨P, h1, h2⟩ := q
      exact ⟨P, h _ _ _ _ _ _ _ h1, fun x u hp => hK _ _ _ (h2 x u hp)⟩
  · exact q.elim
theorem fg_st1_mono {L L' : List (Option Value)} {a : Nat} {P P' : Prop} (hL : fg_le L L') (h : P → P') (q : fg_st1 L a P) : fg_st1 L' a P' := by
  unfold fg_st1 at q ⊢
  split at q
  · rename_i e
    simp only [Bool.and_eq_true, Bool.not_eq_true'] at e
    rw [← hL.1, e.1, hL.lgb e.2]
    exact h q
  · exact q.elim
theorem fg_st2_mono {L L' : List (Option Value)} {a : Nat} {P P' : Prop} (hL : fg_le L L') (h : P → P') (q : fg_st2 L a P) : fg_st2 L' a P' := by
  unfold fg_st2 at q ⊢
  split at q
  · rename_i e
    simp only [Bool.and_eq_true, Bool.not_eq_true'] at e
    rw [← hL.1, e.1, hL.lgb e.2]
    exact h q
  · exact q.elim
theorem fg_m1_mono {d : Nat} {r : List Value} {P P' : Prop} (h : P → P') (q : fg_m1 d r P) : fg_m1 d r P' := by
  unfold fg_m1 at q ⊢
  split at q
  · cases d with
    | zero => exact q
    | succ d => exact h q
  · exact q.elim
theorem fg_le.at {L L' : List (Option Value)} (h : fg_le L L') {a : Nat} {v : Value} (q : L[a]? = some (some v)) : L'[a]? = some (some v) := by
  rcases h.2 a with e | ⟨e1, e2⟩
  · rw [e]; exact q
  · rw [e1] at q; cases q
set_option maxHeartbeats 4000000 in
theorem fg_op_mono {S S' : fg_P} {Q Q' : Int32 → fg_St → Prop} (h : ∀ d i pc L L' st σ, fg_le L L' → S d i pc L st σ Q → S' d i pc L' st σ Q') (hc : ∀ d i pc L st σ P, S d i pc L st σ P → S' d i pc L st σ P) (hQ : ∀ x u, Q x u → Q' x u) {d i np a b : Nat} {v : Int32} {L L' : List (Option Value)} (hL : fg_le L L') {st : List Value} {σ : fg_St} {op : Nat} (q : fg_op S d i np a b v L st σ Q op) : fg_op S' d i np a b v L' st σ Q' op := by
  unfold fg_op at q ⊢
  split at q
  case h_3 =>
    split at q
    · rename_i e
      rw [hL.at e]
      exact h _ _ _ _ _ _ _ hL q
    · exact q.elim
  case h_4 =>
    split at q
    · rename_i e
      rw [hL.at e]
      exact h _ _ _ _ _ _ _ hL q
    · exact q.elim
  case h_5 =>
    split at q
    · rename_i e
      rw [hL.at e]
      exact h _ _ _ _ _ _ _ hL q
    · exact q.elim
  case h_6 =>
    split at q
    · exact fg_st1_mono hL (h _ _ _ _ _ _ _ (hL.set _ _)) q
    · exact q.elim
  case h_7 =>
    split at q
    · exact fg_st1_mono hL (h _ _ _ _ _ _ _ (hL.set _ _)) q
    · exact q.elim
  case h_8 =>
    split at q
    · exact fg_st2_mono hL (h _ _ _ _ _ _ _ ((hL.set _ _).set _ _)) q
    · exact q.elim
  case h_9 =>
    split at q
    · rename_i e
      rw [hL.at e]
      exact fg_st1_mono hL (h _ _ _ _ _ _ _ (hL.set _ _)) q
    · exact q.elim
  case h_26 =>
    split at q
    · split at q
      · exact fg_sw_mono (fun t => h _ _ _ _ _ _ _ hL) _ _ q
      · exact q.elim
    · exact q.elim
  case h_31 =>
    split at q
    · refine ⟨q.1, ?_⟩
      have q := q.2
      split at q <;> first | exact h _ _ _ _ _ _ _ hL q | exact q.elim
    · exact q.elim
  case h_38 =>
    split at q
    · exact ⟨q.1, fg_call_mono hc (fun d x u => h _ _ _ _ _ _ _ hL) q.2⟩
    · exact q.elim
  case h_39 =>
    split at q
    · exact ⟨q.1, fg_call_mono hc (fun d x u => h _ _ _ _ _ _ _ hL) q.2⟩
    · exact q.elim
  case h_40 =>
    split at q
    · exact fg_call_mono hc (fun d x u => h _ _ _ _ _ _ _ hL) q
    · exact q.elim
  case h_41 =>
    split at q
    · exact fg_call_mono hc (fun d x u => h _ _ _ _ _ _ _ hL) q
    · exact q.elim
  case h_42 =>
    split at q
    · exact fg_call_mono hc (fun d x u => h _ _ _ _ _ _ _ hL) q
    · exact q.elim
  case h_43 =>
    split at q
    · split at q
      · exact q.elim
      · obtain ⟨q1, q2, q3, q4, q5, q6⟩ := q
        exact ⟨q1, q2, q3, q4, q5, h _ _ _ _ _ _ _ hL q6⟩
    · exact q.elim
  case h_44 =>
    split at q
    · exact hQ _ _ q
    · exact q.elim
  case h_45 =>
    split at q
    · exact ⟨q.1, hQ _ _ q.2⟩
    · exact q.elim
  case h_46 =>
    split at q
    · exact hQ _ _ q
    · exact q.elim
  all_goals first
    | exact h _ _ _ _ _ _ _ hL q
    | exact q
    | (split at q
       all_goals first
         | exact q.elim
         | exact h _ _ _ _ _ _ _ hL q
         | exact ⟨q.1, h _ _ _ _ _ _ _ hL q.2⟩
         | exact ⟨q.1, q.2.1, h _ _ _ _ _ _ _ hL q.2.2⟩
         | exact ⟨q.1, q.2.1, q.2.2.1, h _ _ _ _ _ _ _ hL q.2.2.2⟩
         | exact ⟨fun c => h _ _ _ _ _ _ _ hL (q.1 c), fun c => h _ _ _ _ _ _ _ hL (q.2 c)⟩
         | exact fg_m1_mono (h _ _ _ _ _ _ _ hL) q)
theorem fg_G_mono3 {S S' : fg_P} {Q Q' : Int32 → fg_St → Prop} (h : ∀ d i pc L L' st σ, fg_le L L' → S d i pc L st σ Q → S' d i pc L' st σ Q') (hc : ∀ d i pc L st σ P, S d i pc L st σ P → S' d i pc L st σ P) (hQ : ∀ x u, Q x u → Q' x u) {d i pc : Nat} {L L' : List (Option Value)} (hL : fg_le L L') {st : List Value} {σ : fg_St} (q : fg_G S d i pc L st σ Q) : fg_G S' d i pc L' st σ Q' := by
  unfold fg_G at q ⊢
  split at q
  · exact q.elim
  · exact fg_op_mono h hc hQ hL q
theorem fg_op_lift {S S' : fg_P} (h : ∀ d i pc L st σ Q, S d i pc L st σ Q → S' d i pc L st σ Q) {d i np a b : Nat} {v : Int32} {L : List (Option Value)} {st : List Value} {σ : fg_St} {Q : Int32 → fg_St → Prop} {op : Nat} (q : fg_op S d i np a b v L st σ Q op) : fg_op S' d i np a b v L st σ Q op := by
  unfold fg_op at q ⊢
  split at q
  case h_6 =>
    split at q
    · exact fg_st1_mono (fg_le.refl L) (h _ _ _ _ _ _ _) q
    · exact q.elim
  case h_7 =>
    split at q
    · exact fg_st1_mono (fg_le.refl L) (h _ _ _ _ _ _ _) q
    · exact q.elim
  case h_8 =>
    split at q
    · exact fg_st2_mono (fg_le.refl L) (h _ _ _ _ _ _ _) q
    · exact q.elim
  case h_9 =>
    split at q
    · exact fg_st1_mono (fg_le.refl L) (h _ _ _ _ _ _ _) q
    · exact q.elim
  case h_26 =>
    split at q
    · split at q
      · exact fg_sw_mono (fun t => h _ _ _ _ _ _ _) _ _ q
      · exact q.elim
    · exact q.elim
  case h_31 =>
    split at q
    · refine ⟨q.1, ?_⟩
      have q := q.2
      split at q <;> first | exact h _ _ _ _ _ _ _ q | exact q.elim
    · exact q.elim
  case h_38 =>
    split at q
    · exact ⟨q.1, fg_call_mono h (fun d x u => h _ _ _ _ _ _ _) q.2⟩
    · exact q.elim
  case h_39 =>
    split at q
    · exact ⟨q.1, fg_call_mono h (fun d x u => h _ _ _ _ _ _ _) q.2⟩
    · exact q.elim
  case h_40 =>
    split at q
    · exact fg_call_mono h (fun d x u => h _ _ _ _ _ _ _) q
    · exact q.elim
  case h_41 =>
    split at q
    · exact fg_call_mono h (fun d x u => h _ _ _ _ _ _ _) q
    · exact q.elim
  case h_42 =>
    split at q
    · exact fg_call_mono h (fun d x u => h _ _ _ _ _ _ _) q
    · exact q.elim
  case h_43 =>
    split at q
    · split at q
      · exact q.elim
      · obtain ⟨q1, q2, q3, q4, q5, q6⟩ := q
        exact ⟨q1, q2, q3, q4, q5, h _ _ _ _ _ _ _ q6⟩
    · exact q.elim
  all_goals first
    | exact h _ _ _ _ _ _ _ q
    | exact q
    | (split at q
       all_goals first
         | exact q.elim
         | exact h _ _ _ _ _ _ _ q
         | exact q
         | exact ⟨q.1, h _ _ _ _ _ _ _ q.2⟩
         | exact ⟨q.1, q.2.1, h _ _ _ _ _ _ _ q.2.2⟩
         | exact ⟨q.1, q.2.1, q.2.2.1, h _ _ _ _ _ _ _ q.2.2.2⟩
         | exact ⟨fun c => h _ _ _ _ _ _ _ (q.1 c), fun c => h _ _ _ _ _ _ _ (q.2 c)⟩
         | exact fg_m1_mono (h _ _ _ _ _ _ _) q)
theorem fg_G_mono {S S' : fg_P} (h : ∀ d i pc L st σ Q, S d i pc L st σ Q → S' d i pc L st σ Q) {d i pc : Nat} {L : List (Option Value)} {st : List Value} {σ : fg_St} {Q : Int32 → fg_St → Prop} (q : fg_G S d i pc L st σ Q) : fg_G S' d i pc L st σ Q := by
  unfold fg_G at q ⊢
  split at q
  · exact q.elim
  · exact fg_op_lift h q
theorem fg_Run.intro {d i pc : Nat} {L : List (Option Value)} {st : List Value} {σ : fg_St} {Q : Int32 → fg_St → Prop} (q : fg_G fg_Run d i pc L st σ Q) : fg_Run d i pc L st σ Q :=
  fun S hS => hS _ _ _ _ _ _ _ (fg_G_mono (fun _ _ _ _ _ _ _ r => r S hS) q)
/-- more known locals, a weaker end -/
theorem fg_Run.more {d i pc : Nat} {L L' : List (Option Value)} {st : List Value} {σ : fg_St} {Q Q' : Int32 → fg_St → Prop} (hL : fg_le L L') (h : ∀ x u, Q x u → Q' x u) (q : fg_Run d i pc L st σ Q) : fg_Run d i pc L' st σ Q' := by
  have k := q (fun d i pc L st σ Q => ∀ L' Q', fg_le L L' → (∀ x u, Q x u → Q' x u) → fg_Run d i pc L' st σ Q') (fun d i pc L st σ Q g L' Q' hL h => by
    refine fg_Run.intro (fg_G_mono3 (Q := Q) (fun d i pc L L' st σ hl s => s _ _ hl h) (fun d i pc L st σ P s => s _ _ (fg_le.refl L) (fun _ _ z => z)) h hL g))
  exact k L' Q' hL h
theorem fg_Run.weaken {d i pc : Nat} {L : List (Option Value)} {st : List Value} {σ : fg_St} {Q Q' : Int32 → fg_St → Prop} (h : ∀ x u, Q x u → Q' x u) (q : fg_Run d i pc L st σ Q) : fg_Run d i pc L st σ Q' := q.more (fg_le.refl L) h
/-- locals forgotten, place by place -/
def fg_nl : Option Value → Prop
  | some (.long _) => False
  | some (.double _) => False
  | _ => True
def fg_leR : List (Option Value) → List (Option Value) → Prop
  | [], [] => True
  | none :: t, o :: t' => fg_nl o ∧ fg_leR t t'
  | some v :: t, o :: t' => o = some v ∧ fg_leR t t'
  | _, _ => False
theorem fg_leR.le : ∀ {L L' : List (Option Value)}, fg_leR L L' → fg_le L L' := by
  intro L
  induction L with
  | nil =>
    intro L' h
    cases L' with
    | nil => exact fg_le.refl _
    | cons _ _ => exact h.elim
  | cons a t ih =>
    intro L' h
    cases L' with
    | nil => cases a <;> exact h.elim
    | cons o t' =>
      cases a with
      | none =>
        obtain ⟨h1, h2⟩ := h
        have h3 := ih h2
        refine ⟨by simp [h3.1], fun k => ?_⟩
        cases k with
        | zero =>
          right
          refine ⟨rfl, fun x e => ?_⟩
          have e : o = some x := by simpa using e
          subst e
          cases x <;> first | rfl | exact h1.elim
        | succ k => simpa using h3.2 k
      | some v =>
        obtain ⟨h1, h2⟩ := h
        have h3 := ih h2
        subst h1
        refine ⟨by simp [h3.1], fun k => ?_⟩
        cases k with
        | zero => left; rfl
        | succ k => simpa using h3.2 k
theorem fg_Run.drop {d i pc : Nat} {L L' : List (Option Value)} {st : List Value} {σ : fg_St} {Q : Int32 → fg_St → Prop} (hL : fg_leR L L') (q : fg_Run d i pc L st σ Q) : fg_Run d i pc L' st σ Q := q.more hL.le (fun _ _ z => z)
def fg_mem : List Nat → Nat → Bool
  | [], _ => false
  | a :: t, q => match Nat.beq a q with
    | true => true
    | false => fg_mem t q
/-- n steps at most, to the next cut -/
def fg_B (S : fg_P) (cuts : List Nat) : Nat → fg_P
  | 0 => S
  | n + 1 => fun d i pc L st σ Q => match fg_mem cuts pc with
    | true => S d i pc L st σ Q
    | false => fg_G (fg_B S cuts n) d i pc L st σ Q
theorem fg_B_run (cuts : List Nat) : ∀ (n d i pc : Nat) (L : List (Option Value)) (st : List Value) (σ : fg_St) (Q : Int32 → fg_St → Prop), fg_B fg_Run cuts n d i pc L st σ Q → fg_Run d i pc L st σ Q := by
  intro n
  induction n with
  | zero => intro d i pc L st σ Q q; exact q
  | succ n ih =>
    intro d i pc L st σ Q q
    unfold fg_B at q
    split at q
    · exact q
    · exact fg_Run.intro (fg_G_mono ih q)
/-- a stretch of code: n steps at most, to the next cut (0 is one: a call's beginning) -/
theorem fg_blk (cuts : List Nat) (n : Nat) {d i pc : Nat} {L : List (Option Value)} {st : List Value} {σ : fg_St} {Q : Int32 → fg_St → Prop} (q : fg_G (fg_B fg_Run cuts n) d i pc L st σ Q) : fg_Run d i pc L st σ Q :=
  fg_Run.intro (fg_G_mono (fg_B_run cuts n) q)
theorem fg_cls {h c a : Nat} (e : fg_kd h = c) (r : (fg_mt[a]?.map fun m => m.1.cls) = (vwCl[c]?.map fun q => q.1)) : (fg_mt[a]?.map fun m => m.1.cls) = (vwCl[fg_kd h]?.map fun q => q.1) := by rw [e]; exact r
/-- rows copied -/
abbrev fg_cp (σ : fg_St) (h t sp dp n : Nat) : fg_St := (σ.1, σ.2.1, σ.2.2.1, va_up σ.2.2.2 t (va_cpy (σ.2.2.2 h) (σ.2.2.2 t) sp dp n))
theorem fg_vin {j : Int32} {n : Nat} (h1 : decide (j < 0) = false) (h2 : decide (n ≤ j.toNatClampNeg) = false) : vp_in j n := fun h => h.elim (of_decide_eq_false h1) (of_decide_eq_false h2)
/-- the decks but the one now -/
def fg_dks : List Nat := [42, 51, 59, 67, 75, 83, 91, 99, 107, 115, 123, 131, 139, 147, 155, 163, 171, 179]
theorem fg_nng : ¬ (0 : Int32) < 0 ∧ ¬ (0 : Int32) < 0 ∧ ¬ (10 : Int32) < 0 := ⟨by decide, by decide, by decide⟩
end
section
/-! STRETCHES OF CODE, between loops, as rules of the abstract machine (laid by wip/whole/blocks.py) -/
set_option maxRecDepth 100000 in
theorem b_DK_rig_0 {d : Nat} {σ : fg_St} {Q : Int32 → fg_St → Prop} {h1 : Nat} (Sh1 : h1 = 3 ∨ h1 = 9) (H : fg_Run (d + 1) 0 2 [some (.ref 15), some (.ref h1), some (.int 0)] [] σ Q) : fg_Run (d + 1) 0 0 [some (.ref 15), some (.ref h1), none] [] σ Q := by
  rcases Sh1 with rfl | rfl
  · exact fg_blk [0, 2, 66] 3 (H)
  · exact fg_blk [0, 2, 66] 3 (H)
set_option maxRecDepth 100000 in
theorem b_DK_rig_2 {d : Nat} {σ : fg_St} {Q : Int32 → fg_St → Prop} {h1 : Nat} {y2 : Int32} (Sh1 : h1 = 3 ∨ h1 = 9) (H : ((10 ≤ y2 → fg_Run (d + 1) 0 66 [some (.ref 15), some (.ref h1), some (.int 0)] [] σ Q) ∧ (¬ (10 ≤ y2) → (vp_in y2 10 ∧ (vp_in y2 10 ∧ (vp_in y2 10 ∧ (vp_in y2 10 ∧ (vp_in y2 10 ∧ (vp_in y2 10 ∧ (vp_in y2 10 ∧ (vp_in y2 10 ∧ fg_Run (d + 1) 0 2 [some (.ref 15), some (.ref h1), some (.int (y2 + 1))] [] (fg_sR (fg_sR (fg_sR (fg_sR (fg_sR σ 16 y2.toNatClampNeg (fg_R σ (h1 + 1) y2.toNatClampNeg)) 17 y2.toNatClampNeg (fg_R (fg_sR σ 16 y2.toNatClampNeg (fg_R σ (h1 + 1) y2.toNatClampNeg)) (h1 + 2) y2.toNatClampNeg)) 18 y2.toNatClampNeg (fg_R (fg_sR (fg_sR σ 16 y2.toNatClampNeg (fg_R σ (h1 + 1) y2.toNatClampNeg)) 17 y2.toNatClampNeg (fg_R (fg_sR σ 16 y2.toNatClampNeg (fg_R σ (h1 + 1) y2.toNatClampNeg)) (h1 + 2) y2.toNatClampNeg)) (h1 + 3) y2.toNatClampNeg)) 19 y2.toNatClampNeg 0) 20 y2.toNatClampNeg (-1)) Q))))))))))) : fg_Run (d + 1) 0 2 [some (.ref 15), some (.ref h1), some (.int y2)] [] σ Q := by
  rcases Sh1 with rfl | rfl
  · exact fg_blk [0, 2, 66] 40 (⟨fun z1 => (H.1 z1), fun z2 => ⟨rfl, ⟨rfl, ⟨rfl, ⟨(H.2 z2).1, ⟨rfl, ⟨(H.2 z2).2.1, ⟨rfl, ⟨rfl, ⟨rfl, ⟨(H.2 z2).2.2.1, ⟨rfl, ⟨(H.2 z2).2.2.2.1, ⟨rfl, ⟨rfl, ⟨rfl, ⟨(H.2 z2).2.2.2.2.1, ⟨rfl, ⟨(H.2 z2).2.2.2.2.2.1, ⟨rfl, ⟨rfl, ⟨(H.2 z2).2.2.2.2.2.2.1, ⟨rfl, ⟨rfl, ⟨(H.2 z2).2.2.2.2.2.2.2.1, (H.2 z2).2.2.2.2.2.2.2.2⟩⟩⟩⟩⟩⟩⟩⟩⟩⟩⟩⟩⟩⟩⟩⟩⟩⟩⟩⟩⟩⟩⟩⟩⟩)
  · exact fg_blk [0, 2, 66] 40 (⟨fun z1 => (H.1 z1), fun z2 => ⟨rfl, ⟨rfl, ⟨rfl, ⟨(H.2 z2).1, ⟨rfl, ⟨(H.2 z2).2.1, ⟨rfl, ⟨rfl, ⟨rfl, ⟨(H.2 z2).2.2.1, ⟨rfl, ⟨(H.2 z2).2.2.2.1, ⟨rfl, ⟨rfl, ⟨rfl, ⟨(H.2 z2).2.2.2.2.1, ⟨rfl, ⟨(H.2 z2).2.2.2.2.2.1, ⟨rfl, ⟨rfl, ⟨(H.2 z2).2.2.2.2.2.2.1, ⟨rfl, ⟨rfl, ⟨(H.2 z2).2.2.2.2.2.2.2.1, (H.2 z2).2.2.2.2.2.2.2.2⟩⟩⟩⟩⟩⟩⟩⟩⟩⟩⟩⟩⟩⟩⟩⟩⟩⟩⟩⟩⟩⟩⟩⟩⟩)
set_option maxRecDepth 100000 in
theorem b_DK_rig_66 {d : Nat} {σ : fg_St} {Q : Int32 → fg_St → Prop} {h1 : Nat} {y2 : Int32} (Sh1 : h1 = 3 ∨ h1 = 9) (H : ((3 ≤ y2 → (∃ P, fg_Run d 30 0 [some (.ref h1)] [] (fg_sF (fg_sF (fg_sF (fg_sF σ 15 7 0) 15 8 0) 15 9 0) 15 10 0) P ∧ ∀ x1 u2, P x1 u2 → ((x1 = 0 → Q 0 (fg_sF u2 15 11 0)) ∧ (¬ (x1 = 0) → Q 0 (fg_sF u2 15 11 1))))) ∧ (¬ (3 ≤ y2) → (∃ P, fg_Run d 11 0 [some (.ref 15), some (.int y2), none] [] σ P ∧ ∀ x3 u4, P x3 u4 → fg_Run (d + 1) 0 66 [some (.ref 15), some (.ref h1), some (.int (y2 + 1))] [] u4 Q)))) : fg_Run (d + 1) 0 66 [some (.ref 15), some (.ref h1), some (.int y2)] [] σ Q := by
  rcases Sh1 with rfl | rfl
  · exact fg_blk [0, 2, 66] 23 (⟨fun z3 => ⟨rfl, ⟨rfl, ⟨rfl, ⟨rfl, ⟨rfl, (match (H.1 z3) with | ⟨z5, z6, z7f⟩ => ⟨z5, z6, fun x1 u2 z7p => ⟨fun z8 => ⟨rfl, ((z7f x1 u2 z7p).1 z8)⟩, fun z9 => ⟨rfl, ((z7f x1 u2 z7p).2 z9)⟩⟩⟩)⟩⟩⟩⟩⟩, fun z4 => ⟨rfl, (match (H.2 z4) with | ⟨z10, z11, z12f⟩ => ⟨z10, z11, fun x3 u4 z12p => (z12f x3 u4 z12p)⟩)⟩⟩)
  · exact fg_blk [0, 2, 66] 23 (⟨fun z3 => ⟨rfl, ⟨rfl, ⟨rfl, ⟨rfl, ⟨rfl, (match (H.1 z3) with | ⟨z5, z6, z7f⟩ => ⟨z5, z6, fun x1 u2 z7p => ⟨fun z8 => ⟨rfl, ((z7f x1 u2 z7p).1 z8)⟩, fun z9 => ⟨rfl, ((z7f x1 u2 z7p).2 z9)⟩⟩⟩)⟩⟩⟩⟩⟩, fun z4 => ⟨rfl, (match (H.2 z4) with | ⟨z10, z11, z12f⟩ => ⟨z10, z11, fun x3 u4 z12p => (z12f x3 u4 z12p)⟩)⟩⟩)
set_option maxRecDepth 100000 in
theorem b_DK_become_0 {d : Nat} {σ : fg_St} {Q : Int32 → fg_St → Prop} {h0 : Nat} {h1 : Nat} (H : (fg_kd h1 = 0 ∧ (fg_kd h0 = 0 ∧ ((fg_kd (fg_pt σ h1 0) = 11 ∧ fg_kd (fg_pt σ h0 0) = 11 ∧ 10 ≤ fg_ln (fg_pt σ h1 0) ∧ 10 ≤ fg_ln (fg_pt σ h0 0)) ∧ fg_Run (d + 1) 1 15 [some (.ref h0), some (.ref h1)] [] (fg_cp σ (fg_pt σ h1 0) (fg_pt σ h0 0) 0 0 10) Q)))) : fg_Run (d + 1) 1 0 [some (.ref h0), some (.ref h1)] [] σ Q := fg_blk [0, 15, 30, 45, 60, 75, 89, 104] 9 (⟨H.1, ⟨H.2.1, ⟨H.2.2.1.1, H.2.2.1.2.1, ⟨by decide, by decide, by decide⟩, H.2.2.1.2.2.1, H.2.2.1.2.2.2, H.2.2.2⟩⟩⟩)
set_option maxRecDepth 100000 in
theorem b_DK_become_15 {d : Nat} {σ : fg_St} {Q : Int32 → fg_St → Prop} {h0 : Nat} {h1 : Nat} (H : (fg_kd h1 = 0 ∧ (fg_kd h0 = 0 ∧ ((fg_kd (fg_pt σ h1 1) = 11 ∧ fg_kd (fg_pt σ h0 1) = 11 ∧ 10 ≤ fg_ln (fg_pt σ h1 1) ∧ 10 ≤ fg_ln (fg_pt σ h0 1)) ∧ fg_Run (d + 1) 1 30 [some (.ref h0), some (.ref h1)] [] (fg_cp σ (fg_pt σ h1 1) (fg_pt σ h0 1) 0 0 10) Q)))) : fg_Run (d + 1) 1 15 [some (.ref h0), some (.ref h1)] [] σ Q := fg_blk [0, 15, 30, 45, 60, 75, 89, 104] 9 (⟨H.1, ⟨H.2.1, ⟨H.2.2.1.1, H.2.2.1.2.1, ⟨by decide, by decide, by decide⟩, H.2.2.1.2.2.1, H.2.2.1.2.2.2, H.2.2.2⟩⟩⟩)
set_option maxRecDepth 100000 in
theorem b_DK_become_30 {d : Nat} {σ : fg_St} {Q : Int32 → fg_St → Prop} {h0 : Nat} {h1 : Nat} (H : (fg_kd h1 = 0 ∧ (fg_kd h0 = 0 ∧ ((fg_kd (fg_pt σ h1 2) = 11 ∧ fg_kd (fg_pt σ h0 2) = 11 ∧ 10 ≤ fg_ln (fg_pt σ h1 2) ∧ 10 ≤ fg_ln (fg_pt σ h0 2)) ∧ fg_Run (d + 1) 1 45 [some (.ref h0), some (.ref h1)] [] (fg_cp σ (fg_pt σ h1 2) (fg_pt σ h0 2) 0 0 10) Q)))) : fg_Run (d + 1) 1 30 [some (.ref h0), some (.ref h1)] [] σ Q := fg_blk [0, 15, 30, 45, 60, 75, 89, 104] 9 (⟨H.1, ⟨H.2.1, ⟨H.2.2.1.1, H.2.2.1.2.1, ⟨by decide, by decide, by decide⟩, H.2.2.1.2.2.1, H.2.2.1.2.2.2, H.2.2.2⟩⟩⟩)
set_option maxRecDepth 100000 in
theorem b_DK_become_45 {d : Nat} {σ : fg_St} {Q : Int32 → fg_St → Prop} {h0 : Nat} {h1 : Nat} (H : (fg_kd h1 = 0 ∧ (fg_kd h0 = 0 ∧ ((fg_kd (fg_pt σ h1 3) = 11 ∧ fg_kd (fg_pt σ h0 3) = 11 ∧ 10 ≤ fg_ln (fg_pt σ h1 3) ∧ 10 ≤ fg_ln (fg_pt σ h0 3)) ∧ fg_Run (d + 1) 1 60 [some (.ref h0), some (.ref h1)] [] (fg_cp σ (fg_pt σ h1 3) (fg_pt σ h0 3) 0 0 10) Q)))) : fg_Run (d + 1) 1 45 [some (.ref h0), some (.ref h1)] [] σ Q := fg_blk [0, 15, 30, 45, 60, 75, 89, 104] 9 (⟨H.1, ⟨H.2.1, ⟨H.2.2.1.1, H.2.2.1.2.1, ⟨by decide, by decide, by decide⟩, H.2.2.1.2.2.1, H.2.2.1.2.2.2, H.2.2.2⟩⟩⟩)
set_option maxRecDepth 100000 in
theorem b_DK_become_60 {d : Nat} {σ : fg_St} {Q : Int32 → fg_St → Prop} {h0 : Nat} {h1 : Nat} (H : (fg_kd h1 = 0 ∧ (fg_kd h0 = 0 ∧ ((fg_kd (fg_pt σ h1 4) = 11 ∧ fg_kd (fg_pt σ h0 4) = 11 ∧ 10 ≤ fg_ln (fg_pt σ h1 4) ∧ 10 ≤ fg_ln (fg_pt σ h0 4)) ∧ fg_Run (d + 1) 1 75 [some (.ref h0), some (.ref h1)] [] (fg_cp σ (fg_pt σ h1 4) (fg_pt σ h0 4) 0 0 10) Q)))) : fg_Run (d + 1) 1 60 [some (.ref h0), some (.ref h1)] [] σ Q := fg_blk [0, 15, 30, 45, 60, 75, 89, 104] 9 (⟨H.1, ⟨H.2.1, ⟨H.2.2.1.1, H.2.2.1.2.1, ⟨by decide, by decide, by decide⟩, H.2.2.1.2.2.1, H.2.2.1.2.2.2, H.2.2.2⟩⟩⟩)
set_option maxRecDepth 100000 in
theorem b_DK_become_75 {d : Nat} {σ : fg_St} {Q : Int32 → fg_St → Prop} {h0 : Nat} {h1 : Nat} (H : (fg_kd h1 = 0 ∧ (fg_kd h0 = 0 ∧ ((fg_kd (fg_pt σ h1 5) = 11 ∧ fg_kd (fg_pt σ h0 5) = 11 ∧ 3 ≤ fg_ln (fg_pt σ h1 5) ∧ 3 ≤ fg_ln (fg_pt σ h0 5)) ∧ fg_Run (d + 1) 1 89 [some (.ref h0), some (.ref h1)] [] (fg_cp σ (fg_pt σ h1 5) (fg_pt σ h0 5) 0 0 3) Q)))) : fg_Run (d + 1) 1 75 [some (.ref h0), some (.ref h1)] [] σ Q := fg_blk [0, 15, 30, 45, 60, 75, 89, 104] 9 (⟨H.1, ⟨H.2.1, ⟨H.2.2.1.1, H.2.2.1.2.1, ⟨by decide, by decide, by decide⟩, H.2.2.1.2.2.1, H.2.2.1.2.2.2, H.2.2.2⟩⟩⟩)
set_option maxRecDepth 100000 in
theorem b_DK_become_89 {d : Nat} {σ : fg_St} {Q : Int32 → fg_St → Prop} {h0 : Nat} {h1 : Nat} (H : (fg_kd h1 = 0 ∧ (fg_kd h0 = 0 ∧ ((fg_kd (fg_pt σ h1 6) = 11 ∧ fg_kd (fg_pt σ h0 6) = 11 ∧ 12 ≤ fg_ln (fg_pt σ h1 6) ∧ 12 ≤ fg_ln (fg_pt σ h0 6)) ∧ fg_Run (d + 1) 1 104 [some (.ref h0), some (.ref h1)] [] (fg_cp σ (fg_pt σ h1 6) (fg_pt σ h0 6) 0 0 12) Q)))) : fg_Run (d + 1) 1 89 [some (.ref h0), some (.ref h1)] [] σ Q := fg_blk [0, 15, 30, 45, 60, 75, 89, 104] 9 (⟨H.1, ⟨H.2.1, ⟨H.2.2.1.1, H.2.2.1.2.1, ⟨by decide, by decide, by decide⟩, H.2.2.1.2.2.1, H.2.2.1.2.2.2, H.2.2.2⟩⟩⟩)
set_option maxRecDepth 100000 in
theorem b_DK_become_104 {d : Nat} {σ : fg_St} {Q : Int32 → fg_St → Prop} {h0 : Nat} {h1 : Nat} (H : (fg_kd h1 = 0 ∧ (fg_kd h0 = 0 ∧ (fg_kd h1 = 0 ∧ (fg_kd h0 = 0 ∧ (fg_kd h1 = 0 ∧ (fg_kd h0 = 0 ∧ (fg_kd h1 = 0 ∧ (fg_kd h0 = 0 ∧ (fg_kd h1 = 0 ∧ (fg_kd h0 = 0 ∧ Q 0 (fg_sF (fg_sF (fg_sF (fg_sF (fg_sF σ h0 7 (fg_F σ h1 7)) h0 8 (fg_F σ h1 8)) h0 9 (fg_F σ h1 9)) h0 10 (fg_F σ h1 10)) h0 11 (fg_F σ h1 11))))))))))))) : fg_Run (d + 1) 1 104 [some (.ref h0), some (.ref h1)] [] σ Q := fg_blk [0, 15, 30, 45, 60, 75, 89, 104] 21 (⟨H.1, ⟨H.2.1, ⟨H.2.2.1, ⟨H.2.2.2.1, ⟨H.2.2.2.2.1, ⟨H.2.2.2.2.2.1, ⟨H.2.2.2.2.2.2.1, ⟨H.2.2.2.2.2.2.2.1, ⟨H.2.2.2.2.2.2.2.2.1, ⟨H.2.2.2.2.2.2.2.2.2.1, H.2.2.2.2.2.2.2.2.2.2⟩⟩⟩⟩⟩⟩⟩⟩⟩⟩)
set_option maxRecDepth 100000 in
theorem b_DK_weatherNumber_0 {d : Nat} {σ : fg_St} {Q : Int32 → fg_St → Prop} (H : Q ((2 * (fg_F σ 15 10)) + (fg_F σ 15 11)) σ) : fg_Run d 2 0 [some (.ref 15)] [] σ Q := fg_blk [0] 8 (⟨rfl, ⟨rfl, H⟩⟩)
set_option maxRecDepth 100000 in
theorem b_DK_freeFlags_0 {d : Nat} {σ : fg_St} {Q : Int32 → fg_St → Prop} {h1 : Nat} (Sh1 : h1 = 3 ∨ h1 = 9) (H : (∃ P, fg_Run d 36 0 [some (.ref h1)] [] σ P ∧ ∀ x1 u2, P x1 u2 → fg_Run (d + 1) 3 14 [some (.ref 15), none, some (.int (x1 &&& ((fg_F u2 15 7) ^^^ (-1)))), some (.int 0)] [] u2 Q)) : fg_Run (d + 1) 3 0 [some (.ref 15), some (.ref h1), none, none] [] σ Q := by
  rcases Sh1 with rfl | rfl
  · exact fg_blk [0, 14] 11 (⟨rfl, (match H with | ⟨z13, z14, z15f⟩ => ⟨z13, z14, fun x1 u2 z15p => ⟨rfl, (fg_Run.drop (L := [some _, none, some _, some _]) ⟨rfl, ⟨trivial, ⟨rfl, ⟨rfl, trivial⟩⟩⟩⟩ (z15f x1 u2 z15p))⟩⟩)⟩)
  · exact fg_blk [0, 14] 11 (⟨rfl, (match H with | ⟨z13, z14, z15f⟩ => ⟨z13, z14, fun x1 u2 z15p => ⟨rfl, (fg_Run.drop (L := [some _, none, some _, some _]) ⟨rfl, ⟨trivial, ⟨rfl, ⟨rfl, trivial⟩⟩⟩⟩ (z15f x1 u2 z15p))⟩⟩)⟩)
set_option maxRecDepth 100000 in
theorem b_DK_freeFlags_14 {d : Nat} {σ : fg_St} {Q : Int32 → fg_St → Prop} {y2 : Int32} {y3 : Int32} (H : ((10 ≤ y3 → Q y2 σ) ∧ (¬ (10 ≤ y3) → (vp_in y3 10 ∧ (((fg_R σ 20 y3.toNatClampNeg) = (-1) → fg_Run (d + 1) 3 14 [some (.ref 15), none, some (.int y2), some (.int (y3 + 1))] [] σ Q) ∧ (¬ ((fg_R σ 20 y3.toNatClampNeg) = (-1)) → fg_Run (d + 1) 3 14 [some (.ref 15), none, some (.int (y2 &&& ((1 <<< (y3 &&& 31)) ^^^ (-1)))), some (.int (y3 + 1))] [] σ Q)))))) : fg_Run (d + 1) 3 14 [some (.ref 15), none, some (.int y2), some (.int y3)] [] σ Q := fg_blk [0, 14] 20 (⟨fun z16 => (H.1 z16), fun z17 => ⟨rfl, ⟨rfl, ⟨(H.2 z17).1, ⟨fun z18 => ((H.2 z17).2.1 z18), fun z19 => ((H.2 z17).2.2 z19)⟩⟩⟩⟩⟩)
set_option maxRecDepth 100000 in
theorem b_DK_freeSubstitutes_0 {d : Nat} {σ : fg_St} {Q : Int32 → fg_St → Prop} {h1 : Nat} (Sh1 : h1 = 3 ∨ h1 = 9) (H : (∃ P, fg_Run d 37 0 [some (.ref h1)] [] σ P ∧ ∀ x1 u2, P x1 u2 → Q (x1 &&& ((fg_F u2 15 8) ^^^ (-1))) u2)) : fg_Run (d + 1) 4 0 [some (.ref 15), some (.ref h1)] [] σ Q := by
  rcases Sh1 with rfl | rfl
  · exact fg_blk [0] 8 (⟨rfl, (match H with | ⟨z20, z21, z22f⟩ => ⟨z20, z21, fun x1 u2 z22p => ⟨rfl, (z22f x1 u2 z22p)⟩⟩)⟩)
  · exact fg_blk [0] 8 (⟨rfl, (match H with | ⟨z20, z21, z22f⟩ => ⟨z20, z21, fun x1 u2 z22p => ⟨rfl, (z22f x1 u2 z22p)⟩⟩)⟩)
set_option maxRecDepth 100000 in
theorem b_DK_lookIn_0 {d : Nat} {σ : fg_St} {Q : Int32 → fg_St → Prop} {a0 : Int32} {a1 : Int32} {a2 : Int32} (H : ((a0 < 0 → Q (-1) σ) ∧ (¬ (a0 < 0) → ((a0 < 10 → (vp_in a0 10 ∧ (vp_in a0 10 ∧ (vp_in a0 10 ∧ (∃ P, fg_Run d 108 0 [some (.int (fg_R σ 16 a0.toNatClampNeg)), some (.int (fg_R σ 17 a0.toNatClampNeg)), some (.int (fg_R σ 18 a0.toNatClampNeg)), some (.int a1), some (.int a2), none, none, none] [] σ P ∧ ∀ x1 u2, P x1 u2 → Q x1 u2))))) ∧ (¬ (a0 < 10) → Q (-1) σ))))) : fg_Run (d + 1) 5 0 [some (.ref 15), some (.int a0), some (.int a1), some (.int a2)] [] σ Q := fg_blk [0] 21 (⟨fun z23 => (H.1 z23), fun z24 => ⟨fun z25 => ⟨rfl, ⟨rfl, ⟨((H.2 z24).1 z25).1, ⟨rfl, ⟨rfl, ⟨((H.2 z24).1 z25).2.1, ⟨rfl, ⟨rfl, ⟨((H.2 z24).1 z25).2.2.1, (match ((H.2 z24).1 z25).2.2.2 with | ⟨z27, z28, z29f⟩ => ⟨z27, z28, fun x1 u2 z29p => (z29f x1 u2 z29p)⟩)⟩⟩⟩⟩⟩⟩⟩⟩⟩, fun z26 => ((H.2 z24).2 z26)⟩⟩)
set_option maxRecDepth 100000 in
theorem b_DK_lineOf_0 {d : Nat} {σ : fg_St} {Q : Int32 → fg_St → Prop} {a0 : Int32} (H : fg_Run d 6 2 [some (.ref 15), some (.int a0), some (.int 0)] [] σ Q) : fg_Run d 6 0 [some (.ref 15), some (.int a0), none] [] σ Q := fg_blk [0, 2] 3 (H)
set_option maxRecDepth 100000 in
theorem b_DK_lineOf_2 {d : Nat} {σ : fg_St} {Q : Int32 → fg_St → Prop} {y1 : Int32} {y2 : Int32} (H : ((3 ≤ y2 → Q (-1) σ) ∧ (¬ (3 ≤ y2) → (vp_in y2 3 ∧ ((¬ (fg_R σ 21 y2.toNatClampNeg) = y1 → fg_Run d 6 2 [some (.ref 15), some (.int y1), some (.int (y2 + 1))] [] σ Q) ∧ ((fg_R σ 21 y2.toNatClampNeg) = y1 → Q y2 σ)))))) : fg_Run d 6 2 [some (.ref 15), some (.int y1), some (.int y2)] [] σ Q := fg_blk [0, 2] 12 (⟨fun z30 => (H.1 z30), fun z31 => ⟨rfl, ⟨rfl, ⟨(H.2 z31).1, ⟨fun z32 => ((H.2 z31).2.1 z32), fun z33 => ((H.2 z31).2.2 (Classical.not_not.mp z33))⟩⟩⟩⟩⟩)
set_option maxRecDepth 100000 in
theorem b_DK_canBeSewn_0 {d : Nat} {σ : fg_St} {Q : Int32 → fg_St → Prop} {a0 : Int32} (H : ((a0 < 0 → Q 0 σ) ∧ (¬ (a0 < 0) → ((10 ≤ a0 → Q 0 σ) ∧ (¬ (10 ≤ a0) → (vp_in a0 10 ∧ ((¬ (fg_R σ 20 a0.toNatClampNeg) = (-1) → Q 0 σ) ∧ ((fg_R σ 20 a0.toNatClampNeg) = (-1) → (∃ P, fg_Run d 87 0 [some (.int (fg_F σ 15 7)), some (.int a0)] [] σ P ∧ ∀ x1 u2, P x1 u2 → ((x1 = 0 → Q 0 u2) ∧ (¬ (x1 = 0) → Q 1 u2))))))))))) : fg_Run (d + 1) 7 0 [some (.ref 15), some (.int a0)] [] σ Q := fg_blk [0] 19 (⟨fun z34 => ⟨(by decide), (H.1 z34)⟩, fun z35 => ⟨fun z36 => ⟨(by decide), ((H.2 z35).1 z36)⟩, fun z37 => ⟨rfl, ⟨rfl, ⟨((H.2 z35).2 z37).1, ⟨fun z38 => ⟨(by decide), (((H.2 z35).2 z37).2.1 z38)⟩, fun z39 => ⟨rfl, (match (((H.2 z35).2 z37).2.2 (Classical.not_not.mp z39)) with | ⟨z40, z41, z42f⟩ => ⟨z40, z41, fun x1 u2 z42p => ⟨fun z43 => ⟨(by decide), ((z42f x1 u2 z42p).1 z43)⟩, fun z44 => ⟨(by decide), ((z42f x1 u2 z42p).2 z44)⟩⟩⟩)⟩⟩⟩⟩⟩⟩⟩)
set_option maxRecDepth 100000 in
theorem b_DK_mend_0 {d : Nat} {σ : fg_St} {Q : Int32 → fg_St → Prop} {a0 : Int32} (H : ((a0 < 0 → Q 0 σ) ∧ (¬ (a0 < 0) → ((10 ≤ a0 → Q 0 σ) ∧ (¬ (10 ≤ a0) → (vp_in a0 10 ∧ Q 0 (fg_sF (fg_sR σ 19 a0.toNatClampNeg 0) 15 7 ((fg_F σ 15 7) &&& ((1 <<< (a0 &&& 31)) ^^^ (-1)))))))))) : fg_Run d 8 0 [some (.ref 15), some (.int a0)] [] σ Q := fg_blk [0] 21 (⟨fun z45 => (H.1 z45), fun z46 => ⟨fun z47 => ((H.2 z46).1 z47), fun z48 => ⟨rfl, ⟨rfl, ⟨((H.2 z46).2 z48).1, ⟨rfl, ⟨rfl, ((H.2 z46).2 z48).2⟩⟩⟩⟩⟩⟩⟩)
set_option maxRecDepth 100000 in
theorem b_DK_raise_0 {d : Nat} {σ : fg_St} {Q : Int32 → fg_St → Prop} {a0 : Int32} {a1 : Int32} {h3 : Nat} (H : (vp_in a0 3 ∧ fg_Run d 9 13 [some (.ref 15), some (.int a0), none, some (.ref h3), some (.int 0), some (.int 0), none] [] (fg_sR σ 21 a0.toNatClampNeg a1) Q)) : fg_Run d 9 0 [some (.ref 15), some (.int a0), some (.int a1), some (.ref h3), none, none, none] [] σ Q := fg_blk [0, 13] 10 (⟨rfl, ⟨rfl, ⟨H.1, (fg_Run.drop (L := [some _, some _, none, some _, some _, some _, none]) ⟨rfl, ⟨rfl, ⟨trivial, ⟨rfl, ⟨rfl, ⟨rfl, ⟨trivial, trivial⟩⟩⟩⟩⟩⟩⟩ H.2)⟩⟩⟩)
set_option maxRecDepth 100000 in
theorem b_DK_raise_13 {d : Nat} {σ : fg_St} {Q : Int32 → fg_St → Prop} {y1 : Int32} {h3 : Nat} {y4 : Int32} {y5 : Int32} (H : ((4 ≤ y5 → Q y4 σ) ∧ (¬ (4 ≤ y5) → ((11 ≤ fg_kd h3 ∧ fg_kd h3 ≤ 14) ∧ (((Int32.ofNat (fg_ln h3)) ≤ y5 → Q y4 σ) ∧ (¬ ((Int32.ofNat (fg_ln h3)) ≤ y5) → (fg_kd h3 = 11 ∧ (vp_in y5 (fg_ln h3) ∧ (vp_in ((y1 * 4) + y5) 12 ∧ (((fg_R σ h3 y5.toNatClampNeg) ≤ 20 → (((fg_R σ h3 y5.toNatClampNeg) < 0 → fg_Run d 9 13 [some (.ref 15), some (.int y1), none, some (.ref h3), some (.int y4), some (.int (y5 + 1)), none] [] (fg_sR σ 22 (((y1 * 4) + y5).toNatClampNeg) (fg_R σ h3 y5.toNatClampNeg)) Q) ∧ (¬ ((fg_R σ h3 y5.toNatClampNeg) < 0) → ((10 ≤ (fg_R σ h3 y5.toNatClampNeg) → fg_Run d 9 13 [some (.ref 15), some (.int y1), none, some (.ref h3), some (.int y4), some (.int (y5 + 1)), none] [] (fg_sR σ 22 (((y1 * 4) + y5).toNatClampNeg) (fg_R σ h3 y5.toNatClampNeg)) Q) ∧ (¬ (10 ≤ (fg_R σ h3 y5.toNatClampNeg)) → (vp_in (fg_R σ h3 y5.toNatClampNeg) 10 ∧ fg_Run d 9 13 [some (.ref 15), some (.int y1), none, some (.ref h3), some (.int y4), some (.int (y5 + 1)), none] [] (fg_sR (fg_sR σ 22 (((y1 * 4) + y5).toNatClampNeg) (fg_R σ h3 y5.toNatClampNeg)) 20 ((fg_R σ h3 y5.toNatClampNeg).toNatClampNeg) y1) Q)))))) ∧ (¬ ((fg_R σ h3 y5.toNatClampNeg) ≤ 20) → fg_Run d 9 13 [some (.ref 15), some (.int y1), none, some (.ref h3), some (.int (y4 + 1)), some (.int (y5 + 1)), none] [] (fg_sF (fg_sR σ 22 (((y1 * 4) + y5).toNatClampNeg) (fg_R σ h3 y5.toNatClampNeg)) 15 8 ((fg_F σ 15 8) ||| (1 <<< (((fg_R σ h3 y5.toNatClampNeg) - 20) &&& 31)))) Q))))))))))) : fg_Run d 9 13 [some (.ref 15), some (.int y1), none, some (.ref h3), some (.int y4), some (.int y5), none] [] σ Q := fg_blk [0, 13] 38 (⟨fun z49 => (H.1 z49), fun z50 => ⟨(H.2 z50).1, ⟨fun z51 => ((H.2 z50).2.1 z51), fun z52 => ⟨((H.2 z50).2.2 z52).1, ⟨((H.2 z50).2.2 z52).2.1, ⟨rfl, ⟨rfl, ⟨((H.2 z50).2.2 z52).2.2.1, ⟨fun z53 => ⟨fun z55 => (fg_Run.drop (L := [some _, some _, none, some _, some _, some _, none]) ⟨rfl, ⟨rfl, ⟨trivial, ⟨rfl, ⟨rfl, ⟨rfl, ⟨trivial, trivial⟩⟩⟩⟩⟩⟩⟩ ((((H.2 z50).2.2 z52).2.2.2.1 z53).1 z55)), fun z56 => ⟨fun z57 => (fg_Run.drop (L := [some _, some _, none, some _, some _, some _, none]) ⟨rfl, ⟨rfl, ⟨trivial, ⟨rfl, ⟨rfl, ⟨rfl, ⟨trivial, trivial⟩⟩⟩⟩⟩⟩⟩ (((((H.2 z50).2.2 z52).2.2.2.1 z53).2 z56).1 z57)), fun z58 => ⟨rfl, ⟨rfl, ⟨(((((H.2 z50).2.2 z52).2.2.2.1 z53).2 z56).2 z58).1, (fg_Run.drop (L := [some _, some _, none, some _, some _, some _, none]) ⟨rfl, ⟨rfl, ⟨trivial, ⟨rfl, ⟨rfl, ⟨rfl, ⟨trivial, trivial⟩⟩⟩⟩⟩⟩⟩ (((((H.2 z50).2.2 z52).2.2.2.1 z53).2 z56).2 z58).2)⟩⟩⟩⟩⟩, fun z54 => ⟨rfl, ⟨rfl, (fg_Run.drop (L := [some _, some _, none, some _, some _, some _, none]) ⟨rfl, ⟨rfl, ⟨trivial, ⟨rfl, ⟨rfl, ⟨rfl, ⟨trivial, trivial⟩⟩⟩⟩⟩⟩⟩ (((H.2 z50).2.2 z52).2.2.2.2 z54))⟩⟩⟩⟩⟩⟩⟩⟩⟩⟩⟩)
set_option maxRecDepth 100000 in
theorem b_DK_lower_0 {d : Nat} {σ : fg_St} {Q : Int32 → fg_St → Prop} {a0 : Int32} (H : (vp_in a0 3 ∧ fg_Run (d + 1) 10 9 [some (.ref 15), some (.int a0), some (.int (fg_R σ 21 a0.toNatClampNeg)), some (.int 0), none] [] σ Q)) : fg_Run (d + 1) 10 0 [some (.ref 15), some (.int a0), none, none, none] [] σ Q := fg_blk [0, 9] 8 (⟨rfl, ⟨rfl, ⟨H.1, H.2⟩⟩⟩)
set_option maxRecDepth 100000 in
theorem b_DK_lower_9 {d : Nat} {σ : fg_St} {Q : Int32 → fg_St → Prop} {y1 : Int32} {y2 : Int32} {y3 : Int32} (H : ((4 ≤ y3 → (∃ P, fg_Run d 11 0 [some (.ref 15), some (.int y1), none] [] σ P ∧ ∀ x1 u2, P x1 u2 → Q y2 u2)) ∧ (¬ (4 ≤ y3) → (vp_in ((y1 * 4) + y3) 12 ∧ (((fg_R σ 22 (((y1 * 4) + y3).toNatClampNeg)) ≤ 20 → (((fg_R σ 22 (((y1 * 4) + y3).toNatClampNeg)) < 0 → fg_Run (d + 1) 10 9 [some (.ref 15), some (.int y1), some (.int y2), some (.int (y3 + 1)), none] [] σ Q) ∧ (¬ ((fg_R σ 22 (((y1 * 4) + y3).toNatClampNeg)) < 0) → ((10 ≤ (fg_R σ 22 (((y1 * 4) + y3).toNatClampNeg)) → fg_Run (d + 1) 10 9 [some (.ref 15), some (.int y1), some (.int y2), some (.int (y3 + 1)), none] [] σ Q) ∧ (¬ (10 ≤ (fg_R σ 22 (((y1 * 4) + y3).toNatClampNeg))) → (vp_in (fg_R σ 22 (((y1 * 4) + y3).toNatClampNeg)) 10 ∧ fg_Run (d + 1) 10 9 [some (.ref 15), some (.int y1), some (.int y2), some (.int (y3 + 1)), none] [] (fg_sR σ 20 ((fg_R σ 22 (((y1 * 4) + y3).toNatClampNeg)).toNatClampNeg) (-1)) Q)))))) ∧ (¬ ((fg_R σ 22 (((y1 * 4) + y3).toNatClampNeg)) ≤ 20) → fg_Run (d + 1) 10 9 [some (.ref 15), some (.int y1), some (.int y2), some (.int (y3 + 1)), none] [] (fg_sF σ 15 8 ((fg_F σ 15 8) &&& ((1 <<< (((fg_R σ 22 (((y1 * 4) + y3).toNatClampNeg)) - 20) &&& 31)) ^^^ (-1)))) Q)))))) : fg_Run (d + 1) 10 9 [some (.ref 15), some (.int y1), some (.int y2), some (.int y3), none] [] σ Q := fg_blk [0, 9] 31 (⟨fun z59 => ⟨rfl, (match (H.1 z59) with | ⟨z61, z62, z63f⟩ => ⟨z61, z62, fun x1 u2 z63p => (z63f x1 u2 z63p)⟩)⟩, fun z60 => ⟨rfl, ⟨rfl, ⟨(H.2 z60).1, ⟨fun z64 => ⟨fun z66 => (fg_Run.drop (L := [some _, some _, some _, some _, none]) ⟨rfl, ⟨rfl, ⟨rfl, ⟨rfl, ⟨trivial, trivial⟩⟩⟩⟩⟩ (((H.2 z60).2.1 z64).1 z66)), fun z67 => ⟨fun z68 => (fg_Run.drop (L := [some _, some _, some _, some _, none]) ⟨rfl, ⟨rfl, ⟨rfl, ⟨rfl, ⟨trivial, trivial⟩⟩⟩⟩⟩ ((((H.2 z60).2.1 z64).2 z67).1 z68)), fun z69 => ⟨rfl, ⟨rfl, ⟨((((H.2 z60).2.1 z64).2 z67).2 z69).1, (fg_Run.drop (L := [some _, some _, some _, some _, none]) ⟨rfl, ⟨rfl, ⟨rfl, ⟨rfl, ⟨trivial, trivial⟩⟩⟩⟩⟩ ((((H.2 z60).2.1 z64).2 z67).2 z69).2)⟩⟩⟩⟩⟩, fun z65 => ⟨rfl, ⟨rfl, (fg_Run.drop (L := [some _, some _, some _, some _, none]) ⟨rfl, ⟨rfl, ⟨rfl, ⟨rfl, ⟨trivial, trivial⟩⟩⟩⟩⟩ ((H.2 z60).2.2 z65))⟩⟩⟩⟩⟩⟩⟩)
set_option maxRecDepth 100000 in
theorem b_DK_emptyLine_0 {d : Nat} {σ : fg_St} {Q : Int32 → fg_St → Prop} {a0 : Int32} (H : (vp_in a0 3 ∧ fg_Run d 11 9 [some (.ref 15), some (.int a0), some (.int 0)] [] (fg_sR σ 21 a0.toNatClampNeg (-1)) Q)) : fg_Run d 11 0 [some (.ref 15), some (.int a0), none] [] σ Q := fg_blk [0, 9] 8 (⟨rfl, ⟨rfl, ⟨H.1, H.2⟩⟩⟩)
set_option maxRecDepth 100000 in
theorem b_DK_emptyLine_9 {d : Nat} {σ : fg_St} {Q : Int32 → fg_St → Prop} {y1 : Int32} {y2 : Int32} (H : ((4 ≤ y2 → Q 0 σ) ∧ (¬ (4 ≤ y2) → (vp_in ((y1 * 4) + y2) 12 ∧ fg_Run d 11 9 [some (.ref 15), some (.int y1), some (.int (y2 + 1))] [] (fg_sR σ 22 (((y1 * 4) + y2).toNatClampNeg) (-1)) Q)))) : fg_Run d 11 9 [some (.ref 15), some (.int y1), some (.int y2)] [] σ Q := fg_blk [0, 9] 15 (⟨fun z70 => (H.1 z70), fun z71 => ⟨rfl, ⟨rfl, ⟨(H.2 z71).1, (H.2 z71).2⟩⟩⟩⟩)
set_option maxRecDepth 100000 in
theorem b_DK_passDay_0 {d : Nat} {σ : fg_St} {Q : Int32 → fg_St → Prop} {h1 : Nat} (Sh1 : h1 = 3 ∨ h1 = 9) (H : fg_Run (d + 1) 12 2 [some (.ref 15), some (.ref h1), some (.int 0)] [] σ Q) : fg_Run (d + 1) 12 0 [some (.ref 15), some (.ref h1), none] [] σ Q := by
  rcases Sh1 with rfl | rfl
  · exact fg_blk [0, 2] 3 (H)
  · exact fg_blk [0, 2] 3 (H)
set_option maxRecDepth 100000 in
theorem b_DK_passDay_2 {d : Nat} {σ : fg_St} {Q : Int32 → fg_St → Prop} {h1 : Nat} {y2 : Int32} (Sh1 : h1 = 3 ∨ h1 = 9) (H : (((fg_F σ h1 2) ≤ y2 → Q 0 (fg_sF σ 15 9 ((fg_F σ 15 9) + 1))) ∧ (¬ ((fg_F σ h1 2) ≤ y2) → ((10 ≤ y2 → Q 0 (fg_sF σ 15 9 ((fg_F σ 15 9) + 1))) ∧ (¬ (10 ≤ y2) → (vp_in y2 10 ∧ (((fg_R σ 20 y2.toNatClampNeg) = (-1) → fg_Run (d + 1) 12 2 [some (.ref 15), some (.ref h1), some (.int (y2 + 1))] [] σ Q) ∧ (¬ ((fg_R σ 20 y2.toNatClampNeg) = (-1)) → (∃ P, fg_Run d 87 0 [some (.int (fg_F σ 15 7)), some (.int y2)] [] σ P ∧ ∀ x1 u2, P x1 u2 → ((¬ x1 = 0 → fg_Run (d + 1) 12 2 [some (.ref 15), some (.ref h1), some (.int (y2 + 1))] [] u2 Q) ∧ (x1 = 0 → (vp_in y2 10 ∧ (vp_in y2 10 ∧ (vp_in y2 10 ∧ (((fg_R (fg_sR u2 19 y2.toNatClampNeg ((fg_R u2 19 y2.toNatClampNeg) + 1)) 19 y2.toNatClampNeg) < 5 → fg_Run (d + 1) 12 2 [some (.ref 15), some (.ref h1), some (.int (y2 + 1))] [] (fg_sR u2 19 y2.toNatClampNeg ((fg_R u2 19 y2.toNatClampNeg) + 1)) Q) ∧ (¬ ((fg_R (fg_sR u2 19 y2.toNatClampNeg ((fg_R u2 19 y2.toNatClampNeg) + 1)) 19 y2.toNatClampNeg) < 5) → fg_Run (d + 1) 12 2 [some (.ref 15), some (.ref h1), some (.int (y2 + 1))] [] (fg_sF (fg_sR u2 19 y2.toNatClampNeg ((fg_R u2 19 y2.toNatClampNeg) + 1)) 15 7 ((fg_F u2 15 7) ||| (1 <<< (y2 &&& 31)))) Q)))))))))))))))) : fg_Run (d + 1) 12 2 [some (.ref 15), some (.ref h1), some (.int y2)] [] σ Q := by
  rcases Sh1 with rfl | rfl
  · exact fg_blk [0, 2] 43 (⟨rfl, ⟨fun z72 => ⟨rfl, ⟨rfl, (H.1 z72)⟩⟩, fun z73 => ⟨fun z74 => ⟨rfl, ⟨rfl, ((H.2 z73).1 z74)⟩⟩, fun z75 => ⟨rfl, ⟨rfl, ⟨((H.2 z73).2 z75).1, ⟨fun z76 => (((H.2 z73).2 z75).2.1 z76), fun z77 => ⟨rfl, (match (((H.2 z73).2 z75).2.2 z77) with | ⟨z78, z79, z80f⟩ => ⟨z78, z79, fun x1 u2 z80p => ⟨fun z81 => ((z80f x1 u2 z80p).1 z81), fun z82 => ⟨rfl, ⟨rfl, ⟨((z80f x1 u2 z80p).2 (Classical.not_not.mp z82)).1, ⟨rfl, ⟨((z80f x1 u2 z80p).2 (Classical.not_not.mp z82)).2.1, ⟨rfl, ⟨rfl, ⟨((z80f x1 u2 z80p).2 (Classical.not_not.mp z82)).2.2.1, ⟨fun z83 => (((z80f x1 u2 z80p).2 (Classical.not_not.mp z82)).2.2.2.1 z83), fun z84 => ⟨rfl, ⟨rfl, (((z80f x1 u2 z80p).2 (Classical.not_not.mp z82)).2.2.2.2 z84)⟩⟩⟩⟩⟩⟩⟩⟩⟩⟩⟩⟩⟩)⟩⟩⟩⟩⟩⟩⟩⟩)
  · exact fg_blk [0, 2] 43 (⟨rfl, ⟨fun z72 => ⟨rfl, ⟨rfl, (H.1 z72)⟩⟩, fun z73 => ⟨fun z74 => ⟨rfl, ⟨rfl, ((H.2 z73).1 z74)⟩⟩, fun z75 => ⟨rfl, ⟨rfl, ⟨((H.2 z73).2 z75).1, ⟨fun z76 => (((H.2 z73).2 z75).2.1 z76), fun z77 => ⟨rfl, (match (((H.2 z73).2 z75).2.2 z77) with | ⟨z78, z79, z80f⟩ => ⟨z78, z79, fun x1 u2 z80p => ⟨fun z81 => ((z80f x1 u2 z80p).1 z81), fun z82 => ⟨rfl, ⟨rfl, ⟨((z80f x1 u2 z80p).2 (Classical.not_not.mp z82)).1, ⟨rfl, ⟨((z80f x1 u2 z80p).2 (Classical.not_not.mp z82)).2.1, ⟨rfl, ⟨rfl, ⟨((z80f x1 u2 z80p).2 (Classical.not_not.mp z82)).2.2.1, ⟨fun z83 => (((z80f x1 u2 z80p).2 (Classical.not_not.mp z82)).2.2.2.1 z83), fun z84 => ⟨rfl, ⟨rfl, (((z80f x1 u2 z80p).2 (Classical.not_not.mp z82)).2.2.2.2 z84)⟩⟩⟩⟩⟩⟩⟩⟩⟩⟩⟩⟩⟩)⟩⟩⟩⟩⟩⟩⟩⟩)
set_option maxRecDepth 100000 in
theorem b_LK_open_0 {d : Nat} {σ : fg_St} {Q : Int32 → fg_St → Prop} {a0 : Int32} {a1 : Int32} (H : Q 0 (fg_sF (fg_sF σ 31 0 a0) 31 1 a1)) : fg_Run d 13 0 [some (.ref 31), some (.int a0), some (.int a1)] [] σ Q := fg_blk [0] 7 (⟨rfl, ⟨rfl, H⟩⟩)
set_option maxRecDepth 100000 in
theorem b_LK_take_0 {d : Nat} {σ : fg_St} {Q : Int32 → fg_St → Prop} {h1 : Nat} {a1 : Int32} (Sh1 : h1 = 3 ∨ h1 = 9) (H : (∃ P, fg_Run d 16 0 [some (.ref 31), none] [] σ P ∧ ∀ x1 u2, P x1 u2 → (∃ P, fg_Run d 33 0 [some (.ref h1), some (.int a1)] [] u2 P ∧ ∀ x3 u4, P x3 u4 → ((¬ x3 = 0 → fg_Run (d + 1) 14 28 [some (.ref 31), some (.ref h1), some (.int a1), some (.int (fg_F u4 31 0)), some (.int (fg_F u4 31 1)), some (.int 0), none] [] u4 Q) ∧ (x3 = 0 → Q 0 u4))))) : fg_Run (d + 1) 14 0 [some (.ref 31), some (.ref h1), some (.int a1), none, none, none, none] [] σ Q := by
  rcases Sh1 with rfl | rfl
  · exact fg_blk [0, 28] 15 (⟨rfl, (match H with | ⟨z85, z86, z87f⟩ => ⟨z85, z86, fun x1 u2 z87p => ⟨rfl, (match (z87f x1 u2 z87p) with | ⟨z88, z89, z90f⟩ => ⟨z88, z89, fun x3 u4 z90p => ⟨fun z91 => ⟨rfl, ⟨rfl, ((z90f x3 u4 z90p).1 z91)⟩⟩, fun z92 => ⟨(by decide), ((z90f x3 u4 z90p).2 (Classical.not_not.mp z92))⟩⟩⟩)⟩⟩)⟩)
  · exact fg_blk [0, 28] 15 (⟨rfl, (match H with | ⟨z85, z86, z87f⟩ => ⟨z85, z86, fun x1 u2 z87p => ⟨rfl, (match (z87f x1 u2 z87p) with | ⟨z88, z89, z90f⟩ => ⟨z88, z89, fun x3 u4 z90p => ⟨fun z91 => ⟨rfl, ⟨rfl, ((z90f x3 u4 z90p).1 z91)⟩⟩, fun z92 => ⟨(by decide), ((z90f x3 u4 z90p).2 (Classical.not_not.mp z92))⟩⟩⟩)⟩⟩)⟩)
set_option maxRecDepth 100000 in
theorem b_LK_take_28 {d : Nat} {σ : fg_St} {Q : Int32 → fg_St → Prop} {h1 : Nat} {y2 : Int32} {y3 : Int32} {y4 : Int32} {y5 : Int32} (Sh1 : h1 = 3 ∨ h1 = 9) (H : (vp_in y2 10 ∧ (((fg_R σ (h1 + 4) y2.toNatClampNeg) ≤ y5 → Q 1 σ) ∧ (¬ ((fg_R σ (h1 + 4) y2.toNatClampNeg) ≤ y5) → ((4 ≤ y5 → Q 1 σ) ∧ (¬ (4 ≤ y5) → (∃ P, fg_Run d 15 0 [some (.ref 31), some (.ref h1), some (.int y2), some (.int y5), none, none] [] σ P ∧ ∀ x1 u2, P x1 u2 → ((¬ x1 = (-1) → (vp_in y5 4 ∧ ((x1 ≤ 20 → fg_Run (d + 1) 14 28 [some (.ref 31), some (.ref h1), some (.int y2), some (.int y3), some (.int y4), some (.int (y5 + 1)), none] [] (fg_sF (fg_sR u2 32 y5.toNatClampNeg x1) 31 0 ((fg_F u2 31 0) &&& ((1 <<< (x1 &&& 31)) ^^^ (-1)))) Q) ∧ (¬ (x1 ≤ 20) → fg_Run (d + 1) 14 28 [some (.ref 31), some (.ref h1), some (.int y2), some (.int y3), some (.int y4), some (.int (y5 + 1)), none] [] (fg_sF (fg_sR u2 32 y5.toNatClampNeg x1) 31 1 ((fg_F u2 31 1) &&& ((1 <<< ((x1 - 20) &&& 31)) ^^^ (-1)))) Q)))) ∧ (x1 = (-1) → (∃ P, fg_Run d 13 0 [some (.ref 31), some (.int y3), some (.int y4)] [] u2 P ∧ ∀ x3 u4, P x3 u4 → (∃ P, fg_Run d 16 0 [some (.ref 31), none] [] u4 P ∧ ∀ x5 u6, P x5 u6 → Q 0 u6))))))))))) : fg_Run (d + 1) 14 28 [some (.ref 31), some (.ref h1), some (.int y2), some (.int y3), some (.int y4), some (.int y5), none] [] σ Q := by
  rcases Sh1 with rfl | rfl
  · exact fg_blk [0, 28] 42 (⟨rfl, ⟨rfl, ⟨H.1, ⟨fun z93 => ⟨(by decide), (H.2.1 z93)⟩, fun z94 => ⟨fun z95 => ⟨(by decide), ((H.2.2 z94).1 z95)⟩, fun z96 => ⟨rfl, (match ((H.2.2 z94).2 z96) with | ⟨z97, z98, z99f⟩ => ⟨z97, z98, fun x1 u2 z99p => ⟨fun z100 => ⟨rfl, ⟨rfl, ⟨((z99f x1 u2 z99p).1 z100).1, ⟨fun z102 => ⟨rfl, ⟨rfl, (fg_Run.drop (L := [some _, some _, some _, some _, some _, some _, none]) ⟨rfl, ⟨rfl, ⟨rfl, ⟨rfl, ⟨rfl, ⟨rfl, ⟨trivial, trivial⟩⟩⟩⟩⟩⟩⟩ (((z99f x1 u2 z99p).1 z100).2.1 z102))⟩⟩, fun z103 => ⟨rfl, ⟨rfl, (fg_Run.drop (L := [some _, some _, some _, some _, some _, some _, none]) ⟨rfl, ⟨rfl, ⟨rfl, ⟨rfl, ⟨rfl, ⟨rfl, ⟨trivial, trivial⟩⟩⟩⟩⟩⟩⟩ (((z99f x1 u2 z99p).1 z100).2.2 z103))⟩⟩⟩⟩⟩⟩, fun z101 => ⟨rfl, (match ((z99f x1 u2 z99p).2 (Classical.not_not.mp z101)) with | ⟨z104, z105, z106f⟩ => ⟨z104, z105, fun x3 u4 z106p => ⟨rfl, (match (z106f x3 u4 z106p) with | ⟨z107, z108, z109f⟩ => ⟨z107, z108, fun x5 u6 z109p => ⟨(by decide), (z109f x5 u6 z109p)⟩⟩)⟩⟩)⟩⟩⟩)⟩⟩⟩⟩⟩⟩)
  · exact fg_blk [0, 28] 42 (⟨rfl, ⟨rfl, ⟨H.1, ⟨fun z93 => ⟨(by decide), (H.2.1 z93)⟩, fun z94 => ⟨fun z95 => ⟨(by decide), ((H.2.2 z94).1 z95)⟩, fun z96 => ⟨rfl, (match ((H.2.2 z94).2 z96) with | ⟨z97, z98, z99f⟩ => ⟨z97, z98, fun x1 u2 z99p => ⟨fun z100 => ⟨rfl, ⟨rfl, ⟨((z99f x1 u2 z99p).1 z100).1, ⟨fun z102 => ⟨rfl, ⟨rfl, (fg_Run.drop (L := [some _, some _, some _, some _, some _, some _, none]) ⟨rfl, ⟨rfl, ⟨rfl, ⟨rfl, ⟨rfl, ⟨rfl, ⟨trivial, trivial⟩⟩⟩⟩⟩⟩⟩ (((z99f x1 u2 z99p).1 z100).2.1 z102))⟩⟩, fun z103 => ⟨rfl, ⟨rfl, (fg_Run.drop (L := [some _, some _, some _, some _, some _, some _, none]) ⟨rfl, ⟨rfl, ⟨rfl, ⟨rfl, ⟨rfl, ⟨rfl, ⟨trivial, trivial⟩⟩⟩⟩⟩⟩⟩ (((z99f x1 u2 z99p).1 z100).2.2 z103))⟩⟩⟩⟩⟩⟩, fun z101 => ⟨rfl, (match ((z99f x1 u2 z99p).2 (Classical.not_not.mp z101)) with | ⟨z104, z105, z106f⟩ => ⟨z104, z105, fun x3 u4 z106p => ⟨rfl, (match (z106f x3 u4 z106p) with | ⟨z107, z108, z109f⟩ => ⟨z107, z108, fun x5 u6 z109p => ⟨(by decide), (z109f x5 u6 z109p)⟩⟩)⟩⟩)⟩⟩⟩)⟩⟩⟩⟩⟩⟩)
set_option maxRecDepth 100000 in
theorem b_LK_pieceFor_0 {d : Nat} {σ : fg_St} {Q : Int32 → fg_St → Prop} {h1 : Nat} {a1 : Int32} {a2 : Int32} (Sh1 : h1 = 3 ∨ h1 = 9) (H : (∃ P, fg_Run d 42 0 [some (.ref h1), some (.int a1), some (.int a2), none] [] σ P ∧ ∀ x1 u2, P x1 u2 → (∃ P, fg_Run d 87 0 [some (.int (fg_F u2 31 0)), some (.int x1)] [] u2 P ∧ ∀ x3 u4, P x3 u4 → ((x3 = 0 → fg_Run (d + 1) 15 26 [some (.ref 31), some (.ref h1), some (.int a1), some (.int a2), some (.int x1), some (.int 1)] [] u4 Q) ∧ (¬ (x3 = 0) → Q x1 u4))))) : fg_Run (d + 1) 15 0 [some (.ref 31), some (.ref h1), some (.int a1), some (.int a2), none, none] [] σ Q := by
  rcases Sh1 with rfl | rfl
  · exact fg_blk [0, 26] 13 (⟨rfl, (match H with | ⟨z110, z111, z112f⟩ => ⟨z110, z111, fun x1 u2 z112p => ⟨rfl, (match (z112f x1 u2 z112p) with | ⟨z113, z114, z115f⟩ => ⟨z113, z114, fun x3 u4 z115p => ⟨fun z116 => ((z115f x3 u4 z115p).1 z116), fun z117 => ((z115f x3 u4 z115p).2 z117)⟩⟩)⟩⟩)⟩)
  · exact fg_blk [0, 26] 13 (⟨rfl, (match H with | ⟨z110, z111, z112f⟩ => ⟨z110, z111, fun x1 u2 z112p => ⟨rfl, (match (z112f x1 u2 z112p) with | ⟨z113, z114, z115f⟩ => ⟨z113, z114, fun x3 u4 z115p => ⟨fun z116 => ((z115f x3 u4 z115p).1 z116), fun z117 => ((z115f x3 u4 z115p).2 z117)⟩⟩)⟩⟩)⟩)
set_option maxRecDepth 100000 in
theorem b_LK_pieceFor_26 {d : Nat} {σ : fg_St} {Q : Int32 → fg_St → Prop} {h1 : Nat} {y2 : Int32} {y3 : Int32} {y4 : Int32} {y5 : Int32} (Sh1 : h1 = 3 ∨ h1 = 9) (H : ((y3 < y5 → Q (-1) σ) ∧ (¬ (y3 < y5) → ((3 < y5 → Q (-1) σ) ∧ (¬ (3 < y5) → (∃ P, fg_Run d 87 0 [some (.int (fg_F σ 31 1)), some (.int y5)] [] σ P ∧ ∀ x1 u2, P x1 u2 → ((x1 = 0 → fg_Run (d + 1) 15 26 [some (.ref 31), some (.ref h1), some (.int y2), some (.int y3), some (.int y4), some (.int (y5 + 1))] [] u2 Q) ∧ (¬ (x1 = 0) → (∃ P, fg_Run d 42 0 [some (.ref h1), some (.int y2), some (.int (y5 - 1)), none] [] u2 P ∧ ∀ x3 u4, P x3 u4 → ((¬ x3 = y4 → fg_Run (d + 1) 15 26 [some (.ref 31), some (.ref h1), some (.int y2), some (.int y3), some (.int y4), some (.int (y5 + 1))] [] u4 Q) ∧ (x3 = y4 → Q (20 + y5) u4))))))))))) : fg_Run (d + 1) 15 26 [some (.ref 31), some (.ref h1), some (.int y2), some (.int y3), some (.int y4), some (.int y5)] [] σ Q := by
  rcases Sh1 with rfl | rfl
  · exact fg_blk [0, 26] 23 (⟨fun z118 => (H.1 z118), fun z119 => ⟨fun z120 => ((H.2 z119).1 z120), fun z121 => ⟨rfl, (match ((H.2 z119).2 z121) with | ⟨z122, z123, z124f⟩ => ⟨z122, z123, fun x1 u2 z124p => ⟨fun z125 => ((z124f x1 u2 z124p).1 z125), fun z126 => ⟨rfl, (match ((z124f x1 u2 z124p).2 z126) with | ⟨z127, z128, z129f⟩ => ⟨z127, z128, fun x3 u4 z129p => ⟨fun z130 => ((z129f x3 u4 z129p).1 z130), fun z131 => ((z129f x3 u4 z129p).2 (Classical.not_not.mp z131))⟩⟩)⟩⟩⟩)⟩⟩⟩)
  · exact fg_blk [0, 26] 23 (⟨fun z118 => (H.1 z118), fun z119 => ⟨fun z120 => ((H.2 z119).1 z120), fun z121 => ⟨rfl, (match ((H.2 z119).2 z121) with | ⟨z122, z123, z124f⟩ => ⟨z122, z123, fun x1 u2 z124p => ⟨fun z125 => ((z124f x1 u2 z124p).1 z125), fun z126 => ⟨rfl, (match ((z124f x1 u2 z124p).2 z126) with | ⟨z127, z128, z129f⟩ => ⟨z127, z128, fun x3 u4 z129p => ⟨fun z130 => ((z129f x3 u4 z129p).1 z130), fun z131 => ((z129f x3 u4 z129p).2 (Classical.not_not.mp z131))⟩⟩)⟩⟩⟩)⟩⟩⟩)
set_option maxRecDepth 100000 in
theorem b_LK_emptyRow_0 {d : Nat} {σ : fg_St} {Q : Int32 → fg_St → Prop} (H : fg_Run d 16 2 [some (.ref 31), some (.int 0)] [] σ Q) : fg_Run d 16 0 [some (.ref 31), none] [] σ Q := fg_blk [0, 2] 3 (H)
set_option maxRecDepth 100000 in
theorem b_LK_emptyRow_2 {d : Nat} {σ : fg_St} {Q : Int32 → fg_St → Prop} {y1 : Int32} (H : ((4 ≤ y1 → Q 0 σ) ∧ (¬ (4 ≤ y1) → (vp_in y1 4 ∧ fg_Run d 16 2 [some (.ref 31), some (.int (y1 + 1))] [] (fg_sR σ 32 y1.toNatClampNeg (-1)) Q)))) : fg_Run d 16 2 [some (.ref 31), some (.int y1)] [] σ Q := fg_blk [0, 2] 11 (⟨fun z132 => (H.1 z132), fun z133 => ⟨rfl, ⟨rfl, ⟨(H.2 z133).1, (H.2 z133).2⟩⟩⟩⟩)
set_option maxRecDepth 100000 in
theorem b_LG_addRead_0 {d : Nat} {σ : fg_St} {Q : Int32 → fg_St → Prop} {a0 : Int32} {a1 : Int32} (H : (((fg_F σ 26 4) < 8 → (vp_in (fg_F σ 26 4) 8 ∧ (vp_in (fg_F σ 26 4) 8 ∧ Q 1 (fg_sF (fg_sR (fg_sR σ 27 ((fg_F σ 26 4).toNatClampNeg) a0) 28 ((fg_F σ 26 4).toNatClampNeg) a1) 26 4 ((fg_F σ 26 4) + 1))))) ∧ (¬ ((fg_F σ 26 4) < 8) → Q 0 σ))) : fg_Run d 17 0 [some (.ref 26), some (.int a0), some (.int a1)] [] σ Q := fg_blk [0] 24 (⟨rfl, ⟨fun z134 => ⟨rfl, ⟨rfl, ⟨rfl, ⟨(H.1 z134).1, ⟨rfl, ⟨rfl, ⟨rfl, ⟨(H.1 z134).2.1, ⟨rfl, ⟨rfl, ⟨(by decide), (H.1 z134).2.2⟩⟩⟩⟩⟩⟩⟩⟩⟩⟩⟩, fun z135 => ⟨(by decide), (H.2 z135)⟩⟩⟩)
set_option maxRecDepth 100000 in
theorem b_LG_addEntry_0 {d : Nat} {σ : fg_St} {Q : Int32 → fg_St → Prop} {a0 : Int32} {a1 : Int32} (H : (((fg_F σ 26 5) < 15 → (vp_in (fg_F σ 26 5) 15 ∧ (vp_in (fg_F σ 26 5) 15 ∧ Q 1 (fg_sF (fg_sR (fg_sR σ 29 ((fg_F σ 26 5).toNatClampNeg) a0) 30 ((fg_F σ 26 5).toNatClampNeg) a1) 26 5 ((fg_F σ 26 5) + 1))))) ∧ (¬ ((fg_F σ 26 5) < 15) → Q 0 σ))) : fg_Run d 18 0 [some (.ref 26), some (.int a0), some (.int a1)] [] σ Q := fg_blk [0] 24 (⟨rfl, ⟨fun z136 => ⟨rfl, ⟨rfl, ⟨rfl, ⟨(H.1 z136).1, ⟨rfl, ⟨rfl, ⟨rfl, ⟨(H.1 z136).2.1, ⟨rfl, ⟨rfl, ⟨(by decide), (H.1 z136).2.2⟩⟩⟩⟩⟩⟩⟩⟩⟩⟩⟩, fun z137 => ⟨(by decide), (H.2 z137)⟩⟩⟩)
set_option maxRecDepth 100000 in
theorem b_LG_wipe_0 {d : Nat} {σ : fg_St} {Q : Int32 → fg_St → Prop} (H : Q 0 (fg_sF (fg_sF σ 26 4 0) 26 5 0)) : fg_Run d 19 0 [some (.ref 26)] [] σ Q := fg_blk [0] 7 (⟨rfl, ⟨rfl, H⟩⟩)
set_option maxRecDepth 100000 in
theorem b_LG_fits_0 {d : Nat} {σ : fg_St} {Q : Int32 → fg_St → Prop} {h1 : Nat} (Sh1 : h1 = 3 ∨ h1 = 9) (H : fg_Run (d + 1) 20 2 [some (.ref 26), some (.ref h1), some (.ref 33), some (.int 0)] [] σ Q) : fg_Run (d + 1) 20 0 [some (.ref 26), some (.ref h1), some (.ref 33), none] [] σ Q := by
  rcases Sh1 with rfl | rfl
  · exact fg_blk [0, 2] 3 (H)
  · exact fg_blk [0, 2] 3 (H)
set_option maxRecDepth 100000 in
theorem b_LG_fits_2 {d : Nat} {σ : fg_St} {Q : Int32 → fg_St → Prop} {h1 : Nat} {y3 : Int32} (Sh1 : h1 = 3 ∨ h1 = 9) (H : (((fg_F σ 26 4) ≤ y3 → Q 1 σ) ∧ (¬ ((fg_F σ 26 4) ≤ y3) → ((8 ≤ y3 → Q 1 σ) ∧ (¬ (8 ≤ y3) → (vp_in y3 8 ∧ (∃ P, fg_Run d 58 0 [some (.ref 33), some (.ref h1), some (.int (fg_R σ 27 y3.toNatClampNeg)), none, none] [] σ P ∧ ∀ x1 u2, P x1 u2 → (vp_in y3 8 ∧ (∃ P, fg_Run d 87 0 [some (.int x1), some (.int (fg_R u2 28 y3.toNatClampNeg))] [] u2 P ∧ ∀ x3 u4, P x3 u4 → ((¬ x3 = 0 → fg_Run (d + 1) 20 2 [some (.ref 26), some (.ref h1), some (.ref 33), some (.int (y3 + 1))] [] u4 Q) ∧ (x3 = 0 → Q 0 u4))))))))))) : fg_Run (d + 1) 20 2 [some (.ref 26), some (.ref h1), some (.ref 33), some (.int y3)] [] σ Q := by
  rcases Sh1 with rfl | rfl
  · exact fg_blk [0, 2] 23 (⟨rfl, ⟨fun z138 => ⟨(by decide), (H.1 z138)⟩, fun z139 => ⟨fun z140 => ⟨(by decide), ((H.2 z139).1 z140)⟩, fun z141 => ⟨rfl, ⟨rfl, ⟨((H.2 z139).2 z141).1, ⟨rfl, (match ((H.2 z139).2 z141).2 with | ⟨z142, z143, z144f⟩ => ⟨z142, z143, fun x1 u2 z144p => ⟨rfl, ⟨rfl, ⟨(z144f x1 u2 z144p).1, (match (z144f x1 u2 z144p).2 with | ⟨z145, z146, z147f⟩ => ⟨z145, z146, fun x3 u4 z147p => ⟨fun z148 => ((z147f x3 u4 z147p).1 z148), fun z149 => ⟨(by decide), ((z147f x3 u4 z147p).2 (Classical.not_not.mp z149))⟩⟩⟩)⟩⟩⟩⟩)⟩⟩⟩⟩⟩⟩⟩)
  · exact fg_blk [0, 2] 23 (⟨rfl, ⟨fun z138 => ⟨(by decide), (H.1 z138)⟩, fun z139 => ⟨fun z140 => ⟨(by decide), ((H.2 z139).1 z140)⟩, fun z141 => ⟨rfl, ⟨rfl, ⟨((H.2 z139).2 z141).1, ⟨rfl, (match ((H.2 z139).2 z141).2 with | ⟨z142, z143, z144f⟩ => ⟨z142, z143, fun x1 u2 z144p => ⟨rfl, ⟨rfl, ⟨(z144f x1 u2 z144p).1, (match (z144f x1 u2 z144p).2 with | ⟨z145, z146, z147f⟩ => ⟨z145, z146, fun x3 u4 z147p => ⟨fun z148 => ((z147f x3 u4 z147p).1 z148), fun z149 => ⟨(by decide), ((z147f x3 u4 z147p).2 (Classical.not_not.mp z149))⟩⟩⟩)⟩⟩⟩⟩)⟩⟩⟩⟩⟩⟩⟩)
set_option maxRecDepth 100000 in
theorem b_LG_firstFalse_0 {d : Nat} {σ : fg_St} {Q : Int32 → fg_St → Prop} (H : fg_Run d 21 2 [some (.ref 26), some (.ref 15), some (.int 0), none] [] σ Q) : fg_Run d 21 0 [some (.ref 26), some (.ref 15), none, none] [] σ Q := fg_blk [0, 2] 3 (H)
set_option maxRecDepth 100000 in
theorem b_LG_firstFalse_2 {d : Nat} {σ : fg_St} {Q : Int32 → fg_St → Prop} {y2 : Int32} (H : (((fg_F σ 26 5) ≤ y2 → Q (-1) σ) ∧ (¬ ((fg_F σ 26 5) ≤ y2) → ((15 ≤ y2 → Q (-1) σ) ∧ (¬ (15 ≤ y2) → (vp_in y2 15 ∧ (((fg_R σ 29 y2.toNatClampNeg) < 0 → fg_Run d 21 2 [some (.ref 26), some (.ref 15), some (.int (y2 + 1)), none] [] σ Q) ∧ (¬ ((fg_R σ 29 y2.toNatClampNeg) < 0) → ((3 ≤ (fg_R σ 29 y2.toNatClampNeg) → fg_Run d 21 2 [some (.ref 26), some (.ref 15), some (.int (y2 + 1)), none] [] σ Q) ∧ (¬ (3 ≤ (fg_R σ 29 y2.toNatClampNeg)) → (vp_in (fg_R σ 29 y2.toNatClampNeg) 3 ∧ (vp_in y2 15 ∧ (((fg_R σ 21 ((fg_R σ 29 y2.toNatClampNeg).toNatClampNeg)) = (fg_R σ 30 y2.toNatClampNeg) → fg_Run d 21 2 [some (.ref 26), some (.ref 15), some (.int (y2 + 1)), none] [] σ Q) ∧ (¬ ((fg_R σ 21 ((fg_R σ 29 y2.toNatClampNeg).toNatClampNeg)) = (fg_R σ 30 y2.toNatClampNeg)) → Q y2 σ)))))))))))))) : fg_Run d 21 2 [some (.ref 26), some (.ref 15), some (.int y2), none] [] σ Q := fg_blk [0, 2] 29 (⟨rfl, ⟨fun z150 => (H.1 z150), fun z151 => ⟨fun z152 => ((H.2 z151).1 z152), fun z153 => ⟨rfl, ⟨rfl, ⟨((H.2 z151).2 z153).1, ⟨fun z154 => (fg_Run.drop (L := [some _, some _, some _, none]) ⟨rfl, ⟨rfl, ⟨rfl, ⟨trivial, trivial⟩⟩⟩⟩ (((H.2 z151).2 z153).2.1 z154)), fun z155 => ⟨fun z156 => (fg_Run.drop (L := [some _, some _, some _, none]) ⟨rfl, ⟨rfl, ⟨rfl, ⟨trivial, trivial⟩⟩⟩⟩ ((((H.2 z151).2 z153).2.2 z155).1 z156)), fun z157 => ⟨rfl, ⟨rfl, ⟨((((H.2 z151).2 z153).2.2 z155).2 z157).1, ⟨rfl, ⟨rfl, ⟨((((H.2 z151).2 z153).2.2 z155).2 z157).2.1, ⟨fun z158 => (fg_Run.drop (L := [some _, some _, some _, none]) ⟨rfl, ⟨rfl, ⟨rfl, ⟨trivial, trivial⟩⟩⟩⟩ (((((H.2 z151).2 z153).2.2 z155).2 z157).2.2.1 z158)), fun z159 => (((((H.2 z151).2 z153).2.2 z155).2 z157).2.2.2 z159)⟩⟩⟩⟩⟩⟩⟩⟩⟩⟩⟩⟩⟩⟩⟩)
set_option maxRecDepth 100000 in
theorem b_PA_remember_0 {d : Nat} {σ : fg_St} {Q : Int32 → fg_St → Prop} (H : (vp_in (((fg_F σ 23 1) + (fg_F σ 23 2)) - ((fg_F σ 23 1) + (fg_F σ 23 2)) / 16 * 16) 16 ∧ (fg_kd (59 + 8 * ((((fg_F σ 23 1) + (fg_F σ 23 2)) - ((fg_F σ 23 1) + (fg_F σ 23 2)) / 16 * 16).toNatClampNeg)) = 0 ∧ (∃ P, fg_Run d 1 0 [some (.ref (59 + 8 * ((((fg_F σ 23 1) + (fg_F σ 23 2)) - ((fg_F σ 23 1) + (fg_F σ 23 2)) / 16 * 16).toNatClampNeg))), some (.ref 15)] [] σ P ∧ ∀ x1 u2, P x1 u2 → ((16 ≤ (fg_F u2 23 2) → Q 0 (fg_sF u2 23 1 (((fg_F u2 23 1) + 1) - ((fg_F u2 23 1) + 1) / 16 * 16))) ∧ (¬ (16 ≤ (fg_F u2 23 2)) → Q 0 (fg_sF u2 23 2 ((fg_F u2 23 2) + 1)))))))) : fg_Run (d + 1) 22 0 [some (.ref 23), some (.ref 15)] [] σ Q := fg_blk [0] 25 (⟨rfl, ⟨rfl, ⟨rfl, ⟨(by decide), ⟨Or.inl rfl, ⟨H.1, ⟨fg_cls H.2.1 rfl, (match H.2.2 with | ⟨z160, z161, z162f⟩ => ⟨z160, z161, fun x1 u2 z162p => ⟨rfl, ⟨fun z163 => ⟨rfl, ⟨(by decide), ⟨rfl, ((z162f x1 u2 z162p).1 z163)⟩⟩⟩, fun z164 => ⟨rfl, ⟨rfl, ((z162f x1 u2 z162p).2 z164)⟩⟩⟩⟩⟩)⟩⟩⟩⟩⟩⟩⟩)
set_option maxRecDepth 100000 in
theorem b_PA_giveBack_0 {d : Nat} {σ : fg_St} {Q : Int32 → fg_St → Prop} (H : (((fg_F σ 23 2) ≤ 0 → Q 0 σ) ∧ (¬ ((fg_F σ 23 2) ≤ 0) → (vp_in (((fg_F σ 23 1) + ((fg_F σ 23 2) - 1)) - ((fg_F σ 23 1) + ((fg_F σ 23 2) - 1)) / 16 * 16) 16 ∧ (∃ P, fg_Run d 1 0 [some (.ref 15), some (.ref (59 + 8 * ((((fg_F σ 23 1) + ((fg_F σ 23 2) - 1)) - ((fg_F σ 23 1) + ((fg_F σ 23 2) - 1)) / 16 * 16).toNatClampNeg)))] [] (fg_sF σ 23 2 ((fg_F σ 23 2) - 1)) P ∧ ∀ x1 u2, P x1 u2 → Q 0 u2))))) : fg_Run (d + 1) 23 0 [some (.ref 23), some (.ref 15)] [] σ Q := fg_blk [0] 22 (⟨rfl, ⟨fun z165 => (H.1 z165), fun z166 => ⟨rfl, ⟨rfl, ⟨rfl, ⟨rfl, ⟨rfl, ⟨(by decide), ⟨Or.inl rfl, ⟨(H.2 z166).1, ⟨rfl, (match (H.2 z166).2 with | ⟨z167, z168, z169f⟩ => ⟨z167, z168, fun x1 u2 z169p => (z169f x1 u2 z169p)⟩)⟩⟩⟩⟩⟩⟩⟩⟩⟩⟩⟩)
set_option maxRecDepth 100000 in
theorem b_PA_forget_0 {d : Nat} {σ : fg_St} {Q : Int32 → fg_St → Prop} (H : Q 0 (fg_sF (fg_sF σ 23 1 0) 23 2 0)) : fg_Run d 24 0 [some (.ref 23)] [] σ Q := fg_blk [0] 7 (⟨rfl, ⟨rfl, H⟩⟩)
set_option maxRecDepth 100000 in
theorem b_RO_largestGroup_0 {d : Nat} {σ : fg_St} {Q : Int32 → fg_St → Prop} (H : fg_Run (d + 1) 25 4 [some (.ref 37), some (.int 0), some (.int 1)] [] σ Q) : fg_Run (d + 1) 25 0 [some (.ref 37), none, none] [] σ Q := fg_blk [0, 4] 5 (H)
set_option maxRecDepth 100000 in
theorem b_RO_largestGroup_4 {d : Nat} {σ : fg_St} {Q : Int32 → fg_St → Prop} {y1 : Int32} {y2 : Int32} (H : ((1024 ≤ y2 → Q y1 σ) ∧ (¬ (1024 ≤ y2) → (vp_in y2 1024 ∧ (((fg_R σ 38 y2.toNatClampNeg) = 0 → fg_Run (d + 1) 25 4 [some (.ref 37), some (.int y1), some (.int (y2 + 1))] [] σ Q) ∧ (¬ ((fg_R σ 38 y2.toNatClampNeg) = 0) → (∃ P, fg_Run d 195 0 [some (.int y2)] [] σ P ∧ ∀ x1 u2, P x1 u2 → (∃ P, fg_Run d 195 0 [some (.int y1)] [] u2 P ∧ ∀ x3 u4, P x3 u4 → ((x1 ≤ x3 → fg_Run (d + 1) 25 4 [some (.ref 37), some (.int y1), some (.int (y2 + 1))] [] u4 Q) ∧ (¬ (x1 ≤ x3) → fg_Run (d + 1) 25 4 [some (.ref 37), some (.int y2), some (.int (y2 + 1))] [] u4 Q)))))))))) : fg_Run (d + 1) 25 4 [some (.ref 37), some (.int y1), some (.int y2)] [] σ Q := fg_blk [0, 4] 18 (⟨fun z170 => (H.1 z170), fun z171 => ⟨rfl, ⟨rfl, ⟨(H.2 z171).1, ⟨fun z172 => ((H.2 z171).2.1 z172), fun z173 => (match ((H.2 z171).2.2 z173) with | ⟨z174, z175, z176f⟩ => ⟨z174, z175, fun x1 u2 z176p => (match (z176f x1 u2 z176p) with | ⟨z177, z178, z179f⟩ => ⟨z177, z178, fun x3 u4 z179p => ⟨fun z180 => ((z179f x3 u4 z179p).1 z180), fun z181 => ((z179f x3 u4 z179p).2 z181)⟩⟩)⟩)⟩⟩⟩⟩⟩)
set_option maxRecDepth 100000 in
theorem b_RO_plan_0 {d : Nat} {σ : fg_St} {Q : Int32 → fg_St → Prop} {a0 : Int32} (H : fg_Run (d + 1) 26 9 [some (.ref 37), some (.int a0), some (.int 1)] [] (fg_sR σ 39 0 0) Q) : fg_Run (d + 1) 26 0 [some (.ref 37), some (.int a0), none] [] σ Q := fg_blk [0, 9] 8 (⟨rfl, ⟨rfl, ⟨fg_vin rfl rfl, H⟩⟩⟩)
set_option maxRecDepth 100000 in
theorem b_RO_plan_9 {d : Nat} {σ : fg_St} {Q : Int32 → fg_St → Prop} {y1 : Int32} {y2 : Int32} (H : ((y1 < y2 → Q 0 σ) ∧ (¬ (y1 < y2) → ((1024 ≤ y2 → Q 0 σ) ∧ (¬ (1024 ≤ y2) → ((¬ (y2 &&& (y1 ^^^ (-1))) = 0 → fg_Run (d + 1) 26 9 [some (.ref 37), some (.int y1), some (.int (y2 + 1))] [] σ Q) ∧ ((y2 &&& (y1 ^^^ (-1))) = 0 → (∃ P, fg_Run d 27 0 [some (.ref 37), some (.int y2), none, none, none, none] [] σ P ∧ ∀ x1 u2, P x1 u2 → (vp_in y2 1024 ∧ fg_Run (d + 1) 26 9 [some (.ref 37), some (.int y1), some (.int (y2 + 1))] [] (fg_sR u2 39 y2.toNatClampNeg x1) Q))))))))) : fg_Run (d + 1) 26 9 [some (.ref 37), some (.int y1), some (.int y2)] [] σ Q := fg_blk [0, 9] 22 (⟨fun z182 => (H.1 z182), fun z183 => ⟨fun z184 => ((H.2 z183).1 z184), fun z185 => ⟨fun z186 => (((H.2 z183).2 z185).1 z186), fun z187 => ⟨rfl, ⟨rfl, (match (((H.2 z183).2 z185).2 (Classical.not_not.mp z187)) with | ⟨z188, z189, z190f⟩ => ⟨z188, z189, fun x1 u2 z190p => ⟨rfl, ⟨(z190f x1 u2 z190p).1, (z190f x1 u2 z190p).2⟩⟩⟩)⟩⟩⟩⟩⟩)
set_option maxRecDepth 100000 in
theorem b_RO_fewestOf_0 {d : Nat} {σ : fg_St} {Q : Int32 → fg_St → Prop} {a0 : Int32} (H : (vp_in (a0 &&& ((a0 &&& (-a0)) ^^^ (-1))) 1024 ∧ fg_Run (d + 1) 27 24 [some (.ref 37), none, some (.int (a0 &&& (-a0))), some (.int (a0 &&& ((a0 &&& (-a0)) ^^^ (-1)))), some (.int ((fg_R σ 39 ((a0 &&& ((a0 &&& (-a0)) ^^^ (-1))).toNatClampNeg)) + 1)), some (.int (a0 &&& ((a0 &&& (-a0)) ^^^ (-1))))] [] σ Q)) : fg_Run (d + 1) 27 0 [some (.ref 37), some (.int a0), none, none, none, none] [] σ Q := fg_blk [0, 24] 21 (⟨rfl, ⟨rfl, ⟨H.1, (fg_Run.drop (L := [some _, none, some _, some _, some _, some _]) ⟨rfl, ⟨trivial, ⟨rfl, ⟨rfl, ⟨rfl, ⟨rfl, trivial⟩⟩⟩⟩⟩⟩ H.2)⟩⟩⟩)
set_option maxRecDepth 100000 in
theorem b_RO_fewestOf_24 {d : Nat} {σ : fg_St} {Q : Int32 → fg_St → Prop} {y2 : Int32} {y3 : Int32} {y4 : Int32} {y5 : Int32} (H : ((y5 ≤ 0 → Q y4 σ) ∧ (¬ (y5 ≤ 0) → (vp_in (y2 ||| y5) 1024 ∧ (((fg_R σ 38 ((y2 ||| y5).toNatClampNeg)) = 0 → fg_Run (d + 1) 27 24 [some (.ref 37), none, some (.int y2), some (.int y3), some (.int y4), some (.int ((y5 - 1) &&& y3))] [] σ Q) ∧ (¬ ((fg_R σ 38 ((y2 ||| y5).toNatClampNeg)) = 0) → (vp_in (y3 &&& (y5 ^^^ (-1))) 1024 ∧ fg_Run (d + 1) 27 24 [some (.ref 37), none, some (.int y2), some (.int y3), some (.int (if ((fg_R σ 39 ((y3 &&& (y5 ^^^ (-1))).toNatClampNeg)) + 1) < y4 then ((fg_R σ 39 ((y3 &&& (y5 ^^^ (-1))).toNatClampNeg)) + 1) else y4)), some (.int ((y5 - 1) &&& y3))] [] σ Q))))))) : fg_Run (d + 1) 27 24 [some (.ref 37), none, some (.int y2), some (.int y3), some (.int y4), some (.int y5)] [] σ Q := fg_blk [0, 24] 30 (⟨fun z191 => (H.1 z191), fun z192 => ⟨rfl, ⟨rfl, ⟨(H.2 z192).1, ⟨fun z193 => ((H.2 z192).2.1 z193), fun z194 => ⟨rfl, ⟨rfl, ⟨((H.2 z192).2.2 z194).1, ((H.2 z192).2.2 z194).2⟩⟩⟩⟩⟩⟩⟩⟩)
set_option maxRecDepth 100000 in
theorem b_RO_firstGroup_0 {d : Nat} {σ : fg_St} {Q : Int32 → fg_St → Prop} {a0 : Int32} (H : fg_Run d 28 2 [some (.ref 37), some (.int a0), some (.int 1)] [] σ Q) : fg_Run d 28 0 [some (.ref 37), some (.int a0), none] [] σ Q := fg_blk [0, 2] 3 (H)
set_option maxRecDepth 100000 in
theorem b_RO_firstGroup_2 {d : Nat} {σ : fg_St} {Q : Int32 → fg_St → Prop} {y1 : Int32} {y2 : Int32} (H : ((y1 < y2 → Q (-1) σ) ∧ (¬ (y1 < y2) → ((1024 ≤ y2 → Q (-1) σ) ∧ (¬ (1024 ≤ y2) → (vp_in y2 1024 ∧ (((fg_R σ 38 y2.toNatClampNeg) = 0 → fg_Run d 28 2 [some (.ref 37), some (.int y1), some (.int (y2 + 1))] [] σ Q) ∧ (¬ ((fg_R σ 38 y2.toNatClampNeg) = 0) → (vp_in (y1 &&& (y2 ^^^ (-1))) 1024 ∧ (vp_in y1 1024 ∧ ((¬ (fg_R σ 39 ((y1 &&& (y2 ^^^ (-1))).toNatClampNeg)) = ((fg_R σ 39 y1.toNatClampNeg) - 1) → fg_Run d 28 2 [some (.ref 37), some (.int y1), some (.int (y2 + 1))] [] σ Q) ∧ ((fg_R σ 39 ((y1 &&& (y2 ^^^ (-1))).toNatClampNeg)) = ((fg_R σ 39 y1.toNatClampNeg) - 1) → Q y2 σ)))))))))))) : fg_Run d 28 2 [some (.ref 37), some (.int y1), some (.int y2)] [] σ Q := fg_blk [0, 2] 29 (⟨fun z195 => (H.1 z195), fun z196 => ⟨fun z197 => ((H.2 z196).1 z197), fun z198 => ⟨rfl, ⟨rfl, ⟨((H.2 z196).2 z198).1, ⟨fun z199 => (((H.2 z196).2 z198).2.1 z199), fun z200 => ⟨rfl, ⟨rfl, ⟨(((H.2 z196).2 z198).2.2 z200).1, ⟨rfl, ⟨rfl, ⟨(((H.2 z196).2 z198).2.2 z200).2.1, ⟨fun z201 => ((((H.2 z196).2 z198).2.2 z200).2.2.1 z201), fun z202 => ((((H.2 z196).2 z198).2.2 z200).2.2.2 (Classical.not_not.mp z202))⟩⟩⟩⟩⟩⟩⟩⟩⟩⟩⟩⟩⟩)
set_option maxRecDepth 100000 in
theorem b_SH_strike_0 {d : Nat} {σ : fg_St} {Q : Int32 → fg_St → Prop} {h0 : Nat} (Sh0 : h0 = 3 ∨ h0 = 9) (H : Q 0 (fg_sF (fg_sF (fg_sF (fg_sF σ h0 0 0) h0 1 0) h0 2 0) h0 3 0)) : fg_Run d 29 0 [some (.ref h0)] [] σ Q := by
  rcases Sh0 with rfl | rfl
  · exact fg_blk [0] 13 (⟨rfl, ⟨rfl, ⟨rfl, ⟨rfl, H⟩⟩⟩⟩)
  · exact fg_blk [0] 13 (⟨rfl, ⟨rfl, ⟨rfl, ⟨rfl, H⟩⟩⟩⟩)
set_option maxRecDepth 100000 in
theorem b_SH_stands_0 {d : Nat} {σ : fg_St} {Q : Int32 → fg_St → Prop} {h0 : Nat} (Sh0 : h0 = 3 ∨ h0 = 9) (H : (((fg_F σ h0 0) ≤ 0 → Q 0 σ) ∧ (¬ ((fg_F σ h0 0) ≤ 0) → Q 1 σ))) : fg_Run d 30 0 [some (.ref h0)] [] σ Q := by
  rcases Sh0 with rfl | rfl
  · exact fg_blk [0] 6 (⟨rfl, ⟨fun z203 => ⟨(by decide), (H.1 z203)⟩, fun z204 => ⟨(by decide), (H.2 z204)⟩⟩⟩)
  · exact fg_blk [0] 6 (⟨rfl, ⟨fun z203 => ⟨(by decide), (H.1 z203)⟩, fun z204 => ⟨(by decide), (H.2 z204)⟩⟩⟩)
set_option maxRecDepth 100000 in
theorem b_SH_hasLine_0 {d : Nat} {σ : fg_St} {Q : Int32 → fg_St → Prop} {h0 : Nat} {a0 : Int32} (Sh0 : h0 = 3 ∨ h0 = 9) (H : ((a0 < 0 → Q 0 σ) ∧ (¬ (a0 < 0) → (((fg_F σ h0 0) ≤ a0 → Q 0 σ) ∧ (¬ ((fg_F σ h0 0) ≤ a0) → ((3 ≤ a0 → Q 0 σ) ∧ (¬ (3 ≤ a0) → Q 1 σ))))))) : fg_Run d 31 0 [some (.ref h0), some (.int a0)] [] σ Q := by
  rcases Sh0 with rfl | rfl
  · exact fg_blk [0] 12 (⟨fun z205 => ⟨(by decide), (H.1 z205)⟩, fun z206 => ⟨rfl, ⟨fun z207 => ⟨(by decide), ((H.2 z206).1 z207)⟩, fun z208 => ⟨fun z209 => ⟨(by decide), (((H.2 z206).2 z208).1 z209)⟩, fun z210 => ⟨(by decide), (((H.2 z206).2 z208).2 z210)⟩⟩⟩⟩⟩)
  · exact fg_blk [0] 12 (⟨fun z205 => ⟨(by decide), (H.1 z205)⟩, fun z206 => ⟨rfl, ⟨fun z207 => ⟨(by decide), ((H.2 z206).1 z207)⟩, fun z208 => ⟨fun z209 => ⟨(by decide), (((H.2 z206).2 z208).1 z209)⟩, fun z210 => ⟨(by decide), (((H.2 z206).2 z208).2 z210)⟩⟩⟩⟩⟩)
set_option maxRecDepth 100000 in
theorem b_SH_hasFlag_0 {d : Nat} {σ : fg_St} {Q : Int32 → fg_St → Prop} {h0 : Nat} {a0 : Int32} (Sh0 : h0 = 3 ∨ h0 = 9) (H : ((a0 < 0 → Q 0 σ) ∧ (¬ (a0 < 0) → (((fg_F σ h0 2) ≤ a0 → Q 0 σ) ∧ (¬ ((fg_F σ h0 2) ≤ a0) → ((10 ≤ a0 → Q 0 σ) ∧ (¬ (10 ≤ a0) → Q 1 σ))))))) : fg_Run d 32 0 [some (.ref h0), some (.int a0)] [] σ Q := by
  rcases Sh0 with rfl | rfl
  · exact fg_blk [0] 12 (⟨fun z211 => ⟨(by decide), (H.1 z211)⟩, fun z212 => ⟨rfl, ⟨fun z213 => ⟨(by decide), ((H.2 z212).1 z213)⟩, fun z214 => ⟨fun z215 => ⟨(by decide), (((H.2 z212).2 z214).1 z215)⟩, fun z216 => ⟨(by decide), (((H.2 z212).2 z214).2 z216)⟩⟩⟩⟩⟩)
  · exact fg_blk [0] 12 (⟨fun z211 => ⟨(by decide), (H.1 z211)⟩, fun z212 => ⟨rfl, ⟨fun z213 => ⟨(by decide), ((H.2 z212).1 z213)⟩, fun z214 => ⟨fun z215 => ⟨(by decide), (((H.2 z212).2 z214).1 z215)⟩, fun z216 => ⟨(by decide), (((H.2 z212).2 z214).2 z216)⟩⟩⟩⟩⟩)
set_option maxRecDepth 100000 in
theorem b_SH_hasSignal_0 {d : Nat} {σ : fg_St} {Q : Int32 → fg_St → Prop} {h0 : Nat} {a0 : Int32} (Sh0 : h0 = 3 ∨ h0 = 9) (H : ((a0 < 0 → Q 0 σ) ∧ (¬ (a0 < 0) → (((fg_F σ h0 3) ≤ a0 → Q 0 σ) ∧ (¬ ((fg_F σ h0 3) ≤ a0) → ((10 ≤ a0 → Q 0 σ) ∧ (¬ (10 ≤ a0) → Q 1 σ))))))) : fg_Run d 33 0 [some (.ref h0), some (.int a0)] [] σ Q := by
  rcases Sh0 with rfl | rfl
  · exact fg_blk [0] 12 (⟨fun z217 => ⟨(by decide), (H.1 z217)⟩, fun z218 => ⟨rfl, ⟨fun z219 => ⟨(by decide), ((H.2 z218).1 z219)⟩, fun z220 => ⟨fun z221 => ⟨(by decide), (((H.2 z218).2 z220).1 z221)⟩, fun z222 => ⟨(by decide), (((H.2 z218).2 z220).2 z222)⟩⟩⟩⟩⟩)
  · exact fg_blk [0] 12 (⟨fun z217 => ⟨(by decide), (H.1 z217)⟩, fun z218 => ⟨rfl, ⟨fun z219 => ⟨(by decide), ((H.2 z218).1 z219)⟩, fun z220 => ⟨fun z221 => ⟨(by decide), (((H.2 z218).2 z220).1 z221)⟩, fun z222 => ⟨(by decide), (((H.2 z218).2 z220).2 z222)⟩⟩⟩⟩⟩)
set_option maxRecDepth 100000 in
theorem b_SH_hasAll_0 {d : Nat} {σ : fg_St} {Q : Int32 → fg_St → Prop} {h0 : Nat} {a0 : Int32} (Sh0 : h0 = 3 ∨ h0 = 9) (H : (∃ P, fg_Run d 35 0 [some (.ref h0)] [] σ P ∧ ∀ x1 u2, P x1 u2 → ((¬ (a0 &&& (x1 ^^^ (-1))) = 0 → Q 0 u2) ∧ ((a0 &&& (x1 ^^^ (-1))) = 0 → Q 1 u2)))) : fg_Run (d + 1) 34 0 [some (.ref h0), some (.int a0)] [] σ Q := by
  rcases Sh0 with rfl | rfl
  · exact fg_blk [0] 10 (⟨rfl, (match H with | ⟨z223, z224, z225f⟩ => ⟨z223, z224, fun x1 u2 z225p => ⟨fun z226 => ⟨(by decide), ((z225f x1 u2 z225p).1 z226)⟩, fun z227 => ⟨(by decide), ((z225f x1 u2 z225p).2 (Classical.not_not.mp z227))⟩⟩⟩)⟩)
  · exact fg_blk [0] 10 (⟨rfl, (match H with | ⟨z223, z224, z225f⟩ => ⟨z223, z224, fun x1 u2 z225p => ⟨fun z226 => ⟨(by decide), ((z225f x1 u2 z225p).1 z226)⟩, fun z227 => ⟨(by decide), ((z225f x1 u2 z225p).2 (Classical.not_not.mp z227))⟩⟩⟩)⟩)
set_option maxRecDepth 100000 in
theorem b_SH_allSignals_0 {d : Nat} {σ : fg_St} {Q : Int32 → fg_St → Prop} {h0 : Nat} (Sh0 : h0 = 3 ∨ h0 = 9) (H : Q ((1 <<< ((fg_F σ h0 3) &&& 31)) - 1) σ) : fg_Run d 35 0 [some (.ref h0)] [] σ Q := by
  rcases Sh0 with rfl | rfl
  · exact fg_blk [0] 7 (⟨rfl, H⟩)
  · exact fg_blk [0] 7 (⟨rfl, H⟩)
set_option maxRecDepth 100000 in
theorem b_SH_allFlags_0 {d : Nat} {σ : fg_St} {Q : Int32 → fg_St → Prop} {h0 : Nat} (Sh0 : h0 = 3 ∨ h0 = 9) (H : Q ((1 <<< ((fg_F σ h0 2) &&& 31)) - 1) σ) : fg_Run d 36 0 [some (.ref h0)] [] σ Q := by
  rcases Sh0 with rfl | rfl
  · exact fg_blk [0] 7 (⟨rfl, H⟩)
  · exact fg_blk [0] 7 (⟨rfl, H⟩)
set_option maxRecDepth 100000 in
theorem b_SH_allSubstitutes_0 {d : Nat} {σ : fg_St} {Q : Int32 → fg_St → Prop} {h0 : Nat} (Sh0 : h0 = 3 ∨ h0 = 9) (H : Q ((2 <<< ((fg_F σ h0 1) &&& 31)) - 2) σ) : fg_Run d 37 0 [some (.ref h0)] [] σ Q := by
  rcases Sh0 with rfl | rfl
  · exact fg_blk [0] 7 (⟨rfl, H⟩)
  · exact fg_blk [0] 7 (⟨rfl, H⟩)
set_option maxRecDepth 100000 in
theorem b_SH_addFlag_0 {d : Nat} {σ : fg_St} {Q : Int32 → fg_St → Prop} {h0 : Nat} {a0 : Int32} {a1 : Int32} {a2 : Int32} (Sh0 : h0 = 3 ∨ h0 = 9) (H : ((10 ≤ (fg_F σ h0 2) → Q 0 σ) ∧ (¬ (10 ≤ (fg_F σ h0 2)) → (vp_in (fg_F σ h0 2) 10 ∧ (vp_in (fg_F σ h0 2) 10 ∧ (vp_in (fg_F σ h0 2) 10 ∧ Q 0 (fg_sF (fg_sR (fg_sR (fg_sR σ (h0 + 1) ((fg_F σ h0 2).toNatClampNeg) a0) (h0 + 2) ((fg_F σ h0 2).toNatClampNeg) a1) (h0 + 3) ((fg_F σ h0 2).toNatClampNeg) a2) h0 2 ((fg_F σ h0 2) + 1)))))))) : fg_Run d 38 0 [some (.ref h0), some (.int a0), some (.int a1), some (.int a2)] [] σ Q := by
  rcases Sh0 with rfl | rfl
  · exact fg_blk [0] 29 (⟨rfl, ⟨fun z228 => (H.1 z228), fun z229 => ⟨rfl, ⟨rfl, ⟨rfl, ⟨(H.2 z229).1, ⟨rfl, ⟨rfl, ⟨rfl, ⟨(H.2 z229).2.1, ⟨rfl, ⟨rfl, ⟨rfl, ⟨(H.2 z229).2.2.1, ⟨rfl, ⟨rfl, (H.2 z229).2.2.2⟩⟩⟩⟩⟩⟩⟩⟩⟩⟩⟩⟩⟩⟩⟩⟩)
  · exact fg_blk [0] 29 (⟨rfl, ⟨fun z228 => (H.1 z228), fun z229 => ⟨rfl, ⟨rfl, ⟨rfl, ⟨(H.2 z229).1, ⟨rfl, ⟨rfl, ⟨rfl, ⟨(H.2 z229).2.1, ⟨rfl, ⟨rfl, ⟨rfl, ⟨(H.2 z229).2.2.1, ⟨rfl, ⟨rfl, (H.2 z229).2.2.2⟩⟩⟩⟩⟩⟩⟩⟩⟩⟩⟩⟩⟩⟩⟩⟩)
set_option maxRecDepth 100000 in
theorem b_SH_startSignal_0 {d : Nat} {σ : fg_St} {Q : Int32 → fg_St → Prop} {h0 : Nat} (Sh0 : h0 = 3 ∨ h0 = 9) (H : ((10 ≤ (fg_F σ h0 3) → Q 0 σ) ∧ (¬ (10 ≤ (fg_F σ h0 3)) → (vp_in (fg_F σ h0 3) 10 ∧ fg_Run d 39 21 [some (.ref h0), some (.int 0)] [] (fg_sR σ (h0 + 4) ((fg_F σ h0 3).toNatClampNeg) 0) Q)))) : fg_Run d 39 0 [some (.ref h0), none] [] σ Q := by
  rcases Sh0 with rfl | rfl
  · exact fg_blk [0, 21] 13 (⟨rfl, ⟨fun z230 => (H.1 z230), fun z231 => ⟨rfl, ⟨rfl, ⟨rfl, ⟨(H.2 z231).1, (H.2 z231).2⟩⟩⟩⟩⟩⟩)
  · exact fg_blk [0, 21] 13 (⟨rfl, ⟨fun z230 => (H.1 z230), fun z231 => ⟨rfl, ⟨rfl, ⟨rfl, ⟨(H.2 z231).1, (H.2 z231).2⟩⟩⟩⟩⟩⟩)
set_option maxRecDepth 100000 in
theorem b_SH_startSignal_21 {d : Nat} {σ : fg_St} {Q : Int32 → fg_St → Prop} {h0 : Nat} {y1 : Int32} (Sh0 : h0 = 3 ∨ h0 = 9) (H : ((4 ≤ y1 → Q 0 σ) ∧ (¬ (4 ≤ y1) → (vp_in (((fg_F σ h0 3) * 4) + y1) 40 ∧ fg_Run d 39 21 [some (.ref h0), some (.int (y1 + 1))] [] (fg_sR σ (h0 + 5) ((((fg_F σ h0 3) * 4) + y1).toNatClampNeg) (-1)) Q)))) : fg_Run d 39 21 [some (.ref h0), some (.int y1)] [] σ Q := by
  rcases Sh0 with rfl | rfl
  · exact fg_blk [0, 21] 16 (⟨fun z232 => (H.1 z232), fun z233 => ⟨rfl, ⟨rfl, ⟨rfl, ⟨(H.2 z233).1, (H.2 z233).2⟩⟩⟩⟩⟩)
  · exact fg_blk [0, 21] 16 (⟨fun z232 => (H.1 z232), fun z233 => ⟨rfl, ⟨rfl, ⟨rfl, ⟨(H.2 z233).1, (H.2 z233).2⟩⟩⟩⟩⟩)
set_option maxRecDepth 100000 in
theorem b_SH_addToSignal_0 {d : Nat} {σ : fg_St} {Q : Int32 → fg_St → Prop} {h0 : Nat} {a0 : Int32} (Sh0 : h0 = 3 ∨ h0 = 9) (H : ((10 ≤ (fg_F σ h0 3) → Q 0 σ) ∧ (¬ (10 ≤ (fg_F σ h0 3)) → (vp_in (fg_F σ h0 3) 10 ∧ ((4 ≤ (fg_R σ (h0 + 4) ((fg_F σ h0 3).toNatClampNeg)) → Q 0 σ) ∧ (¬ (4 ≤ (fg_R σ (h0 + 4) ((fg_F σ h0 3).toNatClampNeg))) → (vp_in (fg_F σ h0 3) 10 ∧ (vp_in (((fg_F σ h0 3) * 4) + (fg_R σ (h0 + 4) ((fg_F σ h0 3).toNatClampNeg))) 40 ∧ (vp_in (fg_F σ h0 3) 10 ∧ (vp_in (fg_F σ h0 3) 10 ∧ Q 0 (fg_sR (fg_sR σ (h0 + 5) ((((fg_F σ h0 3) * 4) + (fg_R σ (h0 + 4) ((fg_F σ h0 3).toNatClampNeg))).toNatClampNeg) a0) (h0 + 4) ((fg_F σ h0 3).toNatClampNeg) ((fg_R σ (h0 + 4) ((fg_F σ h0 3).toNatClampNeg)) + 1)))))))))))) : fg_Run d 40 0 [some (.ref h0), some (.int a0)] [] σ Q := by
  rcases Sh0 with rfl | rfl
  · exact fg_blk [0] 35 (⟨rfl, ⟨fun z234 => (H.1 z234), fun z235 => ⟨rfl, ⟨rfl, ⟨rfl, ⟨(H.2 z235).1, ⟨fun z236 => ((H.2 z235).2.1 z236), fun z237 => ⟨rfl, ⟨rfl, ⟨rfl, ⟨rfl, ⟨rfl, ⟨((H.2 z235).2.2 z237).1, ⟨rfl, ⟨((H.2 z235).2.2 z237).2.1, ⟨rfl, ⟨rfl, ⟨rfl, ⟨((H.2 z235).2.2 z237).2.2.1, ⟨rfl, ⟨((H.2 z235).2.2 z237).2.2.2.1, ((H.2 z235).2.2 z237).2.2.2.2⟩⟩⟩⟩⟩⟩⟩⟩⟩⟩⟩⟩⟩⟩⟩⟩⟩⟩⟩⟩⟩)
  · exact fg_blk [0] 35 (⟨rfl, ⟨fun z234 => (H.1 z234), fun z235 => ⟨rfl, ⟨rfl, ⟨rfl, ⟨(H.2 z235).1, ⟨fun z236 => ((H.2 z235).2.1 z236), fun z237 => ⟨rfl, ⟨rfl, ⟨rfl, ⟨rfl, ⟨rfl, ⟨((H.2 z235).2.2 z237).1, ⟨rfl, ⟨((H.2 z235).2.2 z237).2.1, ⟨rfl, ⟨rfl, ⟨rfl, ⟨((H.2 z235).2.2 z237).2.2.1, ⟨rfl, ⟨((H.2 z235).2.2 z237).2.2.2.1, ((H.2 z235).2.2 z237).2.2.2.2⟩⟩⟩⟩⟩⟩⟩⟩⟩⟩⟩⟩⟩⟩⟩⟩⟩⟩⟩⟩⟩)
set_option maxRecDepth 100000 in
theorem b_SH_endSignal_0 {d : Nat} {σ : fg_St} {Q : Int32 → fg_St → Prop} {h0 : Nat} (Sh0 : h0 = 3 ∨ h0 = 9) (H : ((10 ≤ (fg_F σ h0 3) → Q 0 σ) ∧ (¬ (10 ≤ (fg_F σ h0 3)) → Q 0 (fg_sF σ h0 3 ((fg_F σ h0 3) + 1))))) : fg_Run d 41 0 [some (.ref h0)] [] σ Q := by
  rcases Sh0 with rfl | rfl
  · exact fg_blk [0] 11 (⟨rfl, ⟨fun z238 => (H.1 z238), fun z239 => ⟨rfl, ⟨rfl, (H.2 z239)⟩⟩⟩⟩)
  · exact fg_blk [0] 11 (⟨rfl, ⟨fun z238 => (H.1 z238), fun z239 => ⟨rfl, ⟨rfl, (H.2 z239)⟩⟩⟩⟩)
set_option maxRecDepth 100000 in
theorem b_SH_flagAt_0 {d : Nat} {σ : fg_St} {Q : Int32 → fg_St → Prop} {h0 : Nat} {a0 : Int32} {a1 : Int32} (Sh0 : h0 = 3 ∨ h0 = 9) (H : ((a0 < 0 → Q (-1) σ) ∧ (¬ (a0 < 0) → (((fg_F σ h0 3) ≤ a0 → Q (-1) σ) ∧ (¬ ((fg_F σ h0 3) ≤ a0) → ((10 ≤ a0 → Q (-1) σ) ∧ (¬ (10 ≤ a0) → ((a1 < 0 → Q (-1) σ) ∧ (¬ (a1 < 0) → ((4 ≤ a1 → Q (-1) σ) ∧ (¬ (4 ≤ a1) → (vp_in ((a0 * 4) + a1) 40 ∧ Q (fg_R σ (h0 + 5) (((a0 * 4) + a1).toNatClampNeg)) σ)))))))))))) : fg_Run d 42 0 [some (.ref h0), some (.int a0), some (.int a1), none] [] σ Q := by
  rcases Sh0 with rfl | rfl
  · exact fg_blk [0] 29 (⟨fun z240 => ⟨fun _ => (H.1 z240), fun z242 => absurd (show (0 : Int32) = 0 from by decide) z242⟩, fun z241 => ⟨rfl, ⟨fun z243 => ⟨fun _ => ((H.2 z241).1 z243), fun z245 => absurd (show (0 : Int32) = 0 from by decide) z245⟩, fun z244 => ⟨fun z246 => ⟨fun _ => (((H.2 z241).2 z244).1 z246), fun z248 => absurd (show (0 : Int32) = 0 from by decide) z248⟩, fun z247 => ⟨fun z249 => ⟨fun _ => ((((H.2 z241).2 z244).2 z247).1 z249), fun z251 => absurd (show (0 : Int32) = 0 from by decide) z251⟩, fun z250 => ⟨fun z252 => ⟨fun _ => (((((H.2 z241).2 z244).2 z247).2 z250).1 z252), fun z254 => absurd (show (0 : Int32) = 0 from by decide) z254⟩, fun z253 => ⟨fun z255 => absurd z255 (show ¬ ((1 : Int32) = 0) from by decide), fun _ => ⟨rfl, ⟨rfl, ⟨(((((H.2 z241).2 z244).2 z247).2 z250).2 z253).1, (((((H.2 z241).2 z244).2 z247).2 z250).2 z253).2⟩⟩⟩⟩⟩⟩⟩⟩⟩⟩)
  · exact fg_blk [0] 29 (⟨fun z240 => ⟨fun _ => (H.1 z240), fun z242 => absurd (show (0 : Int32) = 0 from by decide) z242⟩, fun z241 => ⟨rfl, ⟨fun z243 => ⟨fun _ => ((H.2 z241).1 z243), fun z245 => absurd (show (0 : Int32) = 0 from by decide) z245⟩, fun z244 => ⟨fun z246 => ⟨fun _ => (((H.2 z241).2 z244).1 z246), fun z248 => absurd (show (0 : Int32) = 0 from by decide) z248⟩, fun z247 => ⟨fun z249 => ⟨fun _ => ((((H.2 z241).2 z244).2 z247).1 z249), fun z251 => absurd (show (0 : Int32) = 0 from by decide) z251⟩, fun z250 => ⟨fun z252 => ⟨fun _ => (((((H.2 z241).2 z244).2 z247).2 z250).1 z252), fun z254 => absurd (show (0 : Int32) = 0 from by decide) z254⟩, fun z253 => ⟨fun z255 => absurd z255 (show ¬ ((1 : Int32) = 0) from by decide), fun _ => ⟨rfl, ⟨rfl, ⟨(((((H.2 z241).2 z244).2 z247).2 z250).2 z253).1, (((((H.2 z241).2 z244).2 z247).2 z250).2 z253).2⟩⟩⟩⟩⟩⟩⟩⟩⟩⟩)
set_option maxRecDepth 100000 in
theorem b_SH_signalsWith_0 {d : Nat} {σ : fg_St} {Q : Int32 → fg_St → Prop} {h0 : Nat} {a0 : Int32} (Sh0 : h0 = 3 ∨ h0 = 9) (H : fg_Run (d + 1) 43 4 [some (.ref h0), some (.int a0), some (.int 0), some (.int 0), none] [] σ Q) : fg_Run (d + 1) 43 0 [some (.ref h0), some (.int a0), none, none, none] [] σ Q := by
  rcases Sh0 with rfl | rfl
  · exact fg_blk [0, 4, 15] 5 (H)
  · exact fg_blk [0, 4, 15] 5 (H)
set_option maxRecDepth 100000 in
theorem b_SH_signalsWith_4 {d : Nat} {σ : fg_St} {Q : Int32 → fg_St → Prop} {h0 : Nat} {y1 : Int32} {y2 : Int32} {y3 : Int32} (Sh0 : h0 = 3 ∨ h0 = 9) (H : (((fg_F σ h0 3) ≤ y3 → Q y2 σ) ∧ (¬ ((fg_F σ h0 3) ≤ y3) → fg_Run (d + 1) 43 15 [some (.ref h0), some (.int y1), some (.int y2), some (.int y3), some (.int 0)] [] σ Q))) : fg_Run (d + 1) 43 4 [some (.ref h0), some (.int y1), some (.int y2), some (.int y3), none] [] σ Q := by
  rcases Sh0 with rfl | rfl
  · exact fg_blk [0, 4, 15] 7 (⟨rfl, ⟨fun z256 => (H.1 z256), fun z257 => (H.2 z257)⟩⟩)
  · exact fg_blk [0, 4, 15] 7 (⟨rfl, ⟨fun z256 => (H.1 z256), fun z257 => (H.2 z257)⟩⟩)
set_option maxRecDepth 100000 in
theorem b_SH_signalsWith_15 {d : Nat} {σ : fg_St} {Q : Int32 → fg_St → Prop} {h0 : Nat} {y1 : Int32} {y2 : Int32} {y3 : Int32} {y4 : Int32} (Sh0 : h0 = 3 ∨ h0 = 9) (H : ((4 ≤ y4 → fg_Run (d + 1) 43 4 [some (.ref h0), some (.int y1), some (.int y2), some (.int (y3 + 1)), none] [] σ Q) ∧ (¬ (4 ≤ y4) → (∃ P, fg_Run d 42 0 [some (.ref h0), some (.int y3), some (.int y4), none] [] σ P ∧ ∀ x1 u2, P x1 u2 → ((¬ x1 = y1 → fg_Run (d + 1) 43 15 [some (.ref h0), some (.int y1), some (.int y2), some (.int y3), some (.int (y4 + 1))] [] u2 Q) ∧ (x1 = y1 → fg_Run (d + 1) 43 15 [some (.ref h0), some (.int y1), some (.int (y2 ||| (1 <<< (y3 &&& 31)))), some (.int y3), some (.int (y4 + 1))] [] u2 Q)))))) : fg_Run (d + 1) 43 15 [some (.ref h0), some (.int y1), some (.int y2), some (.int y3), some (.int y4)] [] σ Q := by
  rcases Sh0 with rfl | rfl
  · exact fg_blk [0, 4, 15] 18 (⟨fun z258 => (fg_Run.drop (L := [some _, some _, some _, some _, none]) ⟨rfl, ⟨rfl, ⟨rfl, ⟨rfl, ⟨trivial, trivial⟩⟩⟩⟩⟩ (H.1 z258)), fun z259 => ⟨rfl, (match (H.2 z259) with | ⟨z260, z261, z262f⟩ => ⟨z260, z261, fun x1 u2 z262p => ⟨fun z263 => ((z262f x1 u2 z262p).1 z263), fun z264 => ((z262f x1 u2 z262p).2 (Classical.not_not.mp z264))⟩⟩)⟩⟩)
  · exact fg_blk [0, 4, 15] 18 (⟨fun z258 => (fg_Run.drop (L := [some _, some _, some _, some _, none]) ⟨rfl, ⟨rfl, ⟨rfl, ⟨rfl, ⟨trivial, trivial⟩⟩⟩⟩⟩ (H.1 z258)), fun z259 => ⟨rfl, (match (H.2 z259) with | ⟨z260, z261, z262f⟩ => ⟨z260, z261, fun x1 u2 z262p => ⟨fun z263 => ((z262f x1 u2 z262p).1 z263), fun z264 => ((z262f x1 u2 z262p).2 (Classical.not_not.mp z264))⟩⟩)⟩⟩)
set_option maxRecDepth 100000 in
theorem b_TX_append_0 {d : Nat} {σ : fg_St} {Q : Int32 → fg_St → Prop} {a0 : Int32} (H : (((fg_F σ 1 1) < 240 → (vp_in (fg_F σ 1 1) 240 ∧ Q 1 (fg_sF (fg_sR σ 2 ((fg_F σ 1 1).toNatClampNeg) a0) 1 1 ((fg_F σ 1 1) + 1)))) ∧ (¬ ((fg_F σ 1 1) < 240) → Q 0 σ))) : fg_Run d 44 0 [some (.ref 1), some (.int a0)] [] σ Q := fg_blk [0] 20 (⟨rfl, ⟨rfl, ⟨⟨Nat.le_of_ble_eq_true rfl, Nat.le_of_ble_eq_true rfl⟩, ⟨fun z265 => ⟨rfl, ⟨rfl, ⟨rfl, ⟨(H.1 z265).1, ⟨rfl, ⟨rfl, ⟨(by decide), (H.1 z265).2⟩⟩⟩⟩⟩⟩⟩, fun z266 => ⟨(by decide), (H.2 z266)⟩⟩⟩⟩⟩)
set_option maxRecDepth 100000 in
theorem b_TX_parseInto_0 {d : Nat} {σ : fg_St} {Q : Int32 → fg_St → Prop} {h1 : Nat} (Sh1 : h1 = 3 ∨ h1 = 9) (H : (∃ P, fg_Run d 29 0 [some (.ref h1)] [] σ P ∧ ∀ x1 u2, P x1 u2 → (∃ P, fg_Run d 46 0 [some (.ref 1)] [] (fg_sF (fg_sF (fg_sF u2 1 2 0) 1 3 0) 1 4 (-1)) P ∧ ∀ x3 u4, P x3 u4 → ((¬ x3 = (-1) → (∃ P, fg_Run d 48 0 [some (.ref 1), some (.ref h1), none, none] [] u4 P ∧ ∀ x5 u6, P x5 u6 → fg_Run (d + 1) 45 36 [some (.ref 1), some (.ref h1), some (.int 0)] [] u6 Q)) ∧ (x3 = (-1) → Q 0 u4))))) : fg_Run (d + 1) 45 0 [some (.ref 1), some (.ref h1), none] [] σ Q := by
  rcases Sh1 with rfl | rfl
  · exact fg_blk [0, 36] 21 (⟨rfl, (match H with | ⟨z267, z268, z269f⟩ => ⟨z267, z268, fun x1 u2 z269p => ⟨rfl, ⟨rfl, ⟨rfl, ⟨rfl, (match (z269f x1 u2 z269p) with | ⟨z270, z271, z272f⟩ => ⟨z270, z271, fun x3 u4 z272p => ⟨fun z273 => ⟨rfl, (match ((z272f x3 u4 z272p).1 z273) with | ⟨z275, z276, z277f⟩ => ⟨z275, z276, fun x5 u6 z277p => (z277f x5 u6 z277p)⟩)⟩, fun z274 => ((z272f x3 u4 z272p).2 (Classical.not_not.mp z274))⟩⟩)⟩⟩⟩⟩⟩)⟩)
  · exact fg_blk [0, 36] 21 (⟨rfl, (match H with | ⟨z267, z268, z269f⟩ => ⟨z267, z268, fun x1 u2 z269p => ⟨rfl, ⟨rfl, ⟨rfl, ⟨rfl, (match (z269f x1 u2 z269p) with | ⟨z270, z271, z272f⟩ => ⟨z270, z271, fun x3 u4 z272p => ⟨fun z273 => ⟨rfl, (match ((z272f x3 u4 z272p).1 z273) with | ⟨z275, z276, z277f⟩ => ⟨z275, z276, fun x5 u6 z277p => (z277f x5 u6 z277p)⟩)⟩, fun z274 => ((z272f x3 u4 z272p).2 (Classical.not_not.mp z274))⟩⟩)⟩⟩⟩⟩⟩)⟩)
set_option maxRecDepth 100000 in
theorem b_TX_parseInto_36 {d : Nat} {σ : fg_St} {Q : Int32 → fg_St → Prop} {h1 : Nat} {y2 : Int32} (Sh1 : h1 = 3 ∨ h1 = 9) (H : ((240 ≤ y2 → Q (fg_F σ 1 3) σ) ∧ (¬ (240 ≤ y2) → ((¬ (fg_F σ 1 3) = 0 → Q (fg_F σ 1 3) σ) ∧ ((fg_F σ 1 3) = 0 → (∃ P, fg_Run d 46 0 [some (.ref 1)] [] σ P ∧ ∀ x1 u2, P x1 u2 → ((¬ x1 = (-1) → (∃ P, fg_Run d 49 0 [some (.ref 1), some (.ref h1), none] [] u2 P ∧ ∀ x3 u4, P x3 u4 → fg_Run (d + 1) 45 36 [some (.ref 1), some (.ref h1), some (.int (y2 + 1))] [] u4 Q)) ∧ (x1 = (-1) → Q (fg_F u2 1 3) u2)))))))) : fg_Run (d + 1) 45 36 [some (.ref 1), some (.ref h1), some (.int y2)] [] σ Q := by
  rcases Sh1 with rfl | rfl
  · exact fg_blk [0, 36] 16 (⟨fun z278 => ⟨rfl, (H.1 z278)⟩, fun z279 => ⟨rfl, ⟨fun z280 => ⟨rfl, ((H.2 z279).1 z280)⟩, fun z281 => ⟨rfl, (match ((H.2 z279).2 (Classical.not_not.mp z281)) with | ⟨z282, z283, z284f⟩ => ⟨z282, z283, fun x1 u2 z284p => ⟨fun z285 => ⟨rfl, (match ((z284f x1 u2 z284p).1 z285) with | ⟨z287, z288, z289f⟩ => ⟨z287, z288, fun x3 u4 z289p => (z289f x3 u4 z289p)⟩)⟩, fun z286 => ⟨rfl, ((z284f x1 u2 z284p).2 (Classical.not_not.mp z286))⟩⟩⟩)⟩⟩⟩⟩)
  · exact fg_blk [0, 36] 16 (⟨fun z278 => ⟨rfl, (H.1 z278)⟩, fun z279 => ⟨rfl, ⟨fun z280 => ⟨rfl, ((H.2 z279).1 z280)⟩, fun z281 => ⟨rfl, (match ((H.2 z279).2 (Classical.not_not.mp z281)) with | ⟨z282, z283, z284f⟩ => ⟨z282, z283, fun x1 u2 z284p => ⟨fun z285 => ⟨rfl, (match ((z284f x1 u2 z284p).1 z285) with | ⟨z287, z288, z289f⟩ => ⟨z287, z288, fun x3 u4 z289p => (z289f x3 u4 z289p)⟩)⟩, fun z286 => ⟨rfl, ((z284f x1 u2 z284p).2 (Classical.not_not.mp z286))⟩⟩⟩)⟩⟩⟩⟩)
set_option maxRecDepth 100000 in
theorem b_TX_nextLetter_0 {d : Nat} {σ : fg_St} {Q : Int32 → fg_St → Prop} (H : (((fg_F σ 1 1) ≤ (fg_F σ 1 2) → (((fg_F σ 1 1) ≤ (fg_F σ 1 2) → Q (-1) σ) ∧ (¬ ((fg_F σ 1 1) ≤ (fg_F σ 1 2)) → (vp_in (fg_F σ 1 2) 240 ∧ Q (fg_R σ 2 ((fg_F σ 1 2).toNatClampNeg)) σ)))) ∧ (¬ ((fg_F σ 1 1) ≤ (fg_F σ 1 2)) → (vp_in (fg_F σ 1 2) 240 ∧ ((¬ (fg_R σ 2 ((fg_F σ 1 2).toNatClampNeg)) = 32 → (((fg_F σ 1 1) ≤ (fg_F σ 1 2) → Q (-1) σ) ∧ (¬ ((fg_F σ 1 1) ≤ (fg_F σ 1 2)) → (vp_in (fg_F σ 1 2) 240 ∧ Q (fg_R σ 2 ((fg_F σ 1 2).toNatClampNeg)) σ)))) ∧ ((fg_R σ 2 ((fg_F σ 1 2).toNatClampNeg)) = 32 → fg_Run d 46 0 [some (.ref 1)] [] (fg_sF σ 1 2 ((fg_F σ 1 2) + 1)) Q)))))) : fg_Run d 46 0 [some (.ref 1)] [] σ Q := fg_blk [0, 0] 24 (⟨rfl, ⟨rfl, ⟨fun z290 => ⟨rfl, ⟨rfl, ⟨fun z292 => ((H.1 z290).1 z292), fun z293 => ⟨rfl, ⟨rfl, ⟨rfl, ⟨((H.1 z290).2 z293).1, ((H.1 z290).2 z293).2⟩⟩⟩⟩⟩⟩⟩, fun z291 => ⟨rfl, ⟨rfl, ⟨rfl, ⟨(H.2 z291).1, ⟨fun z294 => ⟨rfl, ⟨rfl, ⟨fun z296 => (((H.2 z291).2.1 z294).1 z296), fun z297 => ⟨rfl, ⟨rfl, ⟨rfl, ⟨(((H.2 z291).2.1 z294).2 z297).1, (((H.2 z291).2.1 z294).2 z297).2⟩⟩⟩⟩⟩⟩⟩, fun z295 => ⟨rfl, ⟨rfl, ((H.2 z291).2.2 (Classical.not_not.mp z295))⟩⟩⟩⟩⟩⟩⟩⟩⟩⟩)
set_option maxRecDepth 100000 in
theorem b_TX_blame_0 {d : Nat} {σ : fg_St} {Q : Int32 → fg_St → Prop} {a0 : Int32} {a1 : Int32} (H : ((¬ (fg_F σ 1 3) = 0 → Q 0 σ) ∧ ((fg_F σ 1 3) = 0 → Q 0 (fg_sF (fg_sF σ 1 3 a0) 1 4 a1)))) : fg_Run d 47 0 [some (.ref 1), some (.int a0), some (.int a1)] [] σ Q := fg_blk [0] 10 (⟨rfl, ⟨fun z298 => (H.1 z298), fun z299 => ⟨rfl, ⟨rfl, (H.2 (Classical.not_not.mp z299))⟩⟩⟩⟩)
set_option maxRecDepth 100000 in
theorem b_TX_parseLines_0 {d : Nat} {σ : fg_St} {Q : Int32 → fg_St → Prop} {h1 : Nat} (Sh1 : h1 = 3 ∨ h1 = 9) (H : (∃ P, fg_Run d 52 0 [some (.ref 1), some (.int 108)] [] σ P ∧ ∀ x1 u2, P x1 u2 → (∃ P, fg_Run d 53 0 [some (.ref 1), some (.int 1), some (.int 3), none, none] [] u2 P ∧ ∀ x3 u4, P x3 u4 → (∃ P, fg_Run d 53 0 [some (.ref 1), some (.int 0), some (.int 3), none, none] [] u4 P ∧ ∀ x5 u6, P x5 u6 → (∃ P, fg_Run d 52 0 [some (.ref 1), some (.int 59)] [] u6 P ∧ ∀ x7 u8, P x7 u8 → ((¬ (fg_F u8 1 3) = 0 → Q 0 u8) ∧ ((fg_F u8 1 3) = 0 → Q 0 (fg_sF (fg_sF u8 h1 0 x3) h1 1 x5)))))))) : fg_Run (d + 1) 48 0 [some (.ref 1), some (.ref h1), none, none] [] σ Q := by
  rcases Sh1 with rfl | rfl
  · exact fg_blk [0] 26 (⟨rfl, (match H with | ⟨z300, z301, z302f⟩ => ⟨z300, z301, fun x1 u2 z302p => ⟨rfl, (match (z302f x1 u2 z302p) with | ⟨z303, z304, z305f⟩ => ⟨z303, z304, fun x3 u4 z305p => ⟨rfl, (match (z305f x3 u4 z305p) with | ⟨z306, z307, z308f⟩ => ⟨z306, z307, fun x5 u6 z308p => ⟨rfl, (match (z308f x5 u6 z308p) with | ⟨z309, z310, z311f⟩ => ⟨z309, z310, fun x7 u8 z311p => ⟨rfl, ⟨fun z312 => ((z311f x7 u8 z311p).1 z312), fun z313 => ⟨rfl, ⟨rfl, ((z311f x7 u8 z311p).2 (Classical.not_not.mp z313))⟩⟩⟩⟩⟩)⟩⟩)⟩⟩)⟩⟩)⟩)
  · exact fg_blk [0] 26 (⟨rfl, (match H with | ⟨z300, z301, z302f⟩ => ⟨z300, z301, fun x1 u2 z302p => ⟨rfl, (match (z302f x1 u2 z302p) with | ⟨z303, z304, z305f⟩ => ⟨z303, z304, fun x3 u4 z305p => ⟨rfl, (match (z305f x3 u4 z305p) with | ⟨z306, z307, z308f⟩ => ⟨z306, z307, fun x5 u6 z308p => ⟨rfl, (match (z308f x5 u6 z308p) with | ⟨z309, z310, z311f⟩ => ⟨z309, z310, fun x7 u8 z311p => ⟨rfl, ⟨fun z312 => ((z311f x7 u8 z311p).1 z312), fun z313 => ⟨rfl, ⟨rfl, ((z311f x7 u8 z311p).2 (Classical.not_not.mp z313))⟩⟩⟩⟩⟩)⟩⟩)⟩⟩)⟩⟩)⟩)
set_option maxRecDepth 100000 in
theorem b_TX_parseClause_0 {d : Nat} {σ : fg_St} {Q : Int32 → fg_St → Prop} {h1 : Nat} (Sh1 : h1 = 3 ∨ h1 = 9) (H : (∃ P, fg_Run d 46 0 [some (.ref 1)] [] σ P ∧ ∀ x1 u2, P x1 u2 → ((¬ x1 = 102 → ((¬ x1 = 101 → ((¬ x1 = 108 → (∃ P, fg_Run d 47 0 [some (.ref 1), some (.int 1), some (.int (fg_F u2 1 2))] [] u2 P ∧ ∀ x3 u4, P x3 u4 → Q 0 u4)) ∧ (x1 = 108 → (∃ P, fg_Run d 47 0 [some (.ref 1), some (.int 3), some (.int (fg_F u2 1 2))] [] u2 P ∧ ∀ x5 u6, P x5 u6 → Q 0 u6)))) ∧ (x1 = 101 → (∃ P, fg_Run d 51 0 [some (.ref 1), some (.ref h1), none] [] u2 P ∧ ∀ x7 u8, P x7 u8 → Q 0 u8)))) ∧ (x1 = 102 → (∃ P, fg_Run d 50 0 [some (.ref 1), some (.ref h1), none, none, none] [] u2 P ∧ ∀ x9 u10, P x9 u10 → Q 0 u10))))) : fg_Run (d + 1) 49 0 [some (.ref 1), some (.ref h1), none] [] σ Q := by
  rcases Sh1 with rfl | rfl
  · exact fg_blk [0] 19 (⟨rfl, (match H with | ⟨z314, z315, z316f⟩ => ⟨z314, z315, fun x1 u2 z316p => ⟨fun z317 => ⟨fun z319 => ⟨fun z321 => ⟨rfl, ⟨rfl, (match ((((z316f x1 u2 z316p).1 z317).1 z319).1 z321) with | ⟨z323, z324, z325f⟩ => ⟨z323, z324, fun x3 u4 z325p => (z325f x3 u4 z325p)⟩)⟩⟩, fun z322 => ⟨rfl, ⟨rfl, (match ((((z316f x1 u2 z316p).1 z317).1 z319).2 (Classical.not_not.mp z322)) with | ⟨z326, z327, z328f⟩ => ⟨z326, z327, fun x5 u6 z328p => (z328f x5 u6 z328p)⟩)⟩⟩⟩, fun z320 => ⟨rfl, (match (((z316f x1 u2 z316p).1 z317).2 (Classical.not_not.mp z320)) with | ⟨z329, z330, z331f⟩ => ⟨z329, z330, fun x7 u8 z331p => (z331f x7 u8 z331p)⟩)⟩⟩, fun z318 => ⟨rfl, (match ((z316f x1 u2 z316p).2 (Classical.not_not.mp z318)) with | ⟨z332, z333, z334f⟩ => ⟨z332, z333, fun x9 u10 z334p => (z334f x9 u10 z334p)⟩)⟩⟩⟩)⟩)
  · exact fg_blk [0] 19 (⟨rfl, (match H with | ⟨z314, z315, z316f⟩ => ⟨z314, z315, fun x1 u2 z316p => ⟨fun z317 => ⟨fun z319 => ⟨fun z321 => ⟨rfl, ⟨rfl, (match ((((z316f x1 u2 z316p).1 z317).1 z319).1 z321) with | ⟨z323, z324, z325f⟩ => ⟨z323, z324, fun x3 u4 z325p => (z325f x3 u4 z325p)⟩)⟩⟩, fun z322 => ⟨rfl, ⟨rfl, (match ((((z316f x1 u2 z316p).1 z317).1 z319).2 (Classical.not_not.mp z322)) with | ⟨z326, z327, z328f⟩ => ⟨z326, z327, fun x5 u6 z328p => (z328f x5 u6 z328p)⟩)⟩⟩⟩, fun z320 => ⟨rfl, (match (((z316f x1 u2 z316p).1 z317).2 (Classical.not_not.mp z320)) with | ⟨z329, z330, z331f⟩ => ⟨z329, z330, fun x7 u8 z331p => (z331f x7 u8 z331p)⟩)⟩⟩, fun z318 => ⟨rfl, (match ((z316f x1 u2 z316p).2 (Classical.not_not.mp z318)) with | ⟨z332, z333, z334f⟩ => ⟨z332, z333, fun x9 u10 z334p => (z334f x9 u10 z334p)⟩)⟩⟩⟩)⟩)
set_option maxRecDepth 100000 in
theorem b_TX_parseFlag_0 {d : Nat} {σ : fg_St} {Q : Int32 → fg_St → Prop} {h1 : Nat} (Sh1 : h1 = 3 ∨ h1 = 9) (H : (((fg_F σ h1 2) < 10 → (∃ P, fg_Run d 52 0 [some (.ref 1), some (.int 102)] [] σ P ∧ ∀ x1 u2, P x1 u2 → (∃ P, fg_Run d 53 0 [some (.ref 1), some (.int 0), some (.int 3), none, none] [] u2 P ∧ ∀ x3 u4, P x3 u4 → (∃ P, fg_Run d 53 0 [some (.ref 1), some (.int 0), some (.int 4), none, none] [] u4 P ∧ ∀ x5 u6, P x5 u6 → (∃ P, fg_Run d 53 0 [some (.ref 1), some (.int 0), some (.int 4), none, none] [] u6 P ∧ ∀ x7 u8, P x7 u8 → (∃ P, fg_Run d 52 0 [some (.ref 1), some (.int 59)] [] u8 P ∧ ∀ x9 u10, P x9 u10 → ((¬ (fg_F u10 1 3) = 0 → Q 0 u10) ∧ ((fg_F u10 1 3) = 0 → (∃ P, fg_Run d 38 0 [some (.ref h1), some (.int x3), some (.int x5), some (.int x7)] [] u10 P ∧ ∀ x11 u12, P x11 u12 → Q 0 u12))))))))) ∧ (¬ ((fg_F σ h1 2) < 10) → (∃ P, fg_Run d 47 0 [some (.ref 1), some (.int 3), some (.int (fg_F σ 1 2))] [] σ P ∧ ∀ x13 u14, P x13 u14 → (∃ P, fg_Run d 52 0 [some (.ref 1), some (.int 102)] [] u14 P ∧ ∀ x15 u16, P x15 u16 → (∃ P, fg_Run d 53 0 [some (.ref 1), some (.int 0), some (.int 3), none, none] [] u16 P ∧ ∀ x17 u18, P x17 u18 → (∃ P, fg_Run d 53 0 [some (.ref 1), some (.int 0), some (.int 4), none, none] [] u18 P ∧ ∀ x19 u20, P x19 u20 → (∃ P, fg_Run d 53 0 [some (.ref 1), some (.int 0), some (.int 4), none, none] [] u20 P ∧ ∀ x21 u22, P x21 u22 → (∃ P, fg_Run d 52 0 [some (.ref 1), some (.int 59)] [] u22 P ∧ ∀ x23 u24, P x23 u24 → ((¬ (fg_F u24 1 3) = 0 → Q 0 u24) ∧ ((fg_F u24 1 3) = 0 → (∃ P, fg_Run d 38 0 [some (.ref h1), some (.int x17), some (.int x19), some (.int x21)] [] u24 P ∧ ∀ x25 u26, P x25 u26 → Q 0 u26)))))))))))) : fg_Run (d + 1) 50 0 [some (.ref 1), some (.ref h1), none, none, none] [] σ Q := by
  rcases Sh1 with rfl | rfl
  · exact fg_blk [0] 39 (⟨rfl, ⟨fun z335 => ⟨rfl, (match (H.1 z335) with | ⟨z337, z338, z339f⟩ => ⟨z337, z338, fun x1 u2 z339p => ⟨rfl, (match (z339f x1 u2 z339p) with | ⟨z340, z341, z342f⟩ => ⟨z340, z341, fun x3 u4 z342p => ⟨rfl, (match (z342f x3 u4 z342p) with | ⟨z343, z344, z345f⟩ => ⟨z343, z344, fun x5 u6 z345p => ⟨rfl, (match (z345f x5 u6 z345p) with | ⟨z346, z347, z348f⟩ => ⟨z346, z347, fun x7 u8 z348p => ⟨rfl, (match (z348f x7 u8 z348p) with | ⟨z349, z350, z351f⟩ => ⟨z349, z350, fun x9 u10 z351p => ⟨rfl, ⟨fun z352 => ((z351f x9 u10 z351p).1 z352), fun z353 => ⟨rfl, (match ((z351f x9 u10 z351p).2 (Classical.not_not.mp z353)) with | ⟨z354, z355, z356f⟩ => ⟨z354, z355, fun x11 u12 z356p => (z356f x11 u12 z356p)⟩)⟩⟩⟩⟩)⟩⟩)⟩⟩)⟩⟩)⟩⟩)⟩, fun z336 => ⟨rfl, ⟨rfl, (match (H.2 z336) with | ⟨z357, z358, z359f⟩ => ⟨z357, z358, fun x13 u14 z359p => ⟨rfl, (match (z359f x13 u14 z359p) with | ⟨z360, z361, z362f⟩ => ⟨z360, z361, fun x15 u16 z362p => ⟨rfl, (match (z362f x15 u16 z362p) with | ⟨z363, z364, z365f⟩ => ⟨z363, z364, fun x17 u18 z365p => ⟨rfl, (match (z365f x17 u18 z365p) with | ⟨z366, z367, z368f⟩ => ⟨z366, z367, fun x19 u20 z368p => ⟨rfl, (match (z368f x19 u20 z368p) with | ⟨z369, z370, z371f⟩ => ⟨z369, z370, fun x21 u22 z371p => ⟨rfl, (match (z371f x21 u22 z371p) with | ⟨z372, z373, z374f⟩ => ⟨z372, z373, fun x23 u24 z374p => ⟨rfl, ⟨fun z375 => ((z374f x23 u24 z374p).1 z375), fun z376 => ⟨rfl, (match ((z374f x23 u24 z374p).2 (Classical.not_not.mp z376)) with | ⟨z377, z378, z379f⟩ => ⟨z377, z378, fun x25 u26 z379p => (z379f x25 u26 z379p)⟩)⟩⟩⟩⟩)⟩⟩)⟩⟩)⟩⟩)⟩⟩)⟩⟩)⟩⟩⟩⟩)
  · exact fg_blk [0] 39 (⟨rfl, ⟨fun z335 => ⟨rfl, (match (H.1 z335) with | ⟨z337, z338, z339f⟩ => ⟨z337, z338, fun x1 u2 z339p => ⟨rfl, (match (z339f x1 u2 z339p) with | ⟨z340, z341, z342f⟩ => ⟨z340, z341, fun x3 u4 z342p => ⟨rfl, (match (z342f x3 u4 z342p) with | ⟨z343, z344, z345f⟩ => ⟨z343, z344, fun x5 u6 z345p => ⟨rfl, (match (z345f x5 u6 z345p) with | ⟨z346, z347, z348f⟩ => ⟨z346, z347, fun x7 u8 z348p => ⟨rfl, (match (z348f x7 u8 z348p) with | ⟨z349, z350, z351f⟩ => ⟨z349, z350, fun x9 u10 z351p => ⟨rfl, ⟨fun z352 => ((z351f x9 u10 z351p).1 z352), fun z353 => ⟨rfl, (match ((z351f x9 u10 z351p).2 (Classical.not_not.mp z353)) with | ⟨z354, z355, z356f⟩ => ⟨z354, z355, fun x11 u12 z356p => (z356f x11 u12 z356p)⟩)⟩⟩⟩⟩)⟩⟩)⟩⟩)⟩⟩)⟩⟩)⟩, fun z336 => ⟨rfl, ⟨rfl, (match (H.2 z336) with | ⟨z357, z358, z359f⟩ => ⟨z357, z358, fun x13 u14 z359p => ⟨rfl, (match (z359f x13 u14 z359p) with | ⟨z360, z361, z362f⟩ => ⟨z360, z361, fun x15 u16 z362p => ⟨rfl, (match (z362f x15 u16 z362p) with | ⟨z363, z364, z365f⟩ => ⟨z363, z364, fun x17 u18 z365p => ⟨rfl, (match (z365f x17 u18 z365p) with | ⟨z366, z367, z368f⟩ => ⟨z366, z367, fun x19 u20 z368p => ⟨rfl, (match (z368f x19 u20 z368p) with | ⟨z369, z370, z371f⟩ => ⟨z369, z370, fun x21 u22 z371p => ⟨rfl, (match (z371f x21 u22 z371p) with | ⟨z372, z373, z374f⟩ => ⟨z372, z373, fun x23 u24 z374p => ⟨rfl, ⟨fun z375 => ((z374f x23 u24 z374p).1 z375), fun z376 => ⟨rfl, (match ((z374f x23 u24 z374p).2 (Classical.not_not.mp z376)) with | ⟨z377, z378, z379f⟩ => ⟨z377, z378, fun x25 u26 z379p => (z379f x25 u26 z379p)⟩)⟩⟩⟩⟩)⟩⟩)⟩⟩)⟩⟩)⟩⟩)⟩⟩)⟩⟩⟩⟩)
set_option maxRecDepth 100000 in
theorem b_TX_parseSignal_0 {d : Nat} {σ : fg_St} {Q : Int32 → fg_St → Prop} {h1 : Nat} (Sh1 : h1 = 3 ∨ h1 = 9) (H : (((fg_F σ h1 3) < 10 → (∃ P, fg_Run d 52 0 [some (.ref 1), some (.int 101)] [] σ P ∧ ∀ x1 u2, P x1 u2 → (∃ P, fg_Run d 39 0 [some (.ref h1), none] [] u2 P ∧ ∀ x3 u4, P x3 u4 → (∃ P, fg_Run d 53 0 [some (.ref 1), some (.int 0), some (.int ((fg_F u4 h1 2) - 1)), none, none] [] u4 P ∧ ∀ x5 u6, P x5 u6 → (∃ P, fg_Run d 40 0 [some (.ref h1), some (.int x5)] [] u6 P ∧ ∀ x7 u8, P x7 u8 → fg_Run (d + 1) 51 45 [some (.ref 1), some (.ref h1), some (.int 1)] [] u8 Q))))) ∧ (¬ ((fg_F σ h1 3) < 10) → (∃ P, fg_Run d 47 0 [some (.ref 1), some (.int 3), some (.int (fg_F σ 1 2))] [] σ P ∧ ∀ x9 u10, P x9 u10 → (∃ P, fg_Run d 52 0 [some (.ref 1), some (.int 101)] [] u10 P ∧ ∀ x11 u12, P x11 u12 → (∃ P, fg_Run d 39 0 [some (.ref h1), none] [] u12 P ∧ ∀ x13 u14, P x13 u14 → (∃ P, fg_Run d 53 0 [some (.ref 1), some (.int 0), some (.int ((fg_F u14 h1 2) - 1)), none, none] [] u14 P ∧ ∀ x15 u16, P x15 u16 → (∃ P, fg_Run d 40 0 [some (.ref h1), some (.int x15)] [] u16 P ∧ ∀ x17 u18, P x17 u18 → fg_Run (d + 1) 51 45 [some (.ref 1), some (.ref h1), some (.int 1)] [] u18 Q)))))))) : fg_Run (d + 1) 51 0 [some (.ref 1), some (.ref h1), none] [] σ Q := by
  rcases Sh1 with rfl | rfl
  · exact fg_blk [0, 45] 26 (⟨rfl, ⟨fun z380 => ⟨rfl, (match (H.1 z380) with | ⟨z382, z383, z384f⟩ => ⟨z382, z383, fun x1 u2 z384p => ⟨rfl, (match (z384f x1 u2 z384p) with | ⟨z385, z386, z387f⟩ => ⟨z385, z386, fun x3 u4 z387p => ⟨rfl, ⟨rfl, (match (z387f x3 u4 z387p) with | ⟨z388, z389, z390f⟩ => ⟨z388, z389, fun x5 u6 z390p => ⟨rfl, (match (z390f x5 u6 z390p) with | ⟨z391, z392, z393f⟩ => ⟨z391, z392, fun x7 u8 z393p => (z393f x7 u8 z393p)⟩)⟩⟩)⟩⟩⟩)⟩⟩)⟩, fun z381 => ⟨rfl, ⟨rfl, (match (H.2 z381) with | ⟨z394, z395, z396f⟩ => ⟨z394, z395, fun x9 u10 z396p => ⟨rfl, (match (z396f x9 u10 z396p) with | ⟨z397, z398, z399f⟩ => ⟨z397, z398, fun x11 u12 z399p => ⟨rfl, (match (z399f x11 u12 z399p) with | ⟨z400, z401, z402f⟩ => ⟨z400, z401, fun x13 u14 z402p => ⟨rfl, ⟨rfl, (match (z402f x13 u14 z402p) with | ⟨z403, z404, z405f⟩ => ⟨z403, z404, fun x15 u16 z405p => ⟨rfl, (match (z405f x15 u16 z405p) with | ⟨z406, z407, z408f⟩ => ⟨z406, z407, fun x17 u18 z408p => (z408f x17 u18 z408p)⟩)⟩⟩)⟩⟩⟩)⟩⟩)⟩⟩)⟩⟩⟩⟩)
  · exact fg_blk [0, 45] 26 (⟨rfl, ⟨fun z380 => ⟨rfl, (match (H.1 z380) with | ⟨z382, z383, z384f⟩ => ⟨z382, z383, fun x1 u2 z384p => ⟨rfl, (match (z384f x1 u2 z384p) with | ⟨z385, z386, z387f⟩ => ⟨z385, z386, fun x3 u4 z387p => ⟨rfl, ⟨rfl, (match (z387f x3 u4 z387p) with | ⟨z388, z389, z390f⟩ => ⟨z388, z389, fun x5 u6 z390p => ⟨rfl, (match (z390f x5 u6 z390p) with | ⟨z391, z392, z393f⟩ => ⟨z391, z392, fun x7 u8 z393p => (z393f x7 u8 z393p)⟩)⟩⟩)⟩⟩⟩)⟩⟩)⟩, fun z381 => ⟨rfl, ⟨rfl, (match (H.2 z381) with | ⟨z394, z395, z396f⟩ => ⟨z394, z395, fun x9 u10 z396p => ⟨rfl, (match (z396f x9 u10 z396p) with | ⟨z397, z398, z399f⟩ => ⟨z397, z398, fun x11 u12 z399p => ⟨rfl, (match (z399f x11 u12 z399p) with | ⟨z400, z401, z402f⟩ => ⟨z400, z401, fun x13 u14 z402p => ⟨rfl, ⟨rfl, (match (z402f x13 u14 z402p) with | ⟨z403, z404, z405f⟩ => ⟨z403, z404, fun x15 u16 z405p => ⟨rfl, (match (z405f x15 u16 z405p) with | ⟨z406, z407, z408f⟩ => ⟨z406, z407, fun x17 u18 z408p => (z408f x17 u18 z408p)⟩)⟩⟩)⟩⟩⟩)⟩⟩)⟩⟩)⟩⟩⟩⟩)
set_option maxRecDepth 100000 in
theorem b_TX_parseSignal_45 {d : Nat} {σ : fg_St} {Q : Int32 → fg_St → Prop} {h1 : Nat} {y2 : Int32} (Sh1 : h1 = 3 ∨ h1 = 9) (H : ((4 ≤ y2 → (∃ P, fg_Run d 52 0 [some (.ref 1), some (.int 59)] [] σ P ∧ ∀ x1 u2, P x1 u2 → ((¬ (fg_F u2 1 3) = 0 → Q 0 u2) ∧ ((fg_F u2 1 3) = 0 → (∃ P, fg_Run d 41 0 [some (.ref h1)] [] u2 P ∧ ∀ x3 u4, P x3 u4 → Q 0 u4))))) ∧ (¬ (4 ≤ y2) → (∃ P, fg_Run d 46 0 [some (.ref 1)] [] σ P ∧ ∀ x5 u6, P x5 u6 → ((¬ x5 = 44 → (∃ P, fg_Run d 52 0 [some (.ref 1), some (.int 59)] [] u6 P ∧ ∀ x7 u8, P x7 u8 → ((¬ (fg_F u8 1 3) = 0 → Q 0 u8) ∧ ((fg_F u8 1 3) = 0 → (∃ P, fg_Run d 41 0 [some (.ref h1)] [] u8 P ∧ ∀ x9 u10, P x9 u10 → Q 0 u10))))) ∧ (x5 = 44 → (∃ P, fg_Run d 52 0 [some (.ref 1), some (.int 44)] [] u6 P ∧ ∀ x11 u12, P x11 u12 → (∃ P, fg_Run d 53 0 [some (.ref 1), some (.int 0), some (.int ((fg_F u12 h1 2) - 1)), none, none] [] u12 P ∧ ∀ x13 u14, P x13 u14 → (∃ P, fg_Run d 40 0 [some (.ref h1), some (.int x13)] [] u14 P ∧ ∀ x15 u16, P x15 u16 → fg_Run (d + 1) 51 45 [some (.ref 1), some (.ref h1), some (.int (y2 + 1))] [] u16 Q))))))))) : fg_Run (d + 1) 51 45 [some (.ref 1), some (.ref h1), some (.int y2)] [] σ Q := by
  rcases Sh1 with rfl | rfl
  · exact fg_blk [0, 45] 22 (⟨fun z409 => ⟨rfl, (match (H.1 z409) with | ⟨z411, z412, z413f⟩ => ⟨z411, z412, fun x1 u2 z413p => ⟨rfl, ⟨fun z414 => ((z413f x1 u2 z413p).1 z414), fun z415 => ⟨rfl, (match ((z413f x1 u2 z413p).2 (Classical.not_not.mp z415)) with | ⟨z416, z417, z418f⟩ => ⟨z416, z417, fun x3 u4 z418p => (z418f x3 u4 z418p)⟩)⟩⟩⟩⟩)⟩, fun z410 => ⟨rfl, (match (H.2 z410) with | ⟨z419, z420, z421f⟩ => ⟨z419, z420, fun x5 u6 z421p => ⟨fun z422 => ⟨rfl, (match ((z421f x5 u6 z421p).1 z422) with | ⟨z424, z425, z426f⟩ => ⟨z424, z425, fun x7 u8 z426p => ⟨rfl, ⟨fun z427 => ((z426f x7 u8 z426p).1 z427), fun z428 => ⟨rfl, (match ((z426f x7 u8 z426p).2 (Classical.not_not.mp z428)) with | ⟨z429, z430, z431f⟩ => ⟨z429, z430, fun x9 u10 z431p => (z431f x9 u10 z431p)⟩)⟩⟩⟩⟩)⟩, fun z423 => ⟨rfl, (match ((z421f x5 u6 z421p).2 (Classical.not_not.mp z423)) with | ⟨z432, z433, z434f⟩ => ⟨z432, z433, fun x11 u12 z434p => ⟨rfl, ⟨rfl, (match (z434f x11 u12 z434p) with | ⟨z435, z436, z437f⟩ => ⟨z435, z436, fun x13 u14 z437p => ⟨rfl, (match (z437f x13 u14 z437p) with | ⟨z438, z439, z440f⟩ => ⟨z438, z439, fun x15 u16 z440p => (z440f x15 u16 z440p)⟩)⟩⟩)⟩⟩⟩)⟩⟩⟩)⟩⟩)
  · exact fg_blk [0, 45] 22 (⟨fun z409 => ⟨rfl, (match (H.1 z409) with | ⟨z411, z412, z413f⟩ => ⟨z411, z412, fun x1 u2 z413p => ⟨rfl, ⟨fun z414 => ((z413f x1 u2 z413p).1 z414), fun z415 => ⟨rfl, (match ((z413f x1 u2 z413p).2 (Classical.not_not.mp z415)) with | ⟨z416, z417, z418f⟩ => ⟨z416, z417, fun x3 u4 z418p => (z418f x3 u4 z418p)⟩)⟩⟩⟩⟩)⟩, fun z410 => ⟨rfl, (match (H.2 z410) with | ⟨z419, z420, z421f⟩ => ⟨z419, z420, fun x5 u6 z421p => ⟨fun z422 => ⟨rfl, (match ((z421f x5 u6 z421p).1 z422) with | ⟨z424, z425, z426f⟩ => ⟨z424, z425, fun x7 u8 z426p => ⟨rfl, ⟨fun z427 => ((z426f x7 u8 z426p).1 z427), fun z428 => ⟨rfl, (match ((z426f x7 u8 z426p).2 (Classical.not_not.mp z428)) with | ⟨z429, z430, z431f⟩ => ⟨z429, z430, fun x9 u10 z431p => (z431f x9 u10 z431p)⟩)⟩⟩⟩⟩)⟩, fun z423 => ⟨rfl, (match ((z421f x5 u6 z421p).2 (Classical.not_not.mp z423)) with | ⟨z432, z433, z434f⟩ => ⟨z432, z433, fun x11 u12 z434p => ⟨rfl, ⟨rfl, (match (z434f x11 u12 z434p) with | ⟨z435, z436, z437f⟩ => ⟨z435, z436, fun x13 u14 z437p => ⟨rfl, (match (z437f x13 u14 z437p) with | ⟨z438, z439, z440f⟩ => ⟨z438, z439, fun x15 u16 z440p => (z440f x15 u16 z440p)⟩)⟩⟩)⟩⟩⟩)⟩⟩⟩)⟩⟩)
set_option maxRecDepth 100000 in
theorem b_TX_pass_0 {d : Nat} {σ : fg_St} {Q : Int32 → fg_St → Prop} {a0 : Int32} (H : (((fg_F σ 1 3) = 0 → (∃ P, fg_Run d 46 0 [some (.ref 1)] [] σ P ∧ ∀ x1 u2, P x1 u2 → ((¬ x1 = a0 → (∃ P, fg_Run d 47 0 [some (.ref 1), some (.int 1), some (.int (fg_F u2 1 2))] [] u2 P ∧ ∀ x3 u4, P x3 u4 → Q 0 u4)) ∧ (x1 = a0 → Q 0 (fg_sF u2 1 2 ((fg_F u2 1 2) + 1)))))) ∧ (¬ ((fg_F σ 1 3) = 0) → Q 0 σ))) : fg_Run (d + 1) 52 0 [some (.ref 1), some (.int a0)] [] σ Q := fg_blk [0] 15 (⟨rfl, ⟨fun z441 => ⟨rfl, (match (H.1 z441) with | ⟨z443, z444, z445f⟩ => ⟨z443, z444, fun x1 u2 z445p => ⟨fun z446 => ⟨rfl, ⟨rfl, (match ((z445f x1 u2 z445p).1 z446) with | ⟨z448, z449, z450f⟩ => ⟨z448, z449, fun x3 u4 z450p => (z450f x3 u4 z450p)⟩)⟩⟩, fun z447 => ⟨rfl, ⟨rfl, ((z445f x1 u2 z445p).2 (Classical.not_not.mp z447))⟩⟩⟩⟩)⟩, fun z442 => (H.2 z442)⟩⟩)
set_option maxRecDepth 100000 in
theorem b_TX_parseNumber_0 {d : Nat} {σ : fg_St} {Q : Int32 → fg_St → Prop} {a0 : Int32} {a1 : Int32} (H : (((fg_F σ 1 3) = 0 → (∃ P, fg_Run d 46 0 [some (.ref 1)] [] σ P ∧ ∀ x1 u2, P x1 u2 → fg_Run (d + 1) 53 22 [some (.ref 1), some (.int a0), some (.int a1), some (.int (fg_F u2 1 2)), some (.int 0)] [] u2 Q)) ∧ (¬ ((fg_F σ 1 3) = 0) → Q 0 σ))) : fg_Run (d + 1) 53 0 [some (.ref 1), some (.int a0), some (.int a1), none, none] [] σ Q := fg_blk [0, 22] 12 (⟨rfl, ⟨fun z451 => ⟨rfl, (match (H.1 z451) with | ⟨z453, z454, z455f⟩ => ⟨z453, z454, fun x1 u2 z455p => ⟨rfl, (z455f x1 u2 z455p)⟩⟩)⟩, fun z452 => (H.2 z452)⟩⟩)
set_option maxRecDepth 100000 in
theorem b_TX_parseNumber_22 {d : Nat} {σ : fg_St} {Q : Int32 → fg_St → Prop} {y1 : Int32} {y2 : Int32} {y3 : Int32} {y4 : Int32} (H : (((fg_F σ 1 1) ≤ (fg_F σ 1 2) → ((¬ (fg_F σ 1 2) = y3 → ((3 < ((fg_F σ 1 2) - y3) → (∃ P, fg_Run d 47 0 [some (.ref 1), some (.int 2), some (.int y3)] [] σ P ∧ ∀ x1 u2, P x1 u2 → Q y4 u2)) ∧ (¬ (3 < ((fg_F σ 1 2) - y3)) → ((y4 < y1 → (∃ P, fg_Run d 47 0 [some (.ref 1), some (.int 2), some (.int y3)] [] σ P ∧ ∀ x3 u4, P x3 u4 → Q y4 u4)) ∧ (¬ (y4 < y1) → ((y4 ≤ y2 → Q y4 σ) ∧ (¬ (y4 ≤ y2) → (∃ P, fg_Run d 47 0 [some (.ref 1), some (.int 2), some (.int y3)] [] σ P ∧ ∀ x5 u6, P x5 u6 → Q y4 u6)))))))) ∧ ((fg_F σ 1 2) = y3 → (∃ P, fg_Run d 47 0 [some (.ref 1), some (.int 1), some (.int y3)] [] σ P ∧ ∀ x7 u8, P x7 u8 → Q y4 u8)))) ∧ (¬ ((fg_F σ 1 1) ≤ (fg_F σ 1 2)) → (vp_in (fg_F σ 1 2) 240 ∧ (((fg_R σ 2 ((fg_F σ 1 2).toNatClampNeg)) < 48 → ((¬ (fg_F σ 1 2) = y3 → ((3 < ((fg_F σ 1 2) - y3) → (∃ P, fg_Run d 47 0 [some (.ref 1), some (.int 2), some (.int y3)] [] σ P ∧ ∀ x9 u10, P x9 u10 → Q y4 u10)) ∧ (¬ (3 < ((fg_F σ 1 2) - y3)) → ((y4 < y1 → (∃ P, fg_Run d 47 0 [some (.ref 1), some (.int 2), some (.int y3)] [] σ P ∧ ∀ x11 u12, P x11 u12 → Q y4 u12)) ∧ (¬ (y4 < y1) → ((y4 ≤ y2 → Q y4 σ) ∧ (¬ (y4 ≤ y2) → (∃ P, fg_Run d 47 0 [some (.ref 1), some (.int 2), some (.int y3)] [] σ P ∧ ∀ x13 u14, P x13 u14 → Q y4 u14)))))))) ∧ ((fg_F σ 1 2) = y3 → (∃ P, fg_Run d 47 0 [some (.ref 1), some (.int 1), some (.int y3)] [] σ P ∧ ∀ x15 u16, P x15 u16 → Q y4 u16)))) ∧ (¬ ((fg_R σ 2 ((fg_F σ 1 2).toNatClampNeg)) < 48) → (vp_in (fg_F σ 1 2) 240 ∧ ((57 < (fg_R σ 2 ((fg_F σ 1 2).toNatClampNeg)) → ((¬ (fg_F σ 1 2) = y3 → ((3 < ((fg_F σ 1 2) - y3) → (∃ P, fg_Run d 47 0 [some (.ref 1), some (.int 2), some (.int y3)] [] σ P ∧ ∀ x17 u18, P x17 u18 → Q y4 u18)) ∧ (¬ (3 < ((fg_F σ 1 2) - y3)) → ((y4 < y1 → (∃ P, fg_Run d 47 0 [some (.ref 1), some (.int 2), some (.int y3)] [] σ P ∧ ∀ x19 u20, P x19 u20 → Q y4 u20)) ∧ (¬ (y4 < y1) → ((y4 ≤ y2 → Q y4 σ) ∧ (¬ (y4 ≤ y2) → (∃ P, fg_Run d 47 0 [some (.ref 1), some (.int 2), some (.int y3)] [] σ P ∧ ∀ x21 u22, P x21 u22 → Q y4 u22)))))))) ∧ ((fg_F σ 1 2) = y3 → (∃ P, fg_Run d 47 0 [some (.ref 1), some (.int 1), some (.int y3)] [] σ P ∧ ∀ x23 u24, P x23 u24 → Q y4 u24)))) ∧ (¬ (57 < (fg_R σ 2 ((fg_F σ 1 2).toNatClampNeg))) → ((3 ≤ ((fg_F σ 1 2) - y3) → fg_Run (d + 1) 53 22 [some (.ref 1), some (.int y1), some (.int y2), some (.int y3), some (.int y4)] [] (fg_sF σ 1 2 ((fg_F σ 1 2) + 1)) Q) ∧ (¬ (3 ≤ ((fg_F σ 1 2) - y3)) → (vp_in (fg_F σ 1 2) 240 ∧ fg_Run (d + 1) 53 22 [some (.ref 1), some (.int y1), some (.int y2), some (.int y3), some (.int (((y4 * 10) + (fg_R σ 2 ((fg_F σ 1 2).toNatClampNeg))) - 48))] [] (fg_sF σ 1 2 ((fg_F σ 1 2) + 1)) Q)))))))))))) : fg_Run (d + 1) 53 22 [some (.ref 1), some (.int y1), some (.int y2), some (.int y3), some (.int y4)] [] σ Q := fg_blk [0, 22] 46 (⟨rfl, ⟨rfl, ⟨fun z456 => ⟨rfl, ⟨fun z458 => ⟨rfl, ⟨fun z460 => ⟨rfl, (match (((H.1 z456).1 z458).1 z460) with | ⟨z462, z463, z464f⟩ => ⟨z462, z463, fun x1 u2 z464p => (z464f x1 u2 z464p)⟩)⟩, fun z461 => ⟨fun z465 => ⟨rfl, (match ((((H.1 z456).1 z458).2 z461).1 z465) with | ⟨z467, z468, z469f⟩ => ⟨z467, z468, fun x3 u4 z469p => (z469f x3 u4 z469p)⟩)⟩, fun z466 => ⟨fun z470 => (((((H.1 z456).1 z458).2 z461).2 z466).1 z470), fun z471 => ⟨rfl, (match (((((H.1 z456).1 z458).2 z461).2 z466).2 z471) with | ⟨z472, z473, z474f⟩ => ⟨z472, z473, fun x5 u6 z474p => (z474f x5 u6 z474p)⟩)⟩⟩⟩⟩⟩, fun z459 => ⟨rfl, (match ((H.1 z456).2 (Classical.not_not.mp z459)) with | ⟨z475, z476, z477f⟩ => ⟨z475, z476, fun x7 u8 z477p => (z477f x7 u8 z477p)⟩)⟩⟩⟩, fun z457 => ⟨rfl, ⟨rfl, ⟨rfl, ⟨(H.2 z457).1, ⟨fun z478 => ⟨rfl, ⟨fun z480 => ⟨rfl, ⟨fun z482 => ⟨rfl, (match ((((H.2 z457).2.1 z478).1 z480).1 z482) with | ⟨z484, z485, z486f⟩ => ⟨z484, z485, fun x9 u10 z486p => (z486f x9 u10 z486p)⟩)⟩, fun z483 => ⟨fun z487 => ⟨rfl, (match (((((H.2 z457).2.1 z478).1 z480).2 z483).1 z487) with | ⟨z489, z490, z491f⟩ => ⟨z489, z490, fun x11 u12 z491p => (z491f x11 u12 z491p)⟩)⟩, fun z488 => ⟨fun z492 => ((((((H.2 z457).2.1 z478).1 z480).2 z483).2 z488).1 z492), fun z493 => ⟨rfl, (match ((((((H.2 z457).2.1 z478).1 z480).2 z483).2 z488).2 z493) with | ⟨z494, z495, z496f⟩ => ⟨z494, z495, fun x13 u14 z496p => (z496f x13 u14 z496p)⟩)⟩⟩⟩⟩⟩, fun z481 => ⟨rfl, (match (((H.2 z457).2.1 z478).2 (Classical.not_not.mp z481)) with | ⟨z497, z498, z499f⟩ => ⟨z497, z498, fun x15 u16 z499p => (z499f x15 u16 z499p)⟩)⟩⟩⟩, fun z479 => ⟨rfl, ⟨rfl, ⟨rfl, ⟨((H.2 z457).2.2 z479).1, ⟨fun z500 => ⟨rfl, ⟨fun z502 => ⟨rfl, ⟨fun z504 => ⟨rfl, (match (((((H.2 z457).2.2 z479).2.1 z500).1 z502).1 z504) with | ⟨z506, z507, z508f⟩ => ⟨z506, z507, fun x17 u18 z508p => (z508f x17 u18 z508p)⟩)⟩, fun z505 => ⟨fun z509 => ⟨rfl, (match ((((((H.2 z457).2.2 z479).2.1 z500).1 z502).2 z505).1 z509) with | ⟨z511, z512, z513f⟩ => ⟨z511, z512, fun x19 u20 z513p => (z513f x19 u20 z513p)⟩)⟩, fun z510 => ⟨fun z514 => (((((((H.2 z457).2.2 z479).2.1 z500).1 z502).2 z505).2 z510).1 z514), fun z515 => ⟨rfl, (match (((((((H.2 z457).2.2 z479).2.1 z500).1 z502).2 z505).2 z510).2 z515) with | ⟨z516, z517, z518f⟩ => ⟨z516, z517, fun x21 u22 z518p => (z518f x21 u22 z518p)⟩)⟩⟩⟩⟩⟩, fun z503 => ⟨rfl, (match ((((H.2 z457).2.2 z479).2.1 z500).2 (Classical.not_not.mp z503)) with | ⟨z519, z520, z521f⟩ => ⟨z519, z520, fun x23 u24 z521p => (z521f x23 u24 z521p)⟩)⟩⟩⟩, fun z501 => ⟨rfl, ⟨fun z522 => ⟨rfl, ⟨rfl, ((((H.2 z457).2.2 z479).2.2 z501).1 z522)⟩⟩, fun z523 => ⟨rfl, ⟨rfl, ⟨rfl, ⟨((((H.2 z457).2.2 z479).2.2 z501).2 z523).1, ⟨rfl, ⟨rfl, ((((H.2 z457).2.2 z479).2.2 z501).2 z523).2⟩⟩⟩⟩⟩⟩⟩⟩⟩⟩⟩⟩⟩⟩⟩⟩⟩⟩⟩⟩⟩)
set_option maxRecDepth 100000 in
theorem b_WA_raiseAll_0 {d : Nat} {σ : fg_St} {Q : Int32 → fg_St → Prop} {h1 : Nat} {a2 : Int32} (Sh1 : h1 = 3 ∨ h1 = 9) (H : fg_Run (d + 1) 54 8 [some (.ref 33), some (.ref h1), some (.ref 31), some (.int a2), some (.int 0), none] [] (fg_sF σ 33 3 0) Q) : fg_Run (d + 1) 54 0 [some (.ref 33), some (.ref h1), some (.ref 31), some (.int a2), none, none] [] σ Q := by
  rcases Sh1 with rfl | rfl
  · exact fg_blk [0, 8, 66] 6 (⟨rfl, H⟩)
  · exact fg_blk [0, 8, 66] 6 (⟨rfl, H⟩)
set_option maxRecDepth 100000 in
theorem b_WA_raiseAll_8 {d : Nat} {σ : fg_St} {Q : Int32 → fg_St → Prop} {h1 : Nat} {y3 : Int32} {y4 : Int32} (Sh1 : h1 = 3 ∨ h1 = 9) (H : (((fg_F σ h1 3) ≤ y4 → Q 0 σ) ∧ (¬ ((fg_F σ h1 3) ≤ y4) → ((10 ≤ y4 → Q 0 σ) ∧ (¬ (10 ≤ y4) → (∃ P, fg_Run d 36 0 [some (.ref h1)] [] σ P ∧ ∀ x1 u2, P x1 u2 → (∃ P, fg_Run d 37 0 [some (.ref h1)] [] u2 P ∧ ∀ x3 u4, P x3 u4 → (∃ P, fg_Run d 13 0 [some (.ref 31), some (.int (x1 &&& (y3 ^^^ (-1)))), some (.int x3)] [] u4 P ∧ ∀ x5 u6, P x5 u6 → (∃ P, fg_Run d 14 0 [some (.ref 31), some (.ref h1), some (.int y4), none, none, none, none] [] u6 P ∧ ∀ x7 u8, P x7 u8 → ((x7 = 0 → fg_Run (d + 1) 54 66 [some (.ref 33), some (.ref h1), some (.ref 31), some (.int y3), some (.int y4), some (.int 0)] [] u8 Q) ∧ (¬ (x7 = 0) → fg_Run (d + 1) 54 66 [some (.ref 33), some (.ref h1), some (.ref 31), some (.int y3), some (.int y4), some (.int 0)] [] (fg_sF u8 33 3 ((fg_F u8 33 3) ||| (1 <<< (y4 &&& 31)))) Q))))))))))) : fg_Run (d + 1) 54 8 [some (.ref 33), some (.ref h1), some (.ref 31), some (.int y3), some (.int y4), none] [] σ Q := by
  rcases Sh1 with rfl | rfl
  · exact fg_blk [0, 8, 66] 33 (⟨rfl, ⟨fun z524 => (H.1 z524), fun z525 => ⟨fun z526 => ((H.2 z525).1 z526), fun z527 => ⟨rfl, (match ((H.2 z525).2 z527) with | ⟨z528, z529, z530f⟩ => ⟨z528, z529, fun x1 u2 z530p => ⟨rfl, (match (z530f x1 u2 z530p) with | ⟨z531, z532, z533f⟩ => ⟨z531, z532, fun x3 u4 z533p => ⟨rfl, (match (z533f x3 u4 z533p) with | ⟨z534, z535, z536f⟩ => ⟨z534, z535, fun x5 u6 z536p => ⟨rfl, (match (z536f x5 u6 z536p) with | ⟨z537, z538, z539f⟩ => ⟨z537, z538, fun x7 u8 z539p => ⟨fun z540 => ((z539f x7 u8 z539p).1 z540), fun z541 => ⟨rfl, ⟨rfl, ((z539f x7 u8 z539p).2 z541)⟩⟩⟩⟩)⟩⟩)⟩⟩)⟩⟩)⟩⟩⟩⟩)
  · exact fg_blk [0, 8, 66] 33 (⟨rfl, ⟨fun z524 => (H.1 z524), fun z525 => ⟨fun z526 => ((H.2 z525).1 z526), fun z527 => ⟨rfl, (match ((H.2 z525).2 z527) with | ⟨z528, z529, z530f⟩ => ⟨z528, z529, fun x1 u2 z530p => ⟨rfl, (match (z530f x1 u2 z530p) with | ⟨z531, z532, z533f⟩ => ⟨z531, z532, fun x3 u4 z533p => ⟨rfl, (match (z533f x3 u4 z533p) with | ⟨z534, z535, z536f⟩ => ⟨z534, z535, fun x5 u6 z536p => ⟨rfl, (match (z536f x5 u6 z536p) with | ⟨z537, z538, z539f⟩ => ⟨z537, z538, fun x7 u8 z539p => ⟨fun z540 => ((z539f x7 u8 z539p).1 z540), fun z541 => ⟨rfl, ⟨rfl, ((z539f x7 u8 z539p).2 z541)⟩⟩⟩⟩)⟩⟩)⟩⟩)⟩⟩)⟩⟩⟩⟩)
set_option maxRecDepth 100000 in
theorem b_WA_raiseAll_66 {d : Nat} {σ : fg_St} {Q : Int32 → fg_St → Prop} {h1 : Nat} {y3 : Int32} {y4 : Int32} {y5 : Int32} (Sh1 : h1 = 3 ∨ h1 = 9) (H : ((4 ≤ y5 → fg_Run (d + 1) 54 8 [some (.ref 33), some (.ref h1), some (.ref 31), some (.int y3), some (.int (y4 + 1)), none] [] σ Q) ∧ (¬ (4 ≤ y5) → (vp_in y5 4 ∧ (vp_in ((y4 * 4) + y5) 40 ∧ fg_Run (d + 1) 54 66 [some (.ref 33), some (.ref h1), some (.ref 31), some (.int y3), some (.int y4), some (.int (y5 + 1))] [] (fg_sR σ 34 (((y4 * 4) + y5).toNatClampNeg) (fg_R σ 32 y5.toNatClampNeg)) Q))))) : fg_Run (d + 1) 54 66 [some (.ref 33), some (.ref h1), some (.ref 31), some (.int y3), some (.int y4), some (.int y5)] [] σ Q := by
  rcases Sh1 with rfl | rfl
  · exact fg_blk [0, 8, 66] 18 (⟨fun z542 => (fg_Run.drop (L := [some _, some _, some _, some _, some _, none]) ⟨rfl, ⟨rfl, ⟨rfl, ⟨rfl, ⟨rfl, ⟨trivial, trivial⟩⟩⟩⟩⟩⟩ (H.1 z542)), fun z543 => ⟨rfl, ⟨rfl, ⟨rfl, ⟨(H.2 z543).1, ⟨rfl, ⟨(H.2 z543).2.1, (H.2 z543).2.2⟩⟩⟩⟩⟩⟩⟩)
  · exact fg_blk [0, 8, 66] 18 (⟨fun z542 => (fg_Run.drop (L := [some _, some _, some _, some _, some _, none]) ⟨rfl, ⟨rfl, ⟨rfl, ⟨rfl, ⟨rfl, ⟨trivial, trivial⟩⟩⟩⟩⟩⟩ (H.1 z542)), fun z543 => ⟨rfl, ⟨rfl, ⟨rfl, ⟨(H.2 z543).1, ⟨rfl, ⟨(H.2 z543).2.1, (H.2 z543).2.2⟩⟩⟩⟩⟩⟩⟩)
set_option maxRecDepth 100000 in
theorem b_WA_see_0 {d : Nat} {σ : fg_St} {Q : Int32 → fg_St → Prop} {h1 : Nat} {a2 : Int32} (Sh1 : h1 = 3 ∨ h1 = 9) (H : fg_Run (d + 1) 55 3 [some (.ref 33), some (.ref h1), some (.ref 15), some (.int a2), some (.int 0)] [] σ Q) : fg_Run (d + 1) 55 0 [some (.ref 33), some (.ref h1), some (.ref 15), some (.int a2), none] [] σ Q := by
  rcases Sh1 with rfl | rfl
  · exact fg_blk [0, 3] 3 (H)
  · exact fg_blk [0, 3] 3 (H)
set_option maxRecDepth 100000 in
theorem b_WA_see_3 {d : Nat} {σ : fg_St} {Q : Int32 → fg_St → Prop} {h1 : Nat} {y3 : Int32} {y4 : Int32} (Sh1 : h1 = 3 ∨ h1 = 9) (H : ((10 ≤ y4 → (∃ P, fg_Run d 56 0 [some (.ref 33), some (.ref h1), some (.int (fg_F σ 33 3)), none, none, none] [] σ P ∧ ∀ x1 u2, P x1 u2 → Q 0 u2)) ∧ (¬ (10 ≤ y4) → (∃ P, fg_Run d 5 0 [some (.ref 15), some (.int y4), some (.int (y3 / 2)), some (.int (y3 - y3 / 2 * 2))] [] σ P ∧ ∀ x3 u4, P x3 u4 → (vp_in y4 10 ∧ fg_Run (d + 1) 55 3 [some (.ref 33), some (.ref h1), some (.ref 15), some (.int y3), some (.int (y4 + 1))] [] (fg_sR u4 35 y4.toNatClampNeg x3) Q))))) : fg_Run (d + 1) 55 3 [some (.ref 33), some (.ref h1), some (.ref 15), some (.int y3), some (.int y4)] [] σ Q := by
  rcases Sh1 with rfl | rfl
  · exact fg_blk [0, 3] 19 (⟨fun z544 => ⟨rfl, ⟨rfl, (match (H.1 z544) with | ⟨z546, z547, z548f⟩ => ⟨z546, z547, fun x1 u2 z548p => (z548f x1 u2 z548p)⟩)⟩⟩, fun z545 => ⟨rfl, ⟨(by decide), ⟨(by decide), ⟨rfl, (match (H.2 z545) with | ⟨z549, z550, z551f⟩ => ⟨z549, z550, fun x3 u4 z551p => ⟨rfl, ⟨(z551f x3 u4 z551p).1, (z551f x3 u4 z551p).2⟩⟩⟩)⟩⟩⟩⟩⟩)
  · exact fg_blk [0, 3] 19 (⟨fun z544 => ⟨rfl, ⟨rfl, (match (H.1 z544) with | ⟨z546, z547, z548f⟩ => ⟨z546, z547, fun x1 u2 z548p => (z548f x1 u2 z548p)⟩)⟩⟩, fun z545 => ⟨rfl, ⟨(by decide), ⟨(by decide), ⟨rfl, (match (H.2 z545) with | ⟨z549, z550, z551f⟩ => ⟨z549, z550, fun x3 u4 z551p => ⟨rfl, ⟨(z551f x3 u4 z551p).1, (z551f x3 u4 z551p).2⟩⟩⟩)⟩⟩⟩⟩⟩)
set_option maxRecDepth 100000 in
theorem b_WA_sign_0 {d : Nat} {σ : fg_St} {Q : Int32 → fg_St → Prop} {h1 : Nat} {a1 : Int32} (Sh1 : h1 = 3 ∨ h1 = 9) (H : fg_Run (d + 1) 56 2 [some (.ref 33), some (.ref h1), some (.int a1), some (.int 0), none, none] [] σ Q) : fg_Run (d + 1) 56 0 [some (.ref 33), some (.ref h1), some (.int a1), none, none, none] [] σ Q := by
  rcases Sh1 with rfl | rfl
  · exact fg_blk [0, 2, 30] 3 (H)
  · exact fg_blk [0, 2, 30] 3 (H)
set_option maxRecDepth 100000 in
theorem b_WA_sign_2 {d : Nat} {σ : fg_St} {Q : Int32 → fg_St → Prop} {h1 : Nat} {y2 : Int32} {y3 : Int32} (Sh1 : h1 = 3 ∨ h1 = 9) (H : (((fg_F σ h1 3) ≤ y3 → Q 0 σ) ∧ (¬ ((fg_F σ h1 3) ≤ y3) → ((10 ≤ y3 → Q 0 σ) ∧ (¬ (10 ≤ y3) → (∃ P, fg_Run d 87 0 [some (.int y2), some (.int y3)] [] σ P ∧ ∀ x1 u2, P x1 u2 → ((x1 = 0 → fg_Run (d + 1) 56 2 [some (.ref 33), some (.ref h1), some (.int y2), some (.int (y3 + 1)), none, none] [] u2 Q) ∧ (¬ (x1 = 0) → fg_Run (d + 1) 56 30 [some (.ref 33), some (.ref h1), some (.int y2), some (.int y3), some (.int 0), some (.int 0)] [] u2 Q)))))))) : fg_Run (d + 1) 56 2 [some (.ref 33), some (.ref h1), some (.int y2), some (.int y3), none, none] [] σ Q := by
  rcases Sh1 with rfl | rfl
  · exact fg_blk [0, 2, 30] 16 (⟨rfl, ⟨fun z552 => (H.1 z552), fun z553 => ⟨fun z554 => ((H.2 z553).1 z554), fun z555 => (match ((H.2 z553).2 z555) with | ⟨z556, z557, z558f⟩ => ⟨z556, z557, fun x1 u2 z558p => ⟨fun z559 => ((z558f x1 u2 z558p).1 z559), fun z560 => ((z558f x1 u2 z558p).2 z560)⟩⟩)⟩⟩⟩)
  · exact fg_blk [0, 2, 30] 16 (⟨rfl, ⟨fun z552 => (H.1 z552), fun z553 => ⟨fun z554 => ((H.2 z553).1 z554), fun z555 => (match ((H.2 z553).2 z555) with | ⟨z556, z557, z558f⟩ => ⟨z556, z557, fun x1 u2 z558p => ⟨fun z559 => ((z558f x1 u2 z558p).1 z559), fun z560 => ((z558f x1 u2 z558p).2 z560)⟩⟩)⟩⟩⟩)
set_option maxRecDepth 100000 in
theorem b_WA_sign_30 {d : Nat} {σ : fg_St} {Q : Int32 → fg_St → Prop} {h1 : Nat} {y2 : Int32} {y3 : Int32} {y4 : Int32} {y5 : Int32} (Sh1 : h1 = 3 ∨ h1 = 9) (H : ((4 ≤ y5 → (vp_in y3 10 ∧ fg_Run (d + 1) 56 2 [some (.ref 33), some (.ref h1), some (.int y2), some (.int (y3 + 1)), none, none] [] (fg_sR σ 36 y3.toNatClampNeg y4) Q)) ∧ (¬ (4 ≤ y5) → (vp_in ((y3 * 4) + y5) 40 ∧ (∃ P, fg_Run d 57 0 [some (.ref 33), some (.int (fg_R σ 34 (((y3 * 4) + y5).toNatClampNeg)))] [] σ P ∧ ∀ x1 u2, P x1 u2 → fg_Run (d + 1) 56 30 [some (.ref 33), some (.ref h1), some (.int y2), some (.int y3), some (.int ((y4 <<< (8 &&& 31)) ||| x1)), some (.int (y5 + 1))] [] u2 Q))))) : fg_Run (d + 1) 56 30 [some (.ref 33), some (.ref h1), some (.int y2), some (.int y3), some (.int y4), some (.int y5)] [] σ Q := by
  rcases Sh1 with rfl | rfl
  · exact fg_blk [0, 2, 30] 21 (⟨fun z561 => ⟨rfl, ⟨rfl, ⟨(H.1 z561).1, (fg_Run.drop (L := [some _, some _, some _, some _, none, none]) ⟨rfl, ⟨rfl, ⟨rfl, ⟨rfl, ⟨trivial, ⟨trivial, trivial⟩⟩⟩⟩⟩⟩ (H.1 z561).2)⟩⟩⟩, fun z562 => ⟨rfl, ⟨rfl, ⟨(H.2 z562).1, ⟨rfl, (match (H.2 z562).2 with | ⟨z563, z564, z565f⟩ => ⟨z563, z564, fun x1 u2 z565p => (z565f x1 u2 z565p)⟩)⟩⟩⟩⟩⟩)
  · exact fg_blk [0, 2, 30] 21 (⟨fun z561 => ⟨rfl, ⟨rfl, ⟨(H.1 z561).1, (fg_Run.drop (L := [some _, some _, some _, some _, none, none]) ⟨rfl, ⟨rfl, ⟨rfl, ⟨rfl, ⟨trivial, ⟨trivial, trivial⟩⟩⟩⟩⟩⟩ (H.1 z561).2)⟩⟩⟩, fun z562 => ⟨rfl, ⟨rfl, ⟨(H.2 z562).1, ⟨rfl, (match (H.2 z562).2 with | ⟨z563, z564, z565f⟩ => ⟨z563, z564, fun x1 u2 z565p => (z565f x1 u2 z565p)⟩)⟩⟩⟩⟩⟩)
set_option maxRecDepth 100000 in
theorem b_WA_lookOfPiece_0 {d : Nat} {σ : fg_St} {Q : Int32 → fg_St → Prop} {a0 : Int32} (H : ((a0 ≤ 20 → ((a0 < 0 → Q 255 σ) ∧ (¬ (a0 < 0) → ((10 ≤ a0 → Q 255 σ) ∧ (¬ (10 ≤ a0) → (vp_in a0 10 ∧ Q (fg_R σ 35 a0.toNatClampNeg) σ)))))) ∧ (¬ (a0 ≤ 20) → Q ((200 + a0) - 20) σ))) : fg_Run d 57 0 [some (.ref 33), some (.int a0)] [] σ Q := fg_blk [0] 14 (⟨fun z566 => ⟨fun z568 => ((H.1 z566).1 z568), fun z569 => ⟨fun z570 => (((H.1 z566).2 z569).1 z570), fun z571 => ⟨rfl, ⟨rfl, ⟨(((H.1 z566).2 z569).2 z571).1, (((H.1 z566).2 z569).2 z571).2⟩⟩⟩⟩⟩, fun z567 => (H.2 z567)⟩)
set_option maxRecDepth 100000 in
theorem b_WA_likeOf_0 {d : Nat} {σ : fg_St} {Q : Int32 → fg_St → Prop} {h1 : Nat} {a1 : Int32} (Sh1 : h1 = 3 ∨ h1 = 9) (H : (∃ P, fg_Run d 33 0 [some (.ref h1), some (.int a1)] [] σ P ∧ ∀ x1 u2, P x1 u2 → ((x1 = 0 → Q 0 u2) ∧ (¬ (x1 = 0) → (∃ P, fg_Run d 87 0 [some (.int (fg_F u2 33 3)), some (.int a1)] [] u2 P ∧ ∀ x3 u4, P x3 u4 → ((¬ x3 = 0 → fg_Run (d + 1) 58 26 [some (.ref 33), some (.ref h1), some (.int a1), some (.int 0), some (.int 0)] [] u4 Q) ∧ (x3 = 0 → Q 0 u4))))))) : fg_Run (d + 1) 58 0 [some (.ref 33), some (.ref h1), some (.int a1), none, none] [] σ Q := by
  rcases Sh1 with rfl | rfl
  · exact fg_blk [0, 26] 14 (⟨rfl, (match H with | ⟨z572, z573, z574f⟩ => ⟨z572, z573, fun x1 u2 z574p => ⟨fun z575 => ((z574f x1 u2 z574p).1 z575), fun z576 => ⟨rfl, (match ((z574f x1 u2 z574p).2 z576) with | ⟨z577, z578, z579f⟩ => ⟨z577, z578, fun x3 u4 z579p => ⟨fun z580 => ((z579f x3 u4 z579p).1 z580), fun z581 => ((z579f x3 u4 z579p).2 (Classical.not_not.mp z581))⟩⟩)⟩⟩⟩)⟩)
  · exact fg_blk [0, 26] 14 (⟨rfl, (match H with | ⟨z572, z573, z574f⟩ => ⟨z572, z573, fun x1 u2 z574p => ⟨fun z575 => ((z574f x1 u2 z574p).1 z575), fun z576 => ⟨rfl, (match ((z574f x1 u2 z574p).2 z576) with | ⟨z577, z578, z579f⟩ => ⟨z577, z578, fun x3 u4 z579p => ⟨fun z580 => ((z579f x3 u4 z579p).1 z580), fun z581 => ((z579f x3 u4 z579p).2 (Classical.not_not.mp z581))⟩⟩)⟩⟩⟩)⟩)
set_option maxRecDepth 100000 in
theorem b_WA_likeOf_26 {d : Nat} {σ : fg_St} {Q : Int32 → fg_St → Prop} {h1 : Nat} {y2 : Int32} {y3 : Int32} {y4 : Int32} (Sh1 : h1 = 3 ∨ h1 = 9) (H : (((fg_F σ h1 3) ≤ y4 → Q y3 σ) ∧ (¬ ((fg_F σ h1 3) ≤ y4) → ((10 ≤ y4 → Q y3 σ) ∧ (¬ (10 ≤ y4) → (∃ P, fg_Run d 87 0 [some (.int (fg_F σ 33 3)), some (.int y4)] [] σ P ∧ ∀ x1 u2, P x1 u2 → ((x1 = 0 → fg_Run (d + 1) 58 26 [some (.ref 33), some (.ref h1), some (.int y2), some (.int y3), some (.int (y4 + 1))] [] u2 Q) ∧ (¬ (x1 = 0) → (vp_in y4 10 ∧ (vp_in y2 10 ∧ ((¬ (fg_R u2 36 y4.toNatClampNeg) = (fg_R u2 36 y2.toNatClampNeg) → fg_Run (d + 1) 58 26 [some (.ref 33), some (.ref h1), some (.int y2), some (.int y3), some (.int (y4 + 1))] [] u2 Q) ∧ ((fg_R u2 36 y4.toNatClampNeg) = (fg_R u2 36 y2.toNatClampNeg) → fg_Run (d + 1) 58 26 [some (.ref 33), some (.ref h1), some (.int y2), some (.int (y3 ||| (1 <<< (y4 &&& 31)))), some (.int (y4 + 1))] [] u2 Q)))))))))))) : fg_Run (d + 1) 58 26 [some (.ref 33), some (.ref h1), some (.int y2), some (.int y3), some (.int y4)] [] σ Q := by
  rcases Sh1 with rfl | rfl
  · exact fg_blk [0, 26] 30 (⟨rfl, ⟨fun z582 => (H.1 z582), fun z583 => ⟨fun z584 => ((H.2 z583).1 z584), fun z585 => ⟨rfl, (match ((H.2 z583).2 z585) with | ⟨z586, z587, z588f⟩ => ⟨z586, z587, fun x1 u2 z588p => ⟨fun z589 => ((z588f x1 u2 z588p).1 z589), fun z590 => ⟨rfl, ⟨rfl, ⟨((z588f x1 u2 z588p).2 z590).1, ⟨rfl, ⟨rfl, ⟨((z588f x1 u2 z588p).2 z590).2.1, ⟨fun z591 => (((z588f x1 u2 z588p).2 z590).2.2.1 z591), fun z592 => (((z588f x1 u2 z588p).2 z590).2.2.2 (Classical.not_not.mp z592))⟩⟩⟩⟩⟩⟩⟩⟩⟩)⟩⟩⟩⟩)
  · exact fg_blk [0, 26] 30 (⟨rfl, ⟨fun z582 => (H.1 z582), fun z583 => ⟨fun z584 => ((H.2 z583).1 z584), fun z585 => ⟨rfl, (match ((H.2 z583).2 z585) with | ⟨z586, z587, z588f⟩ => ⟨z586, z587, fun x1 u2 z588p => ⟨fun z589 => ((z588f x1 u2 z588p).1 z589), fun z590 => ⟨rfl, ⟨rfl, ⟨((z588f x1 u2 z588p).2 z590).1, ⟨rfl, ⟨rfl, ⟨((z588f x1 u2 z588p).2 z590).2.1, ⟨fun z591 => (((z588f x1 u2 z588p).2 z590).2.2.1 z591), fun z592 => (((z588f x1 u2 z588p).2 z590).2.2.2 (Classical.not_not.mp z592))⟩⟩⟩⟩⟩⟩⟩⟩⟩)⟩⟩⟩⟩)
set_option maxRecDepth 100000 in
theorem b_WA_clearOnes_0 {d : Nat} {σ : fg_St} {Q : Int32 → fg_St → Prop} {h1 : Nat} (Sh1 : h1 = 3 ∨ h1 = 9) (H : fg_Run (d + 1) 59 4 [some (.ref 33), some (.ref h1), some (.int 0), some (.int 0), none] [] σ Q) : fg_Run (d + 1) 59 0 [some (.ref 33), some (.ref h1), none, none, none] [] σ Q := by
  rcases Sh1 with rfl | rfl
  · exact fg_blk [0, 4, 21] 5 (H)
  · exact fg_blk [0, 4, 21] 5 (H)
set_option maxRecDepth 100000 in
theorem b_WA_clearOnes_4 {d : Nat} {σ : fg_St} {Q : Int32 → fg_St → Prop} {h1 : Nat} {y2 : Int32} {y3 : Int32} (Sh1 : h1 = 3 ∨ h1 = 9) (H : (((fg_F σ h1 3) ≤ y3 → Q ((fg_F σ 33 3) &&& (y2 ^^^ (-1))) σ) ∧ (¬ ((fg_F σ h1 3) ≤ y3) → ((10 ≤ y3 → Q ((fg_F σ 33 3) &&& (y2 ^^^ (-1))) σ) ∧ (¬ (10 ≤ y3) → fg_Run (d + 1) 59 21 [some (.ref 33), some (.ref h1), some (.int y2), some (.int y3), some (.int 0)] [] σ Q))))) : fg_Run (d + 1) 59 4 [some (.ref 33), some (.ref h1), some (.int y2), some (.int y3), none] [] σ Q := by
  rcases Sh1 with rfl | rfl
  · exact fg_blk [0, 4, 21] 14 (⟨rfl, ⟨fun z593 => ⟨rfl, (H.1 z593)⟩, fun z594 => ⟨fun z595 => ⟨rfl, ((H.2 z594).1 z595)⟩, fun z596 => ((H.2 z594).2 z596)⟩⟩⟩)
  · exact fg_blk [0, 4, 21] 14 (⟨rfl, ⟨fun z593 => ⟨rfl, (H.1 z593)⟩, fun z594 => ⟨fun z595 => ⟨rfl, ((H.2 z594).1 z595)⟩, fun z596 => ((H.2 z594).2 z596)⟩⟩⟩)
set_option maxRecDepth 100000 in
theorem b_WA_clearOnes_21 {d : Nat} {σ : fg_St} {Q : Int32 → fg_St → Prop} {h1 : Nat} {y2 : Int32} {y3 : Int32} {y4 : Int32} (Sh1 : h1 = 3 ∨ h1 = 9) (H : ((y3 ≤ y4 → fg_Run (d + 1) 59 4 [some (.ref 33), some (.ref h1), some (.int y2), some (.int (y3 + 1)), none] [] σ Q) ∧ (¬ (y3 ≤ y4) → (vp_in y4 10 ∧ (vp_in y3 10 ∧ ((¬ (fg_R σ 36 y4.toNatClampNeg) = (fg_R σ 36 y3.toNatClampNeg) → fg_Run (d + 1) 59 21 [some (.ref 33), some (.ref h1), some (.int y2), some (.int y3), some (.int (y4 + 1))] [] σ Q) ∧ ((fg_R σ 36 y4.toNatClampNeg) = (fg_R σ 36 y3.toNatClampNeg) → (∃ P, fg_Run d 87 0 [some (.int (fg_F σ 33 3)), some (.int y3)] [] σ P ∧ ∀ x1 u2, P x1 u2 → ((x1 = 0 → fg_Run (d + 1) 59 21 [some (.ref 33), some (.ref h1), some (.int y2), some (.int y3), some (.int (y4 + 1))] [] u2 Q) ∧ (¬ (x1 = 0) → (∃ P, fg_Run d 87 0 [some (.int (fg_F u2 33 3)), some (.int y4)] [] u2 P ∧ ∀ x3 u4, P x3 u4 → ((x3 = 0 → fg_Run (d + 1) 59 21 [some (.ref 33), some (.ref h1), some (.int y2), some (.int y3), some (.int (y4 + 1))] [] u4 Q) ∧ (¬ (x3 = 0) → fg_Run (d + 1) 59 21 [some (.ref 33), some (.ref h1), some (.int (y2 ||| ((1 <<< (y3 &&& 31)) ||| (1 <<< (y4 &&& 31))))), some (.int y3), some (.int (y4 + 1))] [] u4 Q))))))))))))) : fg_Run (d + 1) 59 21 [some (.ref 33), some (.ref h1), some (.int y2), some (.int y3), some (.int y4)] [] σ Q := by
  rcases Sh1 with rfl | rfl
  · exact fg_blk [0, 4, 21] 35 (⟨fun z597 => (fg_Run.drop (L := [some _, some _, some _, some _, none]) ⟨rfl, ⟨rfl, ⟨rfl, ⟨rfl, ⟨trivial, trivial⟩⟩⟩⟩⟩ (H.1 z597)), fun z598 => ⟨rfl, ⟨rfl, ⟨(H.2 z598).1, ⟨rfl, ⟨rfl, ⟨(H.2 z598).2.1, ⟨fun z599 => ((H.2 z598).2.2.1 z599), fun z600 => ⟨rfl, (match ((H.2 z598).2.2.2 (Classical.not_not.mp z600)) with | ⟨z601, z602, z603f⟩ => ⟨z601, z602, fun x1 u2 z603p => ⟨fun z604 => ((z603f x1 u2 z603p).1 z604), fun z605 => ⟨rfl, (match ((z603f x1 u2 z603p).2 z605) with | ⟨z606, z607, z608f⟩ => ⟨z606, z607, fun x3 u4 z608p => ⟨fun z609 => ((z608f x3 u4 z608p).1 z609), fun z610 => ((z608f x3 u4 z608p).2 z610)⟩⟩)⟩⟩⟩)⟩⟩⟩⟩⟩⟩⟩⟩⟩)
  · exact fg_blk [0, 4, 21] 35 (⟨fun z597 => (fg_Run.drop (L := [some _, some _, some _, some _, none]) ⟨rfl, ⟨rfl, ⟨rfl, ⟨rfl, ⟨trivial, trivial⟩⟩⟩⟩⟩ (H.1 z597)), fun z598 => ⟨rfl, ⟨rfl, ⟨(H.2 z598).1, ⟨rfl, ⟨rfl, ⟨(H.2 z598).2.1, ⟨fun z599 => ((H.2 z598).2.2.1 z599), fun z600 => ⟨rfl, (match ((H.2 z598).2.2.2 (Classical.not_not.mp z600)) with | ⟨z601, z602, z603f⟩ => ⟨z601, z602, fun x1 u2 z603p => ⟨fun z604 => ((z603f x1 u2 z603p).1 z604), fun z605 => ⟨rfl, (match ((z603f x1 u2 z603p).2 z605) with | ⟨z606, z607, z608f⟩ => ⟨z606, z607, fun x3 u4 z608p => ⟨fun z609 => ((z608f x3 u4 z608p).1 z609), fun z610 => ((z608f x3 u4 z608p).2 z610)⟩⟩)⟩⟩⟩)⟩⟩⟩⟩⟩⟩⟩⟩⟩)
set_option maxRecDepth 100000 in
theorem b_FS_feed_0 {d : Nat} {σ : fg_St} {Q : Int32 → fg_St → Prop} {a0 : Int32} (H : ((a0 < 0 → Q (-1000000002) σ) ∧ (¬ (a0 < 0) → ((a0 ≤ 255 → (∃ P, fg_Run d 44 0 [some (.ref 1), some (.int a0)] [] σ P ∧ ∀ x1 u2, P x1 u2 → ((x1 = 0 → Q (-1000000004) u2) ∧ (¬ (x1 = 0) → Q (fg_F u2 1 1) u2)))) ∧ (¬ (a0 ≤ 255) → Q (-1000000002) σ))))) : fg_Run (d + 1) 60 0 [some (.ref 0), some (.int a0)] [] σ Q := fg_blk [0] 15 (⟨fun z611 => (H.1 z611), fun z612 => ⟨fun z613 => ⟨rfl, ⟨rfl, (match ((H.2 z612).1 z613) with | ⟨z615, z616, z617f⟩ => ⟨z615, z616, fun x1 u2 z617p => ⟨fun z618 => ((z617f x1 u2 z617p).1 z618), fun z619 => ⟨rfl, ⟨rfl, ((z617f x1 u2 z617p).2 z619)⟩⟩⟩⟩)⟩⟩, fun z614 => ((H.2 z612).2 z614)⟩⟩)
set_option maxRecDepth 100000 in
theorem b_FS_ship_0 {d : Nat} {σ : fg_St} {Q : Int32 → fg_St → Prop} (H : (∃ P, fg_Run d 45 0 [some (.ref 1), some (.ref σ.2.1), none] [] σ P ∧ ∀ x1 u2, P x1 u2 → ((x1 = 0 → (∃ P, fg_Run d 0 0 [some (.ref 15), some (.ref u2.2.1), none] [] (u2.2.1, ((fg_sF (fg_sF u2 0 11 (fg_F u2 1 4)) 1 1 0).1, u2.1, (fg_sF (fg_sF u2 0 11 (fg_F u2 1 4)) 1 1 0).2.2).2.1, ((fg_sF (fg_sF u2 0 11 (fg_F u2 1 4)) 1 1 0).1, u2.1, (fg_sF (fg_sF u2 0 11 (fg_F u2 1 4)) 1 1 0).2.2).2.2) P ∧ ∀ x3 u4, P x3 u4 → (∃ P, fg_Run d 24 0 [some (.ref 23)] [] u4 P ∧ ∀ x5 u6, P x5 u6 → fg_Run (d + 1) 61 78 [some (.ref 0), none, none, some (.int 0)] [] u6 Q))) ∧ (¬ (x1 = 0) → Q ((-10) - x1) (fg_sF (fg_sF u2 0 11 (fg_F u2 1 4)) 1 1 0))))) : fg_Run (d + 1) 61 0 [some (.ref 0), none, none, none] [] σ Q := fg_blk [0, 78] 38 (⟨rfl, ⟨rfl, ⟨rfl, (match H with | ⟨z620, z621, z622f⟩ => ⟨z620, z621, fun x1 u2 z622p => ⟨rfl, ⟨rfl, ⟨rfl, ⟨rfl, ⟨rfl, ⟨fun z623 => ⟨rfl, ⟨rfl, ⟨rfl, ⟨rfl, ⟨rfl, ⟨rfl, ⟨rfl, (match ((z622f x1 u2 z622p).1 z623) with | ⟨z625, z626, z627f⟩ => ⟨z625, z626, fun x3 u4 z627p => ⟨rfl, ⟨rfl, (match (z627f x3 u4 z627p) with | ⟨z628, z629, z630f⟩ => ⟨z628, z629, fun x5 u6 z630p => (fg_Run.drop (L := [some _, none, none, some _]) ⟨rfl, ⟨trivial, ⟨trivial, ⟨rfl, trivial⟩⟩⟩⟩ (z630f x5 u6 z630p))⟩)⟩⟩⟩)⟩⟩⟩⟩⟩⟩⟩, fun z624 => ((z622f x1 u2 z622p).2 z624)⟩⟩⟩⟩⟩⟩⟩)⟩⟩⟩)
set_option maxRecDepth 100000 in
theorem b_FS_ship_78 {d : Nat} {σ : fg_St} {Q : Int32 → fg_St → Prop} {y3 : Int32} (H : ((2 ≤ y3 → (∃ P, fg_Run d 19 0 [some (.ref 26)] [] σ P ∧ ∀ x1 u2, P x1 u2 → (fg_kd u2.1 = 6 ∧ Q (fg_F u2 u2.1 3) u2))) ∧ (¬ (2 ≤ y3) → (vp_in y3 2 ∧ (fg_kd (41 + 9 * y3.toNatClampNeg) = 1 ∧ fg_Run (d + 1) 61 78 [some (.ref 0), none, none, some (.int (y3 + 1))] [] (fg_sF σ (41 + 9 * y3.toNatClampNeg) 2 0) Q))))) : fg_Run (d + 1) 61 78 [some (.ref 0), none, none, some (.int y3)] [] σ Q := fg_blk [0, 78] 14 (⟨rfl, ⟨⟨Nat.le_of_ble_eq_true rfl, Nat.le_of_ble_eq_true rfl⟩, ⟨fun z631 => ⟨rfl, ⟨rfl, (match (H.1 z631) with | ⟨z633, z634, z635f⟩ => ⟨z633, z634, fun x1 u2 z635p => ⟨rfl, ⟨(z635f x1 u2 z635p).1, (z635f x1 u2 z635p).2⟩⟩⟩)⟩⟩, fun z632 => ⟨rfl, ⟨Or.inr rfl, ⟨(H.2 z632).1, ⟨(H.2 z632).2.1, ⟨(by decide), (H.2 z632).2.2⟩⟩⟩⟩⟩⟩⟩⟩)
set_option maxRecDepth 100000 in
theorem b_FS_fault_0 {d : Nat} {σ : fg_St} {Q : Int32 → fg_St → Prop} (H : Q (fg_F σ 0 11) σ) : fg_Run d 62 0 [some (.ref 0)] [] σ Q := fg_blk [0] 3 (⟨rfl, H⟩)
set_option maxRecDepth 100000 in
theorem b_FS_told_0 {d : Nat} {σ : fg_St} {Q : Int32 → fg_St → Prop} {a0 : Int32} (H : ((a0 = 0 → (fg_kd σ.1 = 6 ∧ Q (fg_F σ σ.1 0) σ)) ∧ (¬ a0 = 0 → ((a0 = 1 → (fg_kd σ.1 = 6 ∧ Q (fg_F σ σ.1 1) σ)) ∧ (¬ a0 = 1 → ((a0 = 2 → (fg_kd σ.1 = 6 ∧ Q (fg_F σ σ.1 2) σ)) ∧ (¬ a0 = 2 → ((a0 = 3 → (fg_kd σ.1 = 6 ∧ Q (fg_F σ σ.1 3) σ)) ∧ (¬ a0 = 3 → ((a0 = 4 → Q (fg_F σ 1 1) σ) ∧ (¬ a0 = 4 → ((a0 = 5 → Q (fg_F σ 15 9) σ) ∧ (¬ a0 = 5 → ((a0 = 6 → Q (fg_F σ 15 10) σ) ∧ (¬ a0 = 6 → ((a0 = 7 → Q (fg_F σ 15 11) σ) ∧ (¬ a0 = 7 → ((a0 = 8 → (∃ P, fg_Run d 3 0 [some (.ref 15), some (.ref σ.1), none, none] [] σ P ∧ ∀ x1 u2, P x1 u2 → Q x1 u2)) ∧ (¬ a0 = 8 → ((a0 = 9 → Q (fg_F σ 15 7) σ) ∧ (¬ a0 = 9 → ((a0 = 10 → (∃ P, fg_Run d 94 0 [some (.ref 0), none, none] [] σ P ∧ ∀ x3 u4, P x3 u4 → Q x3 u4)) ∧ (¬ a0 = 10 → ((a0 = 11 → (∃ P, fg_Run d 96 0 [some (.ref 0)] [] σ P ∧ ∀ x5 u6, P x5 u6 → Q x5 u6)) ∧ (¬ a0 = 11 → ((a0 = 12 → (∃ P, fg_Run d 97 0 [some (.ref 0), none, none, none, none] [] σ P ∧ ∀ x7 u8, P x7 u8 → Q x7 u8)) ∧ (¬ a0 = 12 → ((a0 = 13 → (∃ P, fg_Run d 100 0 [some (.ref 0)] [] σ P ∧ ∀ x9 u10, P x9 u10 → Q x9 u10)) ∧ (¬ a0 = 13 → ((a0 = 14 → (∃ P, fg_Run d 101 0 [some (.ref 0), none, none, none, none] [] σ P ∧ ∀ x11 u12, P x11 u12 → Q x11 u12)) ∧ (¬ a0 = 14 → ((a0 = 15 → (∃ P, fg_Run d 102 0 [some (.ref 0), none, none, none, none, none, none] [] σ P ∧ ∀ x13 u14, P x13 u14 → Q x13 u14)) ∧ (¬ a0 = 15 → ((a0 = 16 → Q (fg_F σ 26 4) σ) ∧ (¬ a0 = 16 → ((a0 = 17 → (∃ P, fg_Run d 104 0 [some (.ref 0), none, none] [] σ P ∧ ∀ x15 u16, P x15 u16 → (∃ P, fg_Run d 195 0 [some (.int x15)] [] u16 P ∧ ∀ x17 u18, P x17 u18 → Q x17 u18))) ∧ (¬ a0 = 17 → ((a0 = 18 → (∃ P, fg_Run d 104 0 [some (.ref 0), none, none] [] σ P ∧ ∀ x19 u20, P x19 u20 → Q x19 u20)) ∧ (¬ a0 = 18 → ((a0 = 19 → (∃ P, fg_Run d 105 0 [some (.ref 0), none, none, none, none, none] [] σ P ∧ ∀ x21 u22, P x21 u22 → Q x21 u22)) ∧ (¬ a0 = 19 → ((a0 = 20 → Q (fg_F σ 26 5) σ) ∧ (¬ a0 = 20 → ((a0 = 21 → Q (fg_F σ 23 2) σ) ∧ (¬ a0 = 21 → Q (-1000000002) σ))))))))))))))))))))))))))))))))))))))))))))) : fg_Run (d + 1) 63 0 [some (.ref 0), some (.int a0)] [] σ Q := fg_blk [0] 8 (⟨fun z636 => ⟨rfl, ⟨(H.1 z636).1, (H.1 z636).2⟩⟩, fun z637 => ⟨fun z638 => ⟨rfl, ⟨((H.2 z637).1 z638).1, ((H.2 z637).1 z638).2⟩⟩, fun z639 => ⟨fun z640 => ⟨rfl, ⟨(((H.2 z637).2 z639).1 z640).1, (((H.2 z637).2 z639).1 z640).2⟩⟩, fun z641 => ⟨fun z642 => ⟨rfl, ⟨((((H.2 z637).2 z639).2 z641).1 z642).1, ((((H.2 z637).2 z639).2 z641).1 z642).2⟩⟩, fun z643 => ⟨fun z644 => ⟨rfl, ⟨rfl, (((((H.2 z637).2 z639).2 z641).2 z643).1 z644)⟩⟩, fun z645 => ⟨fun z646 => ⟨rfl, ⟨rfl, ((((((H.2 z637).2 z639).2 z641).2 z643).2 z645).1 z646)⟩⟩, fun z647 => ⟨fun z648 => ⟨rfl, ⟨rfl, (((((((H.2 z637).2 z639).2 z641).2 z643).2 z645).2 z647).1 z648)⟩⟩, fun z649 => ⟨fun z650 => ⟨rfl, ⟨rfl, ((((((((H.2 z637).2 z639).2 z641).2 z643).2 z645).2 z647).2 z649).1 z650)⟩⟩, fun z651 => ⟨fun z652 => ⟨rfl, ⟨rfl, ⟨rfl, (match (((((((((H.2 z637).2 z639).2 z641).2 z643).2 z645).2 z647).2 z649).2 z651).1 z652) with | ⟨z654, z655, z656f⟩ => ⟨z654, z655, fun x1 u2 z656p => (z656f x1 u2 z656p)⟩)⟩⟩⟩, fun z653 => ⟨fun z657 => ⟨rfl, ⟨rfl, ((((((((((H.2 z637).2 z639).2 z641).2 z643).2 z645).2 z647).2 z649).2 z651).2 z653).1 z657)⟩⟩, fun z658 => ⟨fun z659 => ⟨rfl, (match (((((((((((H.2 z637).2 z639).2 z641).2 z643).2 z645).2 z647).2 z649).2 z651).2 z653).2 z658).1 z659) with | ⟨z661, z662, z663f⟩ => ⟨z661, z662, fun x3 u4 z663p => (z663f x3 u4 z663p)⟩)⟩, fun z660 => ⟨fun z664 => ⟨rfl, (match ((((((((((((H.2 z637).2 z639).2 z641).2 z643).2 z645).2 z647).2 z649).2 z651).2 z653).2 z658).2 z660).1 z664) with | ⟨z666, z667, z668f⟩ => ⟨z666, z667, fun x5 u6 z668p => (z668f x5 u6 z668p)⟩)⟩, fun z665 => ⟨fun z669 => ⟨rfl, (match (((((((((((((H.2 z637).2 z639).2 z641).2 z643).2 z645).2 z647).2 z649).2 z651).2 z653).2 z658).2 z660).2 z665).1 z669) with | ⟨z671, z672, z673f⟩ => ⟨z671, z672, fun x7 u8 z673p => (z673f x7 u8 z673p)⟩)⟩, fun z670 => ⟨fun z674 => ⟨rfl, (match ((((((((((((((H.2 z637).2 z639).2 z641).2 z643).2 z645).2 z647).2 z649).2 z651).2 z653).2 z658).2 z660).2 z665).2 z670).1 z674) with | ⟨z676, z677, z678f⟩ => ⟨z676, z677, fun x9 u10 z678p => (z678f x9 u10 z678p)⟩)⟩, fun z675 => ⟨fun z679 => ⟨rfl, (match (((((((((((((((H.2 z637).2 z639).2 z641).2 z643).2 z645).2 z647).2 z649).2 z651).2 z653).2 z658).2 z660).2 z665).2 z670).2 z675).1 z679) with | ⟨z681, z682, z683f⟩ => ⟨z681, z682, fun x11 u12 z683p => (z683f x11 u12 z683p)⟩)⟩, fun z680 => ⟨fun z684 => ⟨rfl, (match ((((((((((((((((H.2 z637).2 z639).2 z641).2 z643).2 z645).2 z647).2 z649).2 z651).2 z653).2 z658).2 z660).2 z665).2 z670).2 z675).2 z680).1 z684) with | ⟨z686, z687, z688f⟩ => ⟨z686, z687, fun x13 u14 z688p => (z688f x13 u14 z688p)⟩)⟩, fun z685 => ⟨fun z689 => ⟨rfl, ⟨rfl, (((((((((((((((((H.2 z637).2 z639).2 z641).2 z643).2 z645).2 z647).2 z649).2 z651).2 z653).2 z658).2 z660).2 z665).2 z670).2 z675).2 z680).2 z685).1 z689)⟩⟩, fun z690 => ⟨fun z691 => ⟨rfl, (match ((((((((((((((((((H.2 z637).2 z639).2 z641).2 z643).2 z645).2 z647).2 z649).2 z651).2 z653).2 z658).2 z660).2 z665).2 z670).2 z675).2 z680).2 z685).2 z690).1 z691) with | ⟨z693, z694, z695f⟩ => ⟨z693, z694, fun x15 u16 z695p => (match (z695f x15 u16 z695p) with | ⟨z696, z697, z698f⟩ => ⟨z696, z697, fun x17 u18 z698p => (z698f x17 u18 z698p)⟩)⟩)⟩, fun z692 => ⟨fun z699 => ⟨rfl, (match (((((((((((((((((((H.2 z637).2 z639).2 z641).2 z643).2 z645).2 z647).2 z649).2 z651).2 z653).2 z658).2 z660).2 z665).2 z670).2 z675).2 z680).2 z685).2 z690).2 z692).1 z699) with | ⟨z701, z702, z703f⟩ => ⟨z701, z702, fun x19 u20 z703p => (z703f x19 u20 z703p)⟩)⟩, fun z700 => ⟨fun z704 => ⟨rfl, (match ((((((((((((((((((((H.2 z637).2 z639).2 z641).2 z643).2 z645).2 z647).2 z649).2 z651).2 z653).2 z658).2 z660).2 z665).2 z670).2 z675).2 z680).2 z685).2 z690).2 z692).2 z700).1 z704) with | ⟨z706, z707, z708f⟩ => ⟨z706, z707, fun x21 u22 z708p => (z708f x21 u22 z708p)⟩)⟩, fun z705 => ⟨fun z709 => ⟨rfl, ⟨rfl, (((((((((((((((((((((H.2 z637).2 z639).2 z641).2 z643).2 z645).2 z647).2 z649).2 z651).2 z653).2 z658).2 z660).2 z665).2 z670).2 z675).2 z680).2 z685).2 z690).2 z692).2 z700).2 z705).1 z709)⟩⟩, fun z710 => ⟨fun z711 => ⟨rfl, ⟨rfl, ((((((((((((((((((((((H.2 z637).2 z639).2 z641).2 z643).2 z645).2 z647).2 z649).2 z651).2 z653).2 z658).2 z660).2 z665).2 z670).2 z675).2 z680).2 z685).2 z690).2 z692).2 z700).2 z705).2 z710).1 z711)⟩⟩, fun z712 => ((((((((((((((((((((((H.2 z637).2 z639).2 z641).2 z643).2 z645).2 z647).2 z649).2 z651).2 z653).2 z658).2 z660).2 z665).2 z670).2 z675).2 z680).2 z685).2 z690).2 z692).2 z700).2 z705).2 z710).2 z712)⟩⟩⟩⟩⟩⟩⟩⟩⟩⟩⟩⟩⟩⟩⟩⟩⟩⟩⟩⟩⟩⟩)
set_option maxRecDepth 100000 in
theorem b_FS_flag_0 {d : Nat} {σ : fg_St} {Q : Int32 → fg_St → Prop} {a0 : Int32} {a1 : Int32} (H : (fg_kd σ.1 = 6 ∧ (∃ P, fg_Run d 32 0 [some (.ref σ.1), some (.int a0)] [] σ P ∧ ∀ x1 u2, P x1 u2 → ((¬ x1 = 0 → ((a1 = 0 → (vp_in a0 10 ∧ Q (fg_R u2 16 a0.toNatClampNeg) u2)) ∧ (¬ a1 = 0 → ((a1 = 1 → (vp_in a0 10 ∧ Q (fg_R u2 17 a0.toNatClampNeg) u2)) ∧ (¬ a1 = 1 → ((a1 = 2 → (vp_in a0 10 ∧ Q (fg_R u2 18 a0.toNatClampNeg) u2)) ∧ (¬ a1 = 2 → ((a1 = 3 → (vp_in a0 10 ∧ Q (fg_R u2 19 a0.toNatClampNeg) u2)) ∧ (¬ a1 = 3 → ((a1 = 4 → (vp_in a0 10 ∧ Q (fg_R u2 20 a0.toNatClampNeg) u2)) ∧ (¬ a1 = 4 → ((a1 = 5 → (∃ P, fg_Run d 87 0 [some (.int (fg_F u2 15 7)), some (.int a0)] [] u2 P ∧ ∀ x3 u4, P x3 u4 → ((x3 = 0 → Q 0 u4) ∧ (¬ (x3 = 0) → Q 1 u4)))) ∧ (¬ a1 = 5 → ((a1 = 6 → (∃ P, fg_Run d 5 0 [some (.ref 15), some (.int a0), some (.int (fg_F u2 15 10)), some (.int (fg_F u2 15 11))] [] u2 P ∧ ∀ x5 u6, P x5 u6 → Q x5 u6)) ∧ (¬ a1 = 6 → Q (-1000000002) u2))))))))))))))) ∧ (x1 = 0 → Q (-1000000001) u2))))) : fg_Run (d + 1) 64 0 [some (.ref 0), some (.int a0), some (.int a1)] [] σ Q := fg_blk [0] 18 (⟨rfl, ⟨fg_cls H.1 rfl, (match H.2 with | ⟨z713, z714, z715f⟩ => ⟨z713, z714, fun x1 u2 z715p => ⟨fun z716 => ⟨fun z718 => ⟨rfl, ⟨rfl, ⟨rfl, ⟨(((z715f x1 u2 z715p).1 z716).1 z718).1, (((z715f x1 u2 z715p).1 z716).1 z718).2⟩⟩⟩⟩, fun z719 => ⟨fun z720 => ⟨rfl, ⟨rfl, ⟨rfl, ⟨((((z715f x1 u2 z715p).1 z716).2 z719).1 z720).1, ((((z715f x1 u2 z715p).1 z716).2 z719).1 z720).2⟩⟩⟩⟩, fun z721 => ⟨fun z722 => ⟨rfl, ⟨rfl, ⟨rfl, ⟨(((((z715f x1 u2 z715p).1 z716).2 z719).2 z721).1 z722).1, (((((z715f x1 u2 z715p).1 z716).2 z719).2 z721).1 z722).2⟩⟩⟩⟩, fun z723 => ⟨fun z724 => ⟨rfl, ⟨rfl, ⟨rfl, ⟨((((((z715f x1 u2 z715p).1 z716).2 z719).2 z721).2 z723).1 z724).1, ((((((z715f x1 u2 z715p).1 z716).2 z719).2 z721).2 z723).1 z724).2⟩⟩⟩⟩, fun z725 => ⟨fun z726 => ⟨rfl, ⟨rfl, ⟨rfl, ⟨(((((((z715f x1 u2 z715p).1 z716).2 z719).2 z721).2 z723).2 z725).1 z726).1, (((((((z715f x1 u2 z715p).1 z716).2 z719).2 z721).2 z723).2 z725).1 z726).2⟩⟩⟩⟩, fun z727 => ⟨fun z728 => ⟨rfl, ⟨rfl, (match ((((((((z715f x1 u2 z715p).1 z716).2 z719).2 z721).2 z723).2 z725).2 z727).1 z728) with | ⟨z730, z731, z732f⟩ => ⟨z730, z731, fun x3 u4 z732p => ⟨fun z733 => ((z732f x3 u4 z732p).1 z733), fun z734 => ((z732f x3 u4 z732p).2 z734)⟩⟩)⟩⟩, fun z729 => ⟨fun z735 => ⟨rfl, ⟨rfl, ⟨rfl, ⟨rfl, ⟨rfl, ⟨rfl, (match (((((((((z715f x1 u2 z715p).1 z716).2 z719).2 z721).2 z723).2 z725).2 z727).2 z729).1 z735) with | ⟨z737, z738, z739f⟩ => ⟨z737, z738, fun x5 u6 z739p => (z739f x5 u6 z739p)⟩)⟩⟩⟩⟩⟩⟩, fun z736 => (((((((((z715f x1 u2 z715p).1 z716).2 z719).2 z721).2 z723).2 z725).2 z727).2 z729).2 z736)⟩⟩⟩⟩⟩⟩⟩, fun z717 => ((z715f x1 u2 z715p).2 (Classical.not_not.mp z717))⟩⟩)⟩⟩)
set_option maxRecDepth 100000 in
theorem b_FS_signal_0 {d : Nat} {σ : fg_St} {Q : Int32 → fg_St → Prop} {a0 : Int32} {a1 : Int32} (H : (fg_kd σ.1 = 6 ∧ (∃ P, fg_Run d 33 0 [some (.ref σ.1), some (.int a0)] [] σ P ∧ ∀ x1 u2, P x1 u2 → ((¬ x1 = 0 → ((a1 < 0 → Q (-1000000002) u2) ∧ (¬ (a1 < 0) → ((a1 ≤ 6 → ((¬ a1 = 0 → ((4 < a1 → ((¬ a1 = 5 → (∃ P, fg_Run d 6 0 [some (.ref 15), some (.int a0), none] [] u2 P ∧ ∀ x3 u4, P x3 u4 → Q x3 u4)) ∧ (a1 = 5 → (∃ P, fg_Run d 2 0 [some (.ref 15)] [] u2 P ∧ ∀ x5 u6, P x5 u6 → (∃ P, fg_Run d 95 0 [some (.ref 0), some (.int x5)] [] u6 P ∧ ∀ x7 u8, P x7 u8 → (∃ P, fg_Run d 58 0 [some (.ref 33), some (.ref u8.1), some (.int a0), none, none] [] u8 P ∧ ∀ x9 u10, P x9 u10 → Q x9 u10)))))) ∧ (¬ (4 < a1) → (fg_kd u2.1 = 6 ∧ (∃ P, fg_Run d 42 0 [some (.ref u2.1), some (.int a0), some (.int (a1 - 1)), none] [] u2 P ∧ ∀ x11 u12, P x11 u12 → Q x11 u12))))) ∧ (a1 = 0 → (fg_kd u2.1 = 6 ∧ (fg_kd (fg_pt u2 u2.1 7) = 11 ∧ (vp_in a0 (fg_ln (fg_pt u2 u2.1 7)) ∧ Q (fg_R u2 (fg_pt u2 u2.1 7) a0.toNatClampNeg) u2)))))) ∧ (¬ (a1 ≤ 6) → Q (-1000000002) u2))))) ∧ (x1 = 0 → Q (-1000000001) u2))))) : fg_Run (d + 1) 65 0 [some (.ref 0), some (.int a0), some (.int a1)] [] σ Q := fg_blk [0] 30 (⟨rfl, ⟨fg_cls H.1 rfl, (match H.2 with | ⟨z740, z741, z742f⟩ => ⟨z740, z741, fun x1 u2 z742p => ⟨fun z743 => ⟨fun z745 => (((z742f x1 u2 z742p).1 z743).1 z745), fun z746 => ⟨fun z747 => ⟨fun z749 => ⟨fun z751 => ⟨fun z753 => ⟨rfl, ⟨rfl, (match (((((((z742f x1 u2 z742p).1 z743).2 z746).1 z747).1 z749).1 z751).1 z753) with | ⟨z755, z756, z757f⟩ => ⟨z755, z756, fun x3 u4 z757p => (z757f x3 u4 z757p)⟩)⟩⟩, fun z754 => ⟨rfl, ⟨rfl, (match (((((((z742f x1 u2 z742p).1 z743).2 z746).1 z747).1 z749).1 z751).2 (Classical.not_not.mp z754)) with | ⟨z758, z759, z760f⟩ => ⟨z758, z759, fun x5 u6 z760p => ⟨rfl, (match (z760f x5 u6 z760p) with | ⟨z761, z762, z763f⟩ => ⟨z761, z762, fun x7 u8 z763p => ⟨rfl, ⟨rfl, ⟨rfl, (match (z763f x7 u8 z763p) with | ⟨z764, z765, z766f⟩ => ⟨z764, z765, fun x9 u10 z766p => (z766f x9 u10 z766p)⟩)⟩⟩⟩⟩)⟩⟩)⟩⟩⟩, fun z752 => ⟨rfl, ⟨fg_cls ((((((z742f x1 u2 z742p).1 z743).2 z746).1 z747).1 z749).2 z752).1 rfl, (match ((((((z742f x1 u2 z742p).1 z743).2 z746).1 z747).1 z749).2 z752).2 with | ⟨z767, z768, z769f⟩ => ⟨z767, z768, fun x11 u12 z769p => (z769f x11 u12 z769p)⟩)⟩⟩⟩, fun z750 => ⟨rfl, ⟨(((((z742f x1 u2 z742p).1 z743).2 z746).1 z747).2 (Classical.not_not.mp z750)).1, ⟨(((((z742f x1 u2 z742p).1 z743).2 z746).1 z747).2 (Classical.not_not.mp z750)).2.1, ⟨(((((z742f x1 u2 z742p).1 z743).2 z746).1 z747).2 (Classical.not_not.mp z750)).2.2.1, (((((z742f x1 u2 z742p).1 z743).2 z746).1 z747).2 (Classical.not_not.mp z750)).2.2.2⟩⟩⟩⟩⟩, fun z748 => ((((z742f x1 u2 z742p).1 z743).2 z746).2 z748)⟩⟩, fun z744 => ((z742f x1 u2 z742p).2 (Classical.not_not.mp z744))⟩⟩)⟩⟩)
set_option maxRecDepth 100000 in
theorem b_FS_line_0 {d : Nat} {σ : fg_St} {Q : Int32 → fg_St → Prop} {a0 : Int32} {a1 : Int32} (H : (fg_kd σ.1 = 6 ∧ (∃ P, fg_Run d 31 0 [some (.ref σ.1), some (.int a0)] [] σ P ∧ ∀ x1 u2, P x1 u2 → ((¬ x1 = 0 → ((a1 < 0 → Q (-1000000002) u2) ∧ (¬ (a1 < 0) → ((a1 ≤ 4 → ((¬ a1 = 0 → (vp_in (((a0 * 4) + a1) - 1) 12 ∧ Q (fg_R u2 22 ((((a0 * 4) + a1) - 1).toNatClampNeg)) u2)) ∧ (a1 = 0 → (vp_in a0 3 ∧ Q (fg_R u2 21 a0.toNatClampNeg) u2)))) ∧ (¬ (a1 ≤ 4) → Q (-1000000002) u2))))) ∧ (x1 = 0 → Q (-1000000001) u2))))) : fg_Run (d + 1) 66 0 [some (.ref 0), some (.int a0), some (.int a1)] [] σ Q := fg_blk [0] 24 (⟨rfl, ⟨fg_cls H.1 rfl, (match H.2 with | ⟨z770, z771, z772f⟩ => ⟨z770, z771, fun x1 u2 z772p => ⟨fun z773 => ⟨fun z775 => (((z772f x1 u2 z772p).1 z773).1 z775), fun z776 => ⟨fun z777 => ⟨fun z779 => ⟨rfl, ⟨rfl, ⟨rfl, ⟨(((((z772f x1 u2 z772p).1 z773).2 z776).1 z777).1 z779).1, (((((z772f x1 u2 z772p).1 z773).2 z776).1 z777).1 z779).2⟩⟩⟩⟩, fun z780 => ⟨rfl, ⟨rfl, ⟨rfl, ⟨(((((z772f x1 u2 z772p).1 z773).2 z776).1 z777).2 (Classical.not_not.mp z780)).1, (((((z772f x1 u2 z772p).1 z773).2 z776).1 z777).2 (Classical.not_not.mp z780)).2⟩⟩⟩⟩⟩, fun z778 => ((((z772f x1 u2 z772p).1 z773).2 z776).2 z778)⟩⟩, fun z774 => ((z772f x1 u2 z772p).2 (Classical.not_not.mp z774))⟩⟩)⟩⟩)
set_option maxRecDepth 100000 in
theorem b_FS_needs_0 {d : Nat} {σ : fg_St} {Q : Int32 → fg_St → Prop} {a0 : Int32} {a1 : Int32} (H : (fg_kd σ.1 = 6 ∧ (∃ P, fg_Run d 33 0 [some (.ref σ.1), some (.int a0)] [] σ P ∧ ∀ x1 u2, P x1 u2 → ((¬ x1 = 0 → ((a1 < 1 → Q (-1000000002) u2) ∧ (¬ (a1 < 1) → ((a1 ≤ 4 → (∃ P, fg_Run d 3 0 [some (.ref 15), some (.ref u2.1), none, none] [] u2 P ∧ ∀ x3 u4, P x3 u4 → (∃ P, fg_Run d 4 0 [some (.ref 15), some (.ref u4.1)] [] u4 P ∧ ∀ x5 u6, P x5 u6 → (∃ P, fg_Run d 13 0 [some (.ref 31), some (.int x3), some (.int x5)] [] u6 P ∧ ∀ x7 u8, P x7 u8 → (∃ P, fg_Run d 14 0 [some (.ref 31), some (.ref u8.1), some (.int a0), none, none, none, none] [] u8 P ∧ ∀ x9 u10, P x9 u10 → (vp_in (a1 - 1) 4 ∧ Q (fg_R u10 32 ((a1 - 1).toNatClampNeg)) u10)))))) ∧ (¬ (a1 ≤ 4) → Q (-1000000002) u2))))) ∧ (x1 = 0 → Q (-1000000001) u2))))) : fg_Run (d + 1) 67 0 [some (.ref 0), some (.int a0), some (.int a1)] [] σ Q := fg_blk [0] 39 (⟨rfl, ⟨fg_cls H.1 rfl, (match H.2 with | ⟨z781, z782, z783f⟩ => ⟨z781, z782, fun x1 u2 z783p => ⟨fun z784 => ⟨fun z786 => (((z783f x1 u2 z783p).1 z784).1 z786), fun z787 => ⟨fun z788 => ⟨rfl, ⟨rfl, ⟨rfl, ⟨rfl, (match ((((z783f x1 u2 z783p).1 z784).2 z787).1 z788) with | ⟨z790, z791, z792f⟩ => ⟨z790, z791, fun x3 u4 z792p => ⟨rfl, ⟨rfl, ⟨rfl, (match (z792f x3 u4 z792p) with | ⟨z793, z794, z795f⟩ => ⟨z793, z794, fun x5 u6 z795p => ⟨rfl, (match (z795f x5 u6 z795p) with | ⟨z796, z797, z798f⟩ => ⟨z796, z797, fun x7 u8 z798p => ⟨rfl, ⟨rfl, ⟨rfl, (match (z798f x7 u8 z798p) with | ⟨z799, z800, z801f⟩ => ⟨z799, z800, fun x9 u10 z801p => ⟨rfl, ⟨rfl, ⟨rfl, ⟨(z801f x9 u10 z801p).1, (z801f x9 u10 z801p).2⟩⟩⟩⟩⟩)⟩⟩⟩⟩)⟩⟩)⟩⟩⟩⟩)⟩⟩⟩⟩, fun z789 => ((((z783f x1 u2 z783p).1 z784).2 z787).2 z789)⟩⟩, fun z785 => ((z783f x1 u2 z783p).2 (Classical.not_not.mp z785))⟩⟩)⟩⟩)
set_option maxRecDepth 100000 in
theorem b_FS_hoist_0 {d : Nat} {σ : fg_St} {Q : Int32 → fg_St → Prop} {a0 : Int32} {a1 : Int32} (H : (fg_kd σ.1 = 6 ∧ (∃ P, fg_Run d 31 0 [some (.ref σ.1), some (.int a0)] [] σ P ∧ ∀ x1 u2, P x1 u2 → ((x1 = 0 → Q (-1000000001) u2) ∧ (¬ (x1 = 0) → (fg_kd u2.1 = 6 ∧ (∃ P, fg_Run d 33 0 [some (.ref u2.1), some (.int a1)] [] u2 P ∧ ∀ x3 u4, P x3 u4 → ((¬ x3 = 0 → (∃ P, fg_Run d 88 0 [some (.ref 0), some (.int a0), some (.int a1)] [] u4 P ∧ ∀ x5 u6, P x5 u6 → ((¬ x5 = 0 → (∃ P, fg_Run d 22 0 [some (.ref 23), some (.ref 15)] [] u6 P ∧ ∀ x7 u8, P x7 u8 → (∃ P, fg_Run d 9 0 [some (.ref 15), some (.int a0), some (.int a1), some (.ref 32), none, none, none] [] u8 P ∧ ∀ x9 u10, P x9 u10 → Q x9 u10))) ∧ (x5 = 0 → Q (-1000000003) u6)))) ∧ (x3 = 0 → Q (-1000000001) u4))))))))) : fg_Run (d + 1) 68 0 [some (.ref 0), some (.int a0), some (.int a1)] [] σ Q := fg_blk [0] 29 (⟨rfl, ⟨fg_cls H.1 rfl, (match H.2 with | ⟨z802, z803, z804f⟩ => ⟨z802, z803, fun x1 u2 z804p => ⟨fun z805 => ((z804f x1 u2 z804p).1 z805), fun z806 => ⟨rfl, ⟨fg_cls ((z804f x1 u2 z804p).2 z806).1 rfl, (match ((z804f x1 u2 z804p).2 z806).2 with | ⟨z807, z808, z809f⟩ => ⟨z807, z808, fun x3 u4 z809p => ⟨fun z810 => ⟨rfl, (match ((z809f x3 u4 z809p).1 z810) with | ⟨z812, z813, z814f⟩ => ⟨z812, z813, fun x5 u6 z814p => ⟨fun z815 => ⟨rfl, ⟨rfl, ⟨rfl, (match ((z814f x5 u6 z814p).1 z815) with | ⟨z817, z818, z819f⟩ => ⟨z817, z818, fun x7 u8 z819p => ⟨rfl, ⟨rfl, ⟨rfl, ⟨rfl, (match (z819f x7 u8 z819p) with | ⟨z820, z821, z822f⟩ => ⟨z820, z821, fun x9 u10 z822p => (z822f x9 u10 z822p)⟩)⟩⟩⟩⟩⟩)⟩⟩⟩, fun z816 => ((z814f x5 u6 z814p).2 (Classical.not_not.mp z816))⟩⟩)⟩, fun z811 => ((z809f x3 u4 z809p).2 (Classical.not_not.mp z811))⟩⟩)⟩⟩⟩⟩)⟩⟩)
set_option maxRecDepth 100000 in
theorem b_FS_haul_0 {d : Nat} {σ : fg_St} {Q : Int32 → fg_St → Prop} {a0 : Int32} (H : (fg_kd σ.1 = 6 ∧ (∃ P, fg_Run d 31 0 [some (.ref σ.1), some (.int a0)] [] σ P ∧ ∀ x1 u2, P x1 u2 → ((¬ x1 = 0 → (vp_in a0 3 ∧ ((¬ (fg_R u2 21 a0.toNatClampNeg) = (-1) → (∃ P, fg_Run d 22 0 [some (.ref 23), some (.ref 15)] [] u2 P ∧ ∀ x3 u4, P x3 u4 → (∃ P, fg_Run d 10 0 [some (.ref 15), some (.int a0), none, none, none] [] u4 P ∧ ∀ x5 u6, P x5 u6 → Q x5 u6))) ∧ ((fg_R u2 21 a0.toNatClampNeg) = (-1) → Q (-1000000003) u2)))) ∧ (x1 = 0 → Q (-1000000001) u2))))) : fg_Run (d + 1) 69 0 [some (.ref 0), some (.int a0)] [] σ Q := fg_blk [0] 22 (⟨rfl, ⟨fg_cls H.1 rfl, (match H.2 with | ⟨z823, z824, z825f⟩ => ⟨z823, z824, fun x1 u2 z825p => ⟨fun z826 => ⟨rfl, ⟨rfl, ⟨rfl, ⟨((z825f x1 u2 z825p).1 z826).1, ⟨fun z828 => ⟨rfl, ⟨rfl, ⟨rfl, (match (((z825f x1 u2 z825p).1 z826).2.1 z828) with | ⟨z830, z831, z832f⟩ => ⟨z830, z831, fun x3 u4 z832p => ⟨rfl, ⟨rfl, (match (z832f x3 u4 z832p) with | ⟨z833, z834, z835f⟩ => ⟨z833, z834, fun x5 u6 z835p => (z835f x5 u6 z835p)⟩)⟩⟩⟩)⟩⟩⟩, fun z829 => (((z825f x1 u2 z825p).1 z826).2.2 (Classical.not_not.mp z829))⟩⟩⟩⟩⟩, fun z827 => ((z825f x1 u2 z825p).2 (Classical.not_not.mp z827))⟩⟩)⟩⟩)
set_option maxRecDepth 100000 in
theorem b_FS_day_0 {d : Nat} {σ : fg_St} {Q : Int32 → fg_St → Prop} {a0 : Int32} (H : (∃ P, fg_Run d 89 0 [some (.ref 0), some (.int a0)] [] σ P ∧ ∀ x1 u2, P x1 u2 → ((x1 = 0 → (∃ P, fg_Run d 22 0 [some (.ref 23), some (.ref 15)] [] u2 P ∧ ∀ x3 u4, P x3 u4 → fg_Run (d + 1) 70 25 [some (.ref 0), some (.int a0), none, some (.int 0)] [] u4 Q)) ∧ (¬ (x1 = 0) → Q x1 u2)))) : fg_Run (d + 1) 70 0 [some (.ref 0), some (.int a0), none, none] [] σ Q := fg_blk [0, 25] 14 (⟨rfl, (match H with | ⟨z836, z837, z838f⟩ => ⟨z836, z837, fun x1 u2 z838p => ⟨fun z839 => ⟨rfl, ⟨rfl, ⟨rfl, (match ((z838f x1 u2 z838p).1 z839) with | ⟨z841, z842, z843f⟩ => ⟨z841, z842, fun x3 u4 z843p => (fg_Run.drop (L := [some _, some _, none, some _]) ⟨rfl, ⟨rfl, ⟨trivial, ⟨rfl, trivial⟩⟩⟩⟩ (z843f x3 u4 z843p))⟩)⟩⟩⟩, fun z840 => ((z838f x1 u2 z838p).2 z840)⟩⟩)⟩)
set_option maxRecDepth 100000 in
theorem b_FS_day_25 {d : Nat} {σ : fg_St} {Q : Int32 → fg_St → Prop} {y1 : Int32} {y3 : Int32} (H : ((y1 ≤ y3 → Q (fg_F σ 15 7) σ) ∧ (¬ (y1 ≤ y3) → (∃ P, fg_Run d 12 0 [some (.ref 15), some (.ref σ.1), none] [] σ P ∧ ∀ x1 u2, P x1 u2 → fg_Run (d + 1) 70 25 [some (.ref 0), some (.int y1), none, some (.int (y3 + 1))] [] u2 Q)))) : fg_Run (d + 1) 70 25 [some (.ref 0), some (.int y1), none, some (.int y3)] [] σ Q := fg_blk [0, 25] 11 (⟨fun z844 => ⟨rfl, ⟨rfl, (H.1 z844)⟩⟩, fun z845 => ⟨rfl, ⟨rfl, ⟨rfl, (match (H.2 z845) with | ⟨z846, z847, z848f⟩ => ⟨z846, z847, fun x1 u2 z848p => (z848f x1 u2 z848p)⟩)⟩⟩⟩⟩)
set_option maxRecDepth 100000 in
theorem b_FS_sew_0 {d : Nat} {σ : fg_St} {Q : Int32 → fg_St → Prop} {a0 : Int32} (H : (fg_kd σ.1 = 6 ∧ (∃ P, fg_Run d 32 0 [some (.ref σ.1), some (.int a0)] [] σ P ∧ ∀ x1 u2, P x1 u2 → ((¬ x1 = 0 → (∃ P, fg_Run d 7 0 [some (.ref 15), some (.int a0)] [] u2 P ∧ ∀ x3 u4, P x3 u4 → ((¬ x3 = 0 → (∃ P, fg_Run d 22 0 [some (.ref 23), some (.ref 15)] [] u4 P ∧ ∀ x5 u6, P x5 u6 → (vp_in a0 10 ∧ (∃ P, fg_Run d 8 0 [some (.ref 15), some (.int a0)] [] u6 P ∧ ∀ x7 u8, P x7 u8 → Q (fg_R u6 19 a0.toNatClampNeg) u8)))) ∧ (x3 = 0 → Q (-1000000003) u4)))) ∧ (x1 = 0 → Q (-1000000001) u2))))) : fg_Run (d + 1) 71 0 [some (.ref 0), some (.int a0), none] [] σ Q := fg_blk [0] 27 (⟨rfl, ⟨fg_cls H.1 rfl, (match H.2 with | ⟨z849, z850, z851f⟩ => ⟨z849, z850, fun x1 u2 z851p => ⟨fun z852 => ⟨rfl, ⟨rfl, (match ((z851f x1 u2 z851p).1 z852) with | ⟨z854, z855, z856f⟩ => ⟨z854, z855, fun x3 u4 z856p => ⟨fun z857 => ⟨rfl, ⟨rfl, ⟨rfl, (match ((z856f x3 u4 z856p).1 z857) with | ⟨z859, z860, z861f⟩ => ⟨z859, z860, fun x5 u6 z861p => ⟨rfl, ⟨rfl, ⟨rfl, ⟨(z861f x5 u6 z861p).1, ⟨rfl, ⟨rfl, (match (z861f x5 u6 z861p).2 with | ⟨z862, z863, z864f⟩ => ⟨z862, z863, fun x7 u8 z864p => (z864f x7 u8 z864p)⟩)⟩⟩⟩⟩⟩⟩⟩)⟩⟩⟩, fun z858 => ((z856f x3 u4 z856p).2 (Classical.not_not.mp z858))⟩⟩)⟩⟩, fun z853 => ((z851f x1 u2 z851p).2 (Classical.not_not.mp z853))⟩⟩)⟩⟩)
set_option maxRecDepth 100000 in
theorem b_FS_anew_0 {d : Nat} {σ : fg_St} {Q : Int32 → fg_St → Prop} {a0 : Int32} {a1 : Int32} {a2 : Int32} {a3 : Int32} (H : (fg_kd σ.1 = 6 ∧ (∃ P, fg_Run d 32 0 [some (.ref σ.1), some (.int a0)] [] σ P ∧ ∀ x1 u2, P x1 u2 → ((¬ x1 = 0 → ((a1 < 0 → Q (-1000000002) u2) ∧ (¬ (a1 < 0) → ((3 < a1 → Q (-1000000002) u2) ∧ (¬ (3 < a1) → ((a2 < 0 → Q (-1000000002) u2) ∧ (¬ (a2 < 0) → ((4 < a2 → Q (-1000000002) u2) ∧ (¬ (4 < a2) → ((a3 < 0 → Q (-1000000002) u2) ∧ (¬ (a3 < 0) → ((a3 ≤ 4 → (vp_in a0 10 ∧ (((fg_R u2 20 a0.toNatClampNeg) = (-1) → (∃ P, fg_Run d 22 0 [some (.ref 23), some (.ref 15)] [] u2 P ∧ ∀ x3 u4, P x3 u4 → (vp_in a0 10 ∧ (vp_in a0 10 ∧ (vp_in a0 10 ∧ (∃ P, fg_Run d 8 0 [some (.ref 15), some (.int a0)] [] (fg_sR (fg_sR (fg_sR u4 16 a0.toNatClampNeg a1) 17 a0.toNatClampNeg a2) 18 a0.toNatClampNeg a3) P ∧ ∀ x5 u6, P x5 u6 → (∃ P, fg_Run d 96 0 [some (.ref 0)] [] u6 P ∧ ∀ x7 u8, P x7 u8 → Q x7 u8))))))) ∧ (¬ ((fg_R u2 20 a0.toNatClampNeg) = (-1)) → Q (-1000000003) u2)))) ∧ (¬ (a3 ≤ 4) → Q (-1000000002) u2))))))))))))) ∧ (x1 = 0 → Q (-1000000001) u2))))) : fg_Run (d + 1) 72 0 [some (.ref 0), some (.int a0), some (.int a1), some (.int a2), some (.int a3)] [] σ Q := fg_blk [0] 57 (⟨rfl, ⟨fg_cls H.1 rfl, (match H.2 with | ⟨z865, z866, z867f⟩ => ⟨z865, z866, fun x1 u2 z867p => ⟨fun z868 => ⟨fun z870 => (((z867f x1 u2 z867p).1 z868).1 z870), fun z871 => ⟨fun z872 => ((((z867f x1 u2 z867p).1 z868).2 z871).1 z872), fun z873 => ⟨fun z874 => (((((z867f x1 u2 z867p).1 z868).2 z871).2 z873).1 z874), fun z875 => ⟨fun z876 => ((((((z867f x1 u2 z867p).1 z868).2 z871).2 z873).2 z875).1 z876), fun z877 => ⟨fun z878 => (((((((z867f x1 u2 z867p).1 z868).2 z871).2 z873).2 z875).2 z877).1 z878), fun z879 => ⟨fun z880 => ⟨rfl, ⟨rfl, ⟨rfl, ⟨((((((((z867f x1 u2 z867p).1 z868).2 z871).2 z873).2 z875).2 z877).2 z879).1 z880).1, ⟨fun z882 => ⟨rfl, ⟨rfl, ⟨rfl, (match (((((((((z867f x1 u2 z867p).1 z868).2 z871).2 z873).2 z875).2 z877).2 z879).1 z880).2.1 z882) with | ⟨z884, z885, z886f⟩ => ⟨z884, z885, fun x3 u4 z886p => ⟨rfl, ⟨rfl, ⟨rfl, ⟨(z886f x3 u4 z886p).1, ⟨rfl, ⟨rfl, ⟨rfl, ⟨(z886f x3 u4 z886p).2.1, ⟨rfl, ⟨rfl, ⟨rfl, ⟨(z886f x3 u4 z886p).2.2.1, ⟨rfl, ⟨rfl, (match (z886f x3 u4 z886p).2.2.2 with | ⟨z887, z888, z889f⟩ => ⟨z887, z888, fun x5 u6 z889p => ⟨rfl, (match (z889f x5 u6 z889p) with | ⟨z890, z891, z892f⟩ => ⟨z890, z891, fun x7 u8 z892p => (z892f x7 u8 z892p)⟩)⟩⟩)⟩⟩⟩⟩⟩⟩⟩⟩⟩⟩⟩⟩⟩⟩⟩)⟩⟩⟩, fun z883 => (((((((((z867f x1 u2 z867p).1 z868).2 z871).2 z873).2 z875).2 z877).2 z879).1 z880).2.2 z883)⟩⟩⟩⟩⟩, fun z881 => ((((((((z867f x1 u2 z867p).1 z868).2 z871).2 z873).2 z875).2 z877).2 z879).2 z881)⟩⟩⟩⟩⟩⟩, fun z869 => ((z867f x1 u2 z867p).2 (Classical.not_not.mp z869))⟩⟩)⟩⟩)
set_option maxRecDepth 100000 in
theorem b_FS_weather_0 {d : Nat} {σ : fg_St} {Q : Int32 → fg_St → Prop} {a0 : Int32} {a1 : Int32} (H : ((a0 < 0 → Q (-1000000002) σ) ∧ (¬ (a0 < 0) → ((a0 ≤ 2 → ((a1 = 0 → (fg_kd σ.1 = 6 ∧ (∃ P, fg_Run d 30 0 [some (.ref σ.1)] [] σ P ∧ ∀ x1 u2, P x1 u2 → ((x1 = 0 → Q (-1000000003) u2) ∧ (¬ (x1 = 0) → ((¬ (fg_F u2 15 10) = a0 → (∃ P, fg_Run d 22 0 [some (.ref 23), some (.ref 15)] [] u2 P ∧ ∀ x3 u4, P x3 u4 → (∃ P, fg_Run d 96 0 [some (.ref 0)] [] (fg_sF (fg_sF u4 15 10 a0) 15 11 0) P ∧ ∀ x5 u6, P x5 u6 → Q x5 u6))) ∧ ((fg_F u2 15 10) = a0 → ((¬ (fg_F u2 15 11) = 0 → (∃ P, fg_Run d 22 0 [some (.ref 23), some (.ref 15)] [] u2 P ∧ ∀ x7 u8, P x7 u8 → (∃ P, fg_Run d 96 0 [some (.ref 0)] [] (fg_sF (fg_sF u8 15 10 a0) 15 11 0) P ∧ ∀ x9 u10, P x9 u10 → Q x9 u10))) ∧ ((fg_F u2 15 11) = 0 → Q (-1000000003) u2))))))))) ∧ (¬ (a1 = 0) → (fg_kd σ.1 = 6 ∧ (∃ P, fg_Run d 30 0 [some (.ref σ.1)] [] σ P ∧ ∀ x11 u12, P x11 u12 → ((x11 = 0 → Q (-1000000003) u12) ∧ (¬ (x11 = 0) → ((¬ (fg_F u12 15 10) = a0 → (∃ P, fg_Run d 22 0 [some (.ref 23), some (.ref 15)] [] u12 P ∧ ∀ x13 u14, P x13 u14 → (∃ P, fg_Run d 96 0 [some (.ref 0)] [] (fg_sF (fg_sF u14 15 10 a0) 15 11 1) P ∧ ∀ x15 u16, P x15 u16 → Q x15 u16))) ∧ ((fg_F u12 15 10) = a0 → ((¬ (fg_F u12 15 11) = 1 → (∃ P, fg_Run d 22 0 [some (.ref 23), some (.ref 15)] [] u12 P ∧ ∀ x17 u18, P x17 u18 → (∃ P, fg_Run d 96 0 [some (.ref 0)] [] (fg_sF (fg_sF u18 15 10 a0) 15 11 1) P ∧ ∀ x19 u20, P x19 u20 → Q x19 u20))) ∧ ((fg_F u12 15 11) = 1 → Q (-1000000003) u12))))))))))) ∧ (¬ (a0 ≤ 2) → Q (-1000000002) σ))))) : fg_Run (d + 1) 73 0 [some (.ref 0), some (.int a0), some (.int a1), none] [] σ Q := fg_blk [0] 40 (⟨fun z893 => (H.1 z893), fun z894 => ⟨fun z895 => ⟨fun z897 => ⟨rfl, ⟨fg_cls (((H.2 z894).1 z895).1 z897).1 rfl, (match (((H.2 z894).1 z895).1 z897).2 with | ⟨z899, z900, z901f⟩ => ⟨z899, z900, fun x1 u2 z901p => ⟨fun z902 => ((z901f x1 u2 z901p).1 z902), fun z903 => ⟨rfl, ⟨rfl, ⟨fun z904 => ⟨rfl, ⟨rfl, ⟨rfl, (match (((z901f x1 u2 z901p).2 z903).1 z904) with | ⟨z906, z907, z908f⟩ => ⟨z906, z907, fun x3 u4 z908p => ⟨rfl, ⟨rfl, ⟨rfl, ⟨rfl, ⟨rfl, (match (z908f x3 u4 z908p) with | ⟨z909, z910, z911f⟩ => ⟨z909, z910, fun x5 u6 z911p => (z911f x5 u6 z911p)⟩)⟩⟩⟩⟩⟩⟩)⟩⟩⟩, fun z905 => ⟨rfl, ⟨rfl, ⟨fun z912 => ⟨rfl, ⟨rfl, ⟨rfl, (match ((((z901f x1 u2 z901p).2 z903).2 (Classical.not_not.mp z905)).1 z912) with | ⟨z914, z915, z916f⟩ => ⟨z914, z915, fun x7 u8 z916p => ⟨rfl, ⟨rfl, ⟨rfl, ⟨rfl, ⟨rfl, (match (z916f x7 u8 z916p) with | ⟨z917, z918, z919f⟩ => ⟨z917, z918, fun x9 u10 z919p => (z919f x9 u10 z919p)⟩)⟩⟩⟩⟩⟩⟩)⟩⟩⟩, fun z913 => ((((z901f x1 u2 z901p).2 z903).2 (Classical.not_not.mp z905)).2 (Classical.not_not.mp z913))⟩⟩⟩⟩⟩⟩⟩⟩)⟩⟩, fun z898 => ⟨rfl, ⟨fg_cls (((H.2 z894).1 z895).2 z898).1 rfl, (match (((H.2 z894).1 z895).2 z898).2 with | ⟨z920, z921, z922f⟩ => ⟨z920, z921, fun x11 u12 z922p => ⟨fun z923 => ((z922f x11 u12 z922p).1 z923), fun z924 => ⟨rfl, ⟨rfl, ⟨fun z925 => ⟨rfl, ⟨rfl, ⟨rfl, (match (((z922f x11 u12 z922p).2 z924).1 z925) with | ⟨z927, z928, z929f⟩ => ⟨z927, z928, fun x13 u14 z929p => ⟨rfl, ⟨rfl, ⟨rfl, ⟨rfl, ⟨rfl, (match (z929f x13 u14 z929p) with | ⟨z930, z931, z932f⟩ => ⟨z930, z931, fun x15 u16 z932p => (z932f x15 u16 z932p)⟩)⟩⟩⟩⟩⟩⟩)⟩⟩⟩, fun z926 => ⟨rfl, ⟨rfl, ⟨fun z933 => ⟨rfl, ⟨rfl, ⟨rfl, (match ((((z922f x11 u12 z922p).2 z924).2 (Classical.not_not.mp z926)).1 z933) with | ⟨z935, z936, z937f⟩ => ⟨z935, z936, fun x17 u18 z937p => ⟨rfl, ⟨rfl, ⟨rfl, ⟨rfl, ⟨rfl, (match (z937f x17 u18 z937p) with | ⟨z938, z939, z940f⟩ => ⟨z938, z939, fun x19 u20 z940p => (z940f x19 u20 z940p)⟩)⟩⟩⟩⟩⟩⟩)⟩⟩⟩, fun z934 => ((((z922f x11 u12 z922p).2 z924).2 (Classical.not_not.mp z926)).2 (Classical.not_not.mp z934))⟩⟩⟩⟩⟩⟩⟩⟩)⟩⟩⟩, fun z896 => ((H.2 z894).2 z896)⟩⟩)
set_option maxRecDepth 100000 in
theorem b_FS_drift_0 {d : Nat} {σ : fg_St} {Q : Int32 → fg_St → Prop} {a0 : Int32} (H : (∃ P, fg_Run d 89 0 [some (.ref 0), some (.int a0)] [] σ P ∧ ∀ x1 u2, P x1 u2 → ((x1 = 0 → (∃ P, fg_Run d 22 0 [some (.ref 23), some (.ref 15)] [] u2 P ∧ ∀ x3 u4, P x3 u4 → fg_Run (d + 1) 74 25 [some (.ref 0), some (.int a0), none, some (.int 0)] [] u4 Q)) ∧ (¬ (x1 = 0) → Q x1 u2)))) : fg_Run (d + 1) 74 0 [some (.ref 0), some (.int a0), none, none] [] σ Q := fg_blk [0, 25] 14 (⟨rfl, (match H with | ⟨z941, z942, z943f⟩ => ⟨z941, z942, fun x1 u2 z943p => ⟨fun z944 => ⟨rfl, ⟨rfl, ⟨rfl, (match ((z943f x1 u2 z943p).1 z944) with | ⟨z946, z947, z948f⟩ => ⟨z946, z947, fun x3 u4 z948p => (fg_Run.drop (L := [some _, some _, none, some _]) ⟨rfl, ⟨rfl, ⟨trivial, ⟨rfl, trivial⟩⟩⟩⟩ (z948f x3 u4 z948p))⟩)⟩⟩⟩, fun z945 => ((z943f x1 u2 z943p).2 z945)⟩⟩)⟩)
set_option maxRecDepth 100000 in
theorem b_FS_drift_25 {d : Nat} {σ : fg_St} {Q : Int32 → fg_St → Prop} {y1 : Int32} {y3 : Int32} (H : ((y1 ≤ y3 → Q (fg_F σ 15 7) σ) ∧ (¬ (y1 ≤ y3) → (∃ P, fg_Run d 91 0 [some (.ref 0), none, none] [] σ P ∧ ∀ x1 u2, P x1 u2 → (∃ P, fg_Run d 12 0 [some (.ref 15), some (.ref u2.1), none] [] u2 P ∧ ∀ x3 u4, P x3 u4 → fg_Run (d + 1) 74 25 [some (.ref 0), some (.int y1), none, some (.int (y3 + 1))] [] u4 Q))))) : fg_Run (d + 1) 74 25 [some (.ref 0), some (.int y1), none, some (.int y3)] [] σ Q := fg_blk [0, 25] 13 (⟨fun z949 => ⟨rfl, ⟨rfl, (H.1 z949)⟩⟩, fun z950 => ⟨rfl, (match (H.2 z950) with | ⟨z951, z952, z953f⟩ => ⟨z951, z952, fun x1 u2 z953p => ⟨rfl, ⟨rfl, ⟨rfl, (match (z953f x1 u2 z953p) with | ⟨z954, z955, z956f⟩ => ⟨z954, z955, fun x3 u4 z956p => (z956f x3 u4 z956p)⟩)⟩⟩⟩⟩)⟩⟩)
set_option maxRecDepth 100000 in
theorem b_FS_undo_0 {d : Nat} {σ : fg_St} {Q : Int32 → fg_St → Prop} (H : ((¬ (fg_F σ 23 2) = 0 → (∃ P, fg_Run d 23 0 [some (.ref 23), some (.ref 15)] [] σ P ∧ ∀ x1 u2, P x1 u2 → Q (fg_F u2 23 2) u2)) ∧ ((fg_F σ 23 2) = 0 → Q (-1000000003) σ))) : fg_Run (d + 1) 75 0 [some (.ref 0)] [] σ Q := fg_blk [0] 13 (⟨rfl, ⟨rfl, ⟨fun z957 => ⟨rfl, ⟨rfl, ⟨rfl, (match (H.1 z957) with | ⟨z959, z960, z961f⟩ => ⟨z959, z960, fun x1 u2 z961p => ⟨rfl, ⟨rfl, (z961f x1 u2 z961p)⟩⟩⟩)⟩⟩⟩, fun z958 => (H.2 (Classical.not_not.mp z958))⟩⟩⟩)
set_option maxRecDepth 100000 in
theorem b_FS_look_0 {d : Nat} {σ : fg_St} {Q : Int32 → fg_St → Prop} {a0 : Int32} {a1 : Int32} {a2 : Int32} (H : (fg_kd σ.1 = 6 ∧ (∃ P, fg_Run d 32 0 [some (.ref σ.1), some (.int a0)] [] σ P ∧ ∀ x1 u2, P x1 u2 → ((¬ x1 = 0 → ((a1 < 0 → Q (-1000000002) u2) ∧ (¬ (a1 < 0) → ((a1 ≤ 2 → ((a2 = 0 → (∃ P, fg_Run d 5 0 [some (.ref 15), some (.int a0), some (.int a1), some (.int 0)] [] u2 P ∧ ∀ x3 u4, P x3 u4 → Q x3 u4)) ∧ (¬ (a2 = 0) → (∃ P, fg_Run d 5 0 [some (.ref 15), some (.int a0), some (.int a1), some (.int 1)] [] u2 P ∧ ∀ x5 u6, P x5 u6 → Q x5 u6)))) ∧ (¬ (a1 ≤ 2) → Q (-1000000002) u2))))) ∧ (x1 = 0 → Q (-1000000001) u2))))) : fg_Run (d + 1) 76 0 [some (.ref 0), some (.int a0), some (.int a1), some (.int a2)] [] σ Q := fg_blk [0] 20 (⟨rfl, ⟨fg_cls H.1 rfl, (match H.2 with | ⟨z962, z963, z964f⟩ => ⟨z962, z963, fun x1 u2 z964p => ⟨fun z965 => ⟨fun z967 => (((z964f x1 u2 z964p).1 z965).1 z967), fun z968 => ⟨fun z969 => ⟨rfl, ⟨fun z971 => ⟨rfl, (match (((((z964f x1 u2 z964p).1 z965).2 z968).1 z969).1 z971) with | ⟨z973, z974, z975f⟩ => ⟨z973, z974, fun x3 u4 z975p => (z975f x3 u4 z975p)⟩)⟩, fun z972 => ⟨rfl, (match (((((z964f x1 u2 z964p).1 z965).2 z968).1 z969).2 z972) with | ⟨z976, z977, z978f⟩ => ⟨z976, z977, fun x5 u6 z978p => (z978f x5 u6 z978p)⟩)⟩⟩⟩, fun z970 => ((((z964f x1 u2 z964p).1 z965).2 z968).2 z970)⟩⟩, fun z966 => ((z964f x1 u2 z964p).2 (Classical.not_not.mp z966))⟩⟩)⟩⟩)
set_option maxRecDepth 100000 in
theorem b_FS_together_0 {d : Nat} {σ : fg_St} {Q : Int32 → fg_St → Prop} {a0 : Int32} (H : (fg_kd σ.1 = 6 ∧ (∃ P, fg_Run d 34 0 [some (.ref σ.1), some (.int a0)] [] σ P ∧ ∀ x1 u2, P x1 u2 → ((¬ x1 = 0 → (∃ P, fg_Run d 98 0 [some (.ref 0), some (.int a0), none] [] u2 P ∧ ∀ x3 u4, P x3 u4 → ((x3 = 0 → Q 0 u4) ∧ (¬ (x3 = 0) → Q 1 u4)))) ∧ (x1 = 0 → Q (-1000000001) u2))))) : fg_Run (d + 1) 77 0 [some (.ref 0), some (.int a0)] [] σ Q := fg_blk [0] 12 (⟨rfl, ⟨fg_cls H.1 rfl, (match H.2 with | ⟨z979, z980, z981f⟩ => ⟨z979, z980, fun x1 u2 z981p => ⟨fun z982 => ⟨rfl, (match ((z981f x1 u2 z981p).1 z982) with | ⟨z984, z985, z986f⟩ => ⟨z984, z985, fun x3 u4 z986p => ⟨fun z987 => ((z986f x3 u4 z986p).1 z987), fun z988 => ((z986f x3 u4 z986p).2 z988)⟩⟩)⟩, fun z983 => ((z981f x1 u2 z981p).2 (Classical.not_not.mp z983))⟩⟩)⟩⟩)
set_option maxRecDepth 100000 in
theorem b_FS_turns_0 {d : Nat} {σ : fg_St} {Q : Int32 → fg_St → Prop} {a0 : Int32} {a1 : Int32} (H : (fg_kd σ.1 = 6 ∧ (∃ P, fg_Run d 34 0 [some (.ref σ.1), some (.int a0)] [] σ P ∧ ∀ x1 u2, P x1 u2 → ((¬ x1 = 0 → ((a1 < 0 → Q (-1000000002) u2) ∧ (¬ (a1 < 0) → ((a1 ≤ 1 → ((¬ a0 = 0 → (∃ P, fg_Run d 54 0 [some (.ref 33), some (.ref u2.1), some (.ref 31), some (.int (fg_F u2 15 7)), none, none] [] u2 P ∧ ∀ x3 u4, P x3 u4 → (((a0 &&& ((fg_F u4 33 3) ^^^ (-1))) = 0 → (∃ P, fg_Run d 99 0 [some (.ref 0), some (.int a0), none] [] u4 P ∧ ∀ x5 u6, P x5 u6 → (∃ P, fg_Run d 26 0 [some (.ref 37), some (.int a0), none] [] u6 P ∧ ∀ x7 u8, P x7 u8 → ((¬ a1 = 0 → (∃ P, fg_Run d 28 0 [some (.ref 37), some (.int a0), none] [] u8 P ∧ ∀ x9 u10, P x9 u10 → Q x9 u10)) ∧ (a1 = 0 → (vp_in a0 1024 ∧ Q (fg_R u8 39 a0.toNatClampNeg) u8)))))) ∧ (¬ ((a0 &&& ((fg_F u4 33 3) ^^^ (-1))) = 0) → Q (-1) u4)))) ∧ (a0 = 0 → ((¬ a1 = 0 → Q (-1) u2) ∧ (a1 = 0 → Q 0 u2))))) ∧ (¬ (a1 ≤ 1) → Q (-1000000002) u2))))) ∧ (x1 = 0 → Q (-1000000001) u2))))) : fg_Run (d + 1) 78 0 [some (.ref 0), some (.int a0), some (.int a1)] [] σ Q := fg_blk [0] 46 (⟨rfl, ⟨fg_cls H.1 rfl, (match H.2 with | ⟨z989, z990, z991f⟩ => ⟨z989, z990, fun x1 u2 z991p => ⟨fun z992 => ⟨fun z994 => (((z991f x1 u2 z991p).1 z992).1 z994), fun z995 => ⟨fun z996 => ⟨fun z998 => ⟨rfl, ⟨rfl, ⟨rfl, ⟨rfl, ⟨rfl, ⟨rfl, (match (((((z991f x1 u2 z991p).1 z992).2 z995).1 z996).1 z998) with | ⟨z1000, z1001, z1002f⟩ => ⟨z1000, z1001, fun x3 u4 z1002p => ⟨rfl, ⟨rfl, ⟨fun z1003 => ⟨rfl, (match ((z1002f x3 u4 z1002p).1 z1003) with | ⟨z1005, z1006, z1007f⟩ => ⟨z1005, z1006, fun x5 u6 z1007p => ⟨rfl, ⟨rfl, (match (z1007f x5 u6 z1007p) with | ⟨z1008, z1009, z1010f⟩ => ⟨z1008, z1009, fun x7 u8 z1010p => ⟨fun z1011 => ⟨rfl, ⟨rfl, (match ((z1010f x7 u8 z1010p).1 z1011) with | ⟨z1013, z1014, z1015f⟩ => ⟨z1013, z1014, fun x9 u10 z1015p => (z1015f x9 u10 z1015p)⟩)⟩⟩, fun z1012 => ⟨rfl, ⟨rfl, ⟨rfl, ⟨((z1010f x7 u8 z1010p).2 (Classical.not_not.mp z1012)).1, ((z1010f x7 u8 z1010p).2 (Classical.not_not.mp z1012)).2⟩⟩⟩⟩⟩⟩)⟩⟩⟩)⟩, fun z1004 => ((z1002f x3 u4 z1002p).2 z1004)⟩⟩⟩⟩)⟩⟩⟩⟩⟩⟩, fun z999 => ⟨fun z1016 => ((((((z991f x1 u2 z991p).1 z992).2 z995).1 z996).2 (Classical.not_not.mp z999)).1 z1016), fun z1017 => ((((((z991f x1 u2 z991p).1 z992).2 z995).1 z996).2 (Classical.not_not.mp z999)).2 (Classical.not_not.mp z1017))⟩⟩, fun z997 => ((((z991f x1 u2 z991p).1 z992).2 z995).2 z997)⟩⟩, fun z993 => ((z991f x1 u2 z991p).2 (Classical.not_not.mp z993))⟩⟩)⟩⟩)
set_option maxRecDepth 100000 in
theorem b_FS_clear_0 {d : Nat} {σ : fg_St} {Q : Int32 → fg_St → Prop} {a0 : Int32} {a1 : Int32} (H : ((a0 < 0 → Q (-1000000002) σ) ∧ (¬ (a0 < 0) → ((60 < a0 → Q (-1000000002) σ) ∧ (¬ (60 < a0) → ((a1 < 0 → Q (-1000000002) σ) ∧ (¬ (a1 < 0) → ((a1 ≤ 100 → fg_Run d 79 30 [none, some (.int a0), some (.int a1), some (.long 1000000000), none, some (.int 0)] [] σ Q) ∧ (¬ (a1 ≤ 100) → Q (-1000000002) σ))))))))) : fg_Run d 79 0 [some (.ref 0), some (.int a0), some (.int a1), none, none, none] [] σ Q := fg_blk [0, 30] 15 (⟨fun z1018 => (H.1 z1018), fun z1019 => ⟨fun z1020 => ((H.2 z1019).1 z1020), fun z1021 => ⟨fun z1022 => (((H.2 z1019).2 z1021).1 z1022), fun z1023 => ⟨fun z1024 => (fg_Run.drop (L := [none, some _, some _, some _, none, some _]) ⟨trivial, ⟨rfl, ⟨rfl, ⟨rfl, ⟨trivial, ⟨rfl, trivial⟩⟩⟩⟩⟩⟩ ((((H.2 z1019).2 z1021).2 z1023).1 z1024)), fun z1025 => ((((H.2 z1019).2 z1021).2 z1023).2 z1025)⟩⟩⟩⟩)
set_option maxRecDepth 100000 in
theorem b_FS_clear_30 {d : Nat} {σ : fg_St} {Q : Int32 → fg_St → Prop} {y1 : Int32} {y2 : Int32} {y3 : Int64} {y5 : Int32} (H : ((y1 ≤ y5 → Q y3.toInt32 σ) ∧ (¬ (y1 ≤ y5) → fg_Run d 79 30 [none, some (.int y1), some (.int y2), some (.long ((y3 * y2.toInt64) / 100)), none, some (.int (y5 + 1))] [] σ Q))) : fg_Run d 79 30 [none, some (.int y1), some (.int y2), some (.long y3), none, some (.int y5)] [] σ Q := fg_blk [0, 30] 13 (⟨fun z1026 => (H.1 z1026), fun z1027 => ⟨(by decide), (H.2 z1027)⟩⟩)
set_option maxRecDepth 100000 in
theorem b_FS_read_0 {d : Nat} {σ : fg_St} {Q : Int32 → fg_St → Prop} {a0 : Int32} {a1 : Int32} (H : (fg_kd σ.1 = 6 ∧ (∃ P, fg_Run d 33 0 [some (.ref σ.1), some (.int a0)] [] σ P ∧ ∀ x1 u2, P x1 u2 → ((x1 = 0 → Q (-1000000001) u2) ∧ (¬ (x1 = 0) → (fg_kd u2.1 = 6 ∧ (∃ P, fg_Run d 33 0 [some (.ref u2.1), some (.int a1)] [] u2 P ∧ ∀ x3 u4, P x3 u4 → ((¬ x3 = 0 → (∃ P, fg_Run d 17 0 [some (.ref 26), some (.int a0), some (.int a1)] [] u4 P ∧ ∀ x5 u6, P x5 u6 → ((x5 = 0 → Q (-1000000004) u6) ∧ (¬ (x5 = 0) → Q (fg_F u6 26 4) u6)))) ∧ (x3 = 0 → Q (-1000000001) u4))))))))) : fg_Run (d + 1) 80 0 [some (.ref 0), some (.int a0), some (.int a1)] [] σ Q := fg_blk [0] 21 (⟨rfl, ⟨fg_cls H.1 rfl, (match H.2 with | ⟨z1028, z1029, z1030f⟩ => ⟨z1028, z1029, fun x1 u2 z1030p => ⟨fun z1031 => ((z1030f x1 u2 z1030p).1 z1031), fun z1032 => ⟨rfl, ⟨fg_cls ((z1030f x1 u2 z1030p).2 z1032).1 rfl, (match ((z1030f x1 u2 z1030p).2 z1032).2 with | ⟨z1033, z1034, z1035f⟩ => ⟨z1033, z1034, fun x3 u4 z1035p => ⟨fun z1036 => ⟨rfl, ⟨rfl, (match ((z1035f x3 u4 z1035p).1 z1036) with | ⟨z1038, z1039, z1040f⟩ => ⟨z1038, z1039, fun x5 u6 z1040p => ⟨fun z1041 => ((z1040f x5 u6 z1040p).1 z1041), fun z1042 => ⟨rfl, ⟨rfl, ((z1040f x5 u6 z1040p).2 z1042)⟩⟩⟩⟩)⟩⟩, fun z1037 => ((z1035f x3 u4 z1035p).2 (Classical.not_not.mp z1037))⟩⟩)⟩⟩⟩⟩)⟩⟩)
set_option maxRecDepth 100000 in
theorem b_FS_write_0 {d : Nat} {σ : fg_St} {Q : Int32 → fg_St → Prop} {a0 : Int32} {a1 : Int32} (H : (fg_kd σ.1 = 6 ∧ (∃ P, fg_Run d 31 0 [some (.ref σ.1), some (.int a0)] [] σ P ∧ ∀ x1 u2, P x1 u2 → ((x1 = 0 → Q (-1000000001) u2) ∧ (¬ (x1 = 0) → ((a1 = (-1) → (∃ P, fg_Run d 18 0 [some (.ref 26), some (.int a0), some (.int a1)] [] u2 P ∧ ∀ x3 u4, P x3 u4 → ((x3 = 0 → Q (-1000000004) u4) ∧ (¬ (x3 = 0) → Q (fg_F u4 26 5) u4)))) ∧ (¬ (a1 = (-1)) → (fg_kd u2.1 = 6 ∧ (∃ P, fg_Run d 33 0 [some (.ref u2.1), some (.int a1)] [] u2 P ∧ ∀ x5 u6, P x5 u6 → ((¬ x5 = 0 → (∃ P, fg_Run d 18 0 [some (.ref 26), some (.int a0), some (.int a1)] [] u6 P ∧ ∀ x7 u8, P x7 u8 → ((x7 = 0 → Q (-1000000004) u8) ∧ (¬ (x7 = 0) → Q (fg_F u8 26 5) u8)))) ∧ (x5 = 0 → Q (-1000000001) u6))))))))))) : fg_Run (d + 1) 81 0 [some (.ref 0), some (.int a0), some (.int a1)] [] σ Q := fg_blk [0] 24 (⟨rfl, ⟨fg_cls H.1 rfl, (match H.2 with | ⟨z1043, z1044, z1045f⟩ => ⟨z1043, z1044, fun x1 u2 z1045p => ⟨fun z1046 => ((z1045f x1 u2 z1045p).1 z1046), fun z1047 => ⟨fun z1048 => ⟨rfl, ⟨rfl, (match (((z1045f x1 u2 z1045p).2 z1047).1 z1048) with | ⟨z1050, z1051, z1052f⟩ => ⟨z1050, z1051, fun x3 u4 z1052p => ⟨fun z1053 => ((z1052f x3 u4 z1052p).1 z1053), fun z1054 => ⟨rfl, ⟨rfl, ((z1052f x3 u4 z1052p).2 z1054)⟩⟩⟩⟩)⟩⟩, fun z1049 => ⟨rfl, ⟨fg_cls (((z1045f x1 u2 z1045p).2 z1047).2 z1049).1 rfl, (match (((z1045f x1 u2 z1045p).2 z1047).2 z1049).2 with | ⟨z1055, z1056, z1057f⟩ => ⟨z1055, z1056, fun x5 u6 z1057p => ⟨fun z1058 => ⟨rfl, ⟨rfl, (match ((z1057f x5 u6 z1057p).1 z1058) with | ⟨z1060, z1061, z1062f⟩ => ⟨z1060, z1061, fun x7 u8 z1062p => ⟨fun z1063 => ((z1062f x7 u8 z1062p).1 z1063), fun z1064 => ⟨rfl, ⟨rfl, ((z1062f x7 u8 z1062p).2 z1064)⟩⟩⟩⟩)⟩⟩, fun z1059 => ((z1057f x5 u6 z1057p).2 (Classical.not_not.mp z1059))⟩⟩)⟩⟩⟩⟩⟩)⟩⟩)
set_option maxRecDepth 100000 in
theorem b_FS_tear_0 {d : Nat} {σ : fg_St} {Q : Int32 → fg_St → Prop} (H : (∃ P, fg_Run d 19 0 [some (.ref 26)] [] σ P ∧ ∀ x1 u2, P x1 u2 → Q ((fg_F σ 26 4) + (fg_F σ 26 5)) u2)) : fg_Run (d + 1) 82 0 [some (.ref 0), none] [] σ Q := fg_blk [0] 13 (⟨rfl, ⟨rfl, ⟨rfl, ⟨rfl, ⟨rfl, ⟨rfl, (match H with | ⟨z1065, z1066, z1067f⟩ => ⟨z1065, z1066, fun x1 u2 z1067p => (z1067f x1 u2 z1067p)⟩)⟩⟩⟩⟩⟩⟩)
set_option maxRecDepth 100000 in
theorem b_FS_judge_0 {d : Nat} {σ : fg_St} {Q : Int32 → fg_St → Prop} (H : (∃ P, fg_Run d 21 0 [some (.ref 26), some (.ref 15), none, none] [] σ P ∧ ∀ x1 u2, P x1 u2 → Q x1 u2)) : fg_Run (d + 1) 83 0 [some (.ref 0)] [] σ Q := fg_blk [0] 6 (⟨rfl, ⟨rfl, ⟨rfl, (match H with | ⟨z1068, z1069, z1070f⟩ => ⟨z1068, z1069, fun x1 u2 z1070p => (z1070f x1 u2 z1070p)⟩)⟩⟩⟩)
set_option maxRecDepth 100000 in
theorem b_FS_seed_0 {d : Nat} {σ : fg_St} {Q : Int32 → fg_St → Prop} {a0 : Int32} (H : ((0 ≤ a0 → Q (fg_F σ 0 12) (fg_sF σ 0 12 a0)) ∧ (¬ (0 ≤ a0) → Q (-1000000002) σ))) : fg_Run d 84 0 [some (.ref 0), some (.int a0), none] [] σ Q := fg_blk [0] 10 (⟨fun z1071 => ⟨rfl, ⟨rfl, (H.1 z1071)⟩⟩, fun z1072 => (H.2 z1072)⟩)
set_option maxRecDepth 100000 in
theorem b_FS_keep_0 {d : Nat} {σ : fg_St} {Q : Int32 → fg_St → Prop} {a0 : Int32} (H : ((a0 < 0 → Q (-1000000001) σ) ∧ (¬ (a0 < 0) → ((a0 < 2 → (vp_in a0 2 ∧ (fg_kd (41 + 9 * a0.toNatClampNeg) = 1 ∧ (fg_kd (fg_pt σ (41 + 9 * a0.toNatClampNeg) 0) = 0 ∧ (∃ P, fg_Run d 1 0 [some (.ref (fg_pt σ (41 + 9 * a0.toNatClampNeg) 0)), some (.ref 15)] [] σ P ∧ ∀ x1 u2, P x1 u2 → (vp_in a0 2 ∧ (fg_kd (41 + 9 * a0.toNatClampNeg) = 1 ∧ (vp_in a0 2 ∧ (fg_kd (41 + 9 * a0.toNatClampNeg) = 1 ∧ (∃ P, fg_Run d 24 0 [some (.ref 23)] [] (fg_sF (fg_sF u2 (41 + 9 * a0.toNatClampNeg) 1 (fg_F u2 0 12)) (41 + 9 * a0.toNatClampNeg) 2 1) P ∧ ∀ x3 u4, P x3 u4 → Q 1 u4)))))))))) ∧ (¬ (a0 < 2) → Q (-1000000001) σ))))) : fg_Run (d + 1) 85 0 [some (.ref 0), some (.int a0)] [] σ Q := fg_blk [0] 33 (⟨fun z1073 => (H.1 z1073), fun z1074 => ⟨rfl, ⟨⟨Nat.le_of_ble_eq_true rfl, Nat.le_of_ble_eq_true rfl⟩, ⟨fun z1075 => ⟨rfl, ⟨Or.inr rfl, ⟨((H.2 z1074).1 z1075).1, ⟨((H.2 z1074).1 z1075).2.1, ⟨rfl, ⟨fg_cls ((H.2 z1074).1 z1075).2.2.1 rfl, (match ((H.2 z1074).1 z1075).2.2.2 with | ⟨z1077, z1078, z1079f⟩ => ⟨z1077, z1078, fun x1 u2 z1079p => ⟨rfl, ⟨Or.inr rfl, ⟨(z1079f x1 u2 z1079p).1, ⟨rfl, ⟨(z1079f x1 u2 z1079p).2.1, ⟨rfl, ⟨Or.inr rfl, ⟨(z1079f x1 u2 z1079p).2.2.1, ⟨(z1079f x1 u2 z1079p).2.2.2.1, ⟨(by decide), ⟨rfl, ⟨rfl, (match (z1079f x1 u2 z1079p).2.2.2.2 with | ⟨z1080, z1081, z1082f⟩ => ⟨z1080, z1081, fun x3 u4 z1082p => (z1082f x3 u4 z1082p)⟩)⟩⟩⟩⟩⟩⟩⟩⟩⟩⟩⟩⟩⟩)⟩⟩⟩⟩⟩⟩, fun z1076 => ((H.2 z1074).2 z1076)⟩⟩⟩⟩)
set_option maxRecDepth 100000 in
theorem b_FS_goBack_0 {d : Nat} {σ : fg_St} {Q : Int32 → fg_St → Prop} {a0 : Int32} (H : ((a0 < 0 → Q (-1000000001) σ) ∧ (¬ (a0 < 0) → ((a0 < 2 → (vp_in a0 2 ∧ (fg_kd (41 + 9 * a0.toNatClampNeg) = 1 ∧ ((¬ (fg_F σ (41 + 9 * a0.toNatClampNeg) 2) = 0 → (vp_in a0 2 ∧ (fg_kd (41 + 9 * a0.toNatClampNeg) = 1 ∧ (∃ P, fg_Run d 1 0 [some (.ref 15), some (.ref (fg_pt σ (41 + 9 * a0.toNatClampNeg) 0))] [] σ P ∧ ∀ x1 u2, P x1 u2 → (vp_in a0 2 ∧ (fg_kd (41 + 9 * a0.toNatClampNeg) = 1 ∧ (∃ P, fg_Run d 24 0 [some (.ref 23)] [] (fg_sF u2 0 12 (fg_F u2 (41 + 9 * a0.toNatClampNeg) 1)) P ∧ ∀ x3 u4, P x3 u4 → Q 1 u4))))))) ∧ ((fg_F σ (41 + 9 * a0.toNatClampNeg) 2) = 0 → Q (-1000000003) σ))))) ∧ (¬ (a0 < 2) → Q (-1000000001) σ))))) : fg_Run (d + 1) 86 0 [some (.ref 0), some (.int a0)] [] σ Q := fg_blk [0] 33 (⟨fun z1083 => (H.1 z1083), fun z1084 => ⟨rfl, ⟨⟨Nat.le_of_ble_eq_true rfl, Nat.le_of_ble_eq_true rfl⟩, ⟨fun z1085 => ⟨rfl, ⟨Or.inr rfl, ⟨((H.2 z1084).1 z1085).1, ⟨((H.2 z1084).1 z1085).2.1, ⟨fun z1087 => ⟨rfl, ⟨rfl, ⟨Or.inr rfl, ⟨(((H.2 z1084).1 z1085).2.2.1 z1087).1, ⟨(((H.2 z1084).1 z1085).2.2.1 z1087).2.1, ⟨rfl, (match (((H.2 z1084).1 z1085).2.2.1 z1087).2.2 with | ⟨z1089, z1090, z1091f⟩ => ⟨z1089, z1090, fun x1 u2 z1091p => ⟨rfl, ⟨Or.inr rfl, ⟨(z1091f x1 u2 z1091p).1, ⟨(z1091f x1 u2 z1091p).2.1, ⟨rfl, ⟨rfl, ⟨rfl, (match (z1091f x1 u2 z1091p).2.2 with | ⟨z1092, z1093, z1094f⟩ => ⟨z1092, z1093, fun x3 u4 z1094p => (z1094f x3 u4 z1094p)⟩)⟩⟩⟩⟩⟩⟩⟩⟩)⟩⟩⟩⟩⟩⟩, fun z1088 => (((H.2 z1084).1 z1085).2.2.2 (Classical.not_not.mp z1088))⟩⟩⟩⟩⟩, fun z1086 => ((H.2 z1084).2 z1086)⟩⟩⟩⟩)
set_option maxRecDepth 100000 in
theorem b_FS_has_0 {d : Nat} {σ : fg_St} {Q : Int32 → fg_St → Prop} {a0 : Int32} {a1 : Int32} (H : ((((a0 >>> (a1 &&& 31)) &&& 1) = 0 → Q 0 σ) ∧ (¬ (((a0 >>> (a1 &&& 31)) &&& 1) = 0) → Q 1 σ))) : fg_Run d 87 0 [some (.int a0), some (.int a1)] [] σ Q := fg_blk [0] 9 (⟨fun z1095 => ⟨(by decide), (H.1 z1095)⟩, fun z1096 => ⟨(by decide), (H.2 z1096)⟩⟩)
set_option maxRecDepth 100000 in
theorem b_FS_canHoist_0 {d : Nat} {σ : fg_St} {Q : Int32 → fg_St → Prop} {a0 : Int32} {a1 : Int32} (H : (fg_kd σ.1 = 6 ∧ (∃ P, fg_Run d 31 0 [some (.ref σ.1), some (.int a0)] [] σ P ∧ ∀ x1 u2, P x1 u2 → ((x1 = 0 → Q 0 u2) ∧ (¬ (x1 = 0) → (vp_in a0 3 ∧ (((fg_R u2 21 a0.toNatClampNeg) = (-1) → (∃ P, fg_Run d 3 0 [some (.ref 15), some (.ref u2.1), none, none] [] u2 P ∧ ∀ x3 u4, P x3 u4 → (∃ P, fg_Run d 4 0 [some (.ref 15), some (.ref u4.1)] [] u4 P ∧ ∀ x5 u6, P x5 u6 → (∃ P, fg_Run d 13 0 [some (.ref 31), some (.int x3), some (.int x5)] [] u6 P ∧ ∀ x7 u8, P x7 u8 → (∃ P, fg_Run d 14 0 [some (.ref 31), some (.ref u8.1), some (.int a1), none, none, none, none] [] u8 P ∧ ∀ x9 u10, P x9 u10 → ((x9 = 0 ∨ x9 = 1) ∧ Q x9 u10)))))) ∧ (¬ ((fg_R u2 21 a0.toNatClampNeg) = (-1)) → Q 0 u2)))))))) : fg_Run (d + 1) 88 0 [some (.ref 0), some (.int a0), some (.int a1)] [] σ Q := fg_blk [0] 32 (⟨rfl, ⟨fg_cls H.1 rfl, (match H.2 with | ⟨z1097, z1098, z1099f⟩ => ⟨z1097, z1098, fun x1 u2 z1099p => ⟨fun z1100 => ⟨(by decide), ((z1099f x1 u2 z1099p).1 z1100)⟩, fun z1101 => ⟨rfl, ⟨rfl, ⟨rfl, ⟨((z1099f x1 u2 z1099p).2 z1101).1, ⟨fun z1102 => ⟨rfl, ⟨rfl, ⟨rfl, ⟨rfl, (match (((z1099f x1 u2 z1099p).2 z1101).2.1 z1102) with | ⟨z1104, z1105, z1106f⟩ => ⟨z1104, z1105, fun x3 u4 z1106p => ⟨rfl, ⟨rfl, ⟨rfl, (match (z1106f x3 u4 z1106p) with | ⟨z1107, z1108, z1109f⟩ => ⟨z1107, z1108, fun x5 u6 z1109p => ⟨rfl, (match (z1109f x5 u6 z1109p) with | ⟨z1110, z1111, z1112f⟩ => ⟨z1110, z1111, fun x7 u8 z1112p => ⟨rfl, ⟨rfl, ⟨rfl, (match (z1112f x7 u8 z1112p) with | ⟨z1113, z1114, z1115f⟩ => ⟨z1113, z1114, fun x9 u10 z1115p => ⟨(z1115f x9 u10 z1115p).1, (z1115f x9 u10 z1115p).2⟩⟩)⟩⟩⟩⟩)⟩⟩)⟩⟩⟩⟩)⟩⟩⟩⟩, fun z1103 => ⟨(by decide), (((z1099f x1 u2 z1099p).2 z1101).2.2 z1103)⟩⟩⟩⟩⟩⟩⟩⟩)⟩⟩)
set_option maxRecDepth 100000 in
theorem b_FS_refusedDays_0 {d : Nat} {σ : fg_St} {Q : Int32 → fg_St → Prop} {a0 : Int32} (H : ((a0 < 1 → Q (-1000000002) σ) ∧ (¬ (a0 < 1) → ((a0 ≤ 60 → (fg_kd σ.1 = 6 ∧ (∃ P, fg_Run d 30 0 [some (.ref σ.1)] [] σ P ∧ ∀ x1 u2, P x1 u2 → ((¬ x1 = 0 → (((fg_F u2 15 9) ≤ 9000 → Q 0 u2) ∧ (¬ ((fg_F u2 15 9) ≤ 9000) → Q (-1000000004) u2))) ∧ (x1 = 0 → Q (-1000000003) u2))))) ∧ (¬ (a0 ≤ 60) → Q (-1000000002) σ))))) : fg_Run (d + 1) 89 0 [some (.ref 0), some (.int a0)] [] σ Q := fg_blk [0] 18 (⟨fun z1116 => (H.1 z1116), fun z1117 => ⟨fun z1118 => ⟨rfl, ⟨fg_cls ((H.2 z1117).1 z1118).1 rfl, (match ((H.2 z1117).1 z1118).2 with | ⟨z1120, z1121, z1122f⟩ => ⟨z1120, z1121, fun x1 u2 z1122p => ⟨fun z1123 => ⟨rfl, ⟨rfl, ⟨fun z1125 => (((z1122f x1 u2 z1122p).1 z1123).1 z1125), fun z1126 => (((z1122f x1 u2 z1122p).1 z1123).2 z1126)⟩⟩⟩, fun z1124 => ((z1122f x1 u2 z1122p).2 (Classical.not_not.mp z1124))⟩⟩)⟩⟩, fun z1119 => ((H.2 z1117).2 z1119)⟩⟩)
set_option maxRecDepth 100000 in
theorem b_FS_draw_0 {d : Nat} {σ : fg_St} {Q : Int32 → fg_St → Prop} {a0 : Int32} (H : ((a0 ≤ 0 → Q 0 (fg_sF σ 0 12 ((((((fg_F σ 0 12).toInt64) * 1103515245) + 12345) &&& 2147483647).toInt32))) ∧ (¬ (a0 ≤ 0) → (¬ (a0 : Int32) = 0 ∧ Q ((((((((fg_F σ 0 12).toInt64) * 1103515245) + 12345) &&& 2147483647).toInt32) / 65536) - (((((((fg_F σ 0 12).toInt64) * 1103515245) + 12345) &&& 2147483647).toInt32) / 65536) / a0 * a0) (fg_sF σ 0 12 ((((((fg_F σ 0 12).toInt64) * 1103515245) + 12345) &&& 2147483647).toInt32)))))) : fg_Run d 90 0 [some (.ref 0), some (.int a0)] [] σ Q := fg_blk [0] 22 (⟨rfl, ⟨rfl, ⟨fun z1127 => (H.1 z1127), fun z1128 => ⟨rfl, ⟨(by decide), ⟨(H.2 z1128).1, (H.2 z1128).2⟩⟩⟩⟩⟩⟩)
set_option maxRecDepth 100000 in
theorem b_FS_actByDraws_0 {d : Nat} {σ : fg_St} {Q : Int32 → fg_St → Prop} (H : (∃ P, fg_Run d 90 0 [some (.ref 0), some (.int 5)] [] σ P ∧ ∀ x1 u2, P x1 u2 → (fg_kd u2.1 = 6 ∧ (∃ P, fg_Run d 90 0 [some (.ref 0), some (.int (fg_F u2 u2.1 0))] [] u2 P ∧ ∀ x3 u4, P x3 u4 → ((x1 = 0 → (∃ P, fg_Run d 92 0 [some (.ref 0), some (.int x3), none] [] u4 P ∧ ∀ x5 u6, P x5 u6 → Q 0 u6)) ∧ (¬ x1 = 0 → ((x1 = 1 → (∃ P, fg_Run d 92 0 [some (.ref 0), some (.int x3), none] [] u4 P ∧ ∀ x7 u8, P x7 u8 → Q 0 u8)) ∧ (¬ x1 = 1 → ((x1 = 2 → (fg_kd u4.1 = 6 ∧ (∃ P, fg_Run d 31 0 [some (.ref u4.1), some (.int x3)] [] u4 P ∧ ∀ x9 u10, P x9 u10 → ((x9 = 0 → Q 0 u10) ∧ (¬ (x9 = 0) → (vp_in x3 3 ∧ (((fg_R u10 21 x3.toNatClampNeg) = (-1) → Q 0 u10) ∧ (¬ ((fg_R u10 21 x3.toNatClampNeg) = (-1)) → (∃ P, fg_Run d 10 0 [some (.ref 15), some (.int x3), none, none, none] [] u10 P ∧ ∀ x11 u12, P x11 u12 → Q 0 u12))))))))) ∧ (¬ x1 = 2 → ((x1 = 3 → (∃ P, fg_Run d 90 0 [some (.ref 0), some (.int 3)] [] u4 P ∧ ∀ x13 u14, P x13 u14 → (∃ P, fg_Run d 90 0 [some (.ref 0), some (.int 2)] [] (fg_sF u14 15 10 x13) P ∧ ∀ x15 u16, P x15 u16 → Q 0 (fg_sF u16 15 11 x15)))) ∧ (¬ x1 = 3 → (∃ P, fg_Run d 93 0 [some (.ref 0), none] [] u4 P ∧ ∀ x17 u18, P x17 u18 → Q 0 u18))))))))))))) : fg_Run (d + 1) 91 0 [some (.ref 0), none, none] [] σ Q := fg_blk [0] 31 (⟨rfl, (match H with | ⟨z1129, z1130, z1131f⟩ => ⟨z1129, z1130, fun x1 u2 z1131p => ⟨rfl, ⟨(z1131f x1 u2 z1131p).1, ⟨rfl, (match (z1131f x1 u2 z1131p).2 with | ⟨z1132, z1133, z1134f⟩ => ⟨z1132, z1133, fun x3 u4 z1134p => ⟨fun z1135 => ⟨rfl, (match ((z1134f x3 u4 z1134p).1 z1135) with | ⟨z1137, z1138, z1139f⟩ => ⟨z1137, z1138, fun x5 u6 z1139p => (z1139f x5 u6 z1139p)⟩)⟩, fun z1136 => ⟨fun z1140 => ⟨rfl, (match (((z1134f x3 u4 z1134p).2 z1136).1 z1140) with | ⟨z1142, z1143, z1144f⟩ => ⟨z1142, z1143, fun x7 u8 z1144p => (z1144f x7 u8 z1144p)⟩)⟩, fun z1141 => ⟨fun z1145 => ⟨rfl, ⟨fg_cls ((((z1134f x3 u4 z1134p).2 z1136).2 z1141).1 z1145).1 rfl, (match ((((z1134f x3 u4 z1134p).2 z1136).2 z1141).1 z1145).2 with | ⟨z1147, z1148, z1149f⟩ => ⟨z1147, z1148, fun x9 u10 z1149p => ⟨fun z1150 => ((z1149f x9 u10 z1149p).1 z1150), fun z1151 => ⟨rfl, ⟨rfl, ⟨rfl, ⟨((z1149f x9 u10 z1149p).2 z1151).1, ⟨fun z1152 => (((z1149f x9 u10 z1149p).2 z1151).2.1 z1152), fun z1153 => ⟨rfl, ⟨rfl, (match (((z1149f x9 u10 z1149p).2 z1151).2.2 z1153) with | ⟨z1154, z1155, z1156f⟩ => ⟨z1154, z1155, fun x11 u12 z1156p => (z1156f x11 u12 z1156p)⟩)⟩⟩⟩⟩⟩⟩⟩⟩⟩)⟩⟩, fun z1146 => ⟨fun z1157 => ⟨rfl, ⟨rfl, (match (((((z1134f x3 u4 z1134p).2 z1136).2 z1141).2 z1146).1 z1157) with | ⟨z1159, z1160, z1161f⟩ => ⟨z1159, z1160, fun x13 u14 z1161p => ⟨rfl, ⟨rfl, ⟨rfl, (match (z1161f x13 u14 z1161p) with | ⟨z1162, z1163, z1164f⟩ => ⟨z1162, z1163, fun x15 u16 z1164p => ⟨rfl, (z1164f x15 u16 z1164p)⟩⟩)⟩⟩⟩⟩)⟩⟩, fun z1158 => ⟨rfl, (match (((((z1134f x3 u4 z1134p).2 z1136).2 z1141).2 z1146).2 z1158) with | ⟨z1165, z1166, z1167f⟩ => ⟨z1165, z1166, fun x17 u18 z1167p => (z1167f x17 u18 z1167p)⟩)⟩⟩⟩⟩⟩⟩)⟩⟩⟩⟩)⟩)
set_option maxRecDepth 100000 in
theorem b_FS_hoistDrawn_0 {d : Nat} {σ : fg_St} {Q : Int32 → fg_St → Prop} {a0 : Int32} (H : (fg_kd σ.1 = 6 ∧ ((¬ (fg_F σ σ.1 3) = 0 → (fg_kd σ.1 = 6 ∧ (∃ P, fg_Run d 90 0 [some (.ref 0), some (.int (fg_F σ σ.1 3))] [] σ P ∧ ∀ x1 u2, P x1 u2 → (∃ P, fg_Run d 88 0 [some (.ref 0), some (.int a0), some (.int x1)] [] u2 P ∧ ∀ x3 u4, P x3 u4 → ((x3 = 0 → Q 0 u4) ∧ (¬ (x3 = 0) → (∃ P, fg_Run d 9 0 [some (.ref 15), some (.int a0), some (.int x1), some (.ref 32), none, none, none] [] u4 P ∧ ∀ x5 u6, P x5 u6 → Q 0 u6))))))) ∧ ((fg_F σ σ.1 3) = 0 → Q 0 σ)))) : fg_Run (d + 1) 92 0 [some (.ref 0), some (.int a0), none] [] σ Q := fg_blk [0] 25 (⟨rfl, ⟨H.1, ⟨fun z1168 => ⟨rfl, ⟨(H.2.1 z1168).1, ⟨rfl, (match (H.2.1 z1168).2 with | ⟨z1170, z1171, z1172f⟩ => ⟨z1170, z1171, fun x1 u2 z1172p => ⟨rfl, (match (z1172f x1 u2 z1172p) with | ⟨z1173, z1174, z1175f⟩ => ⟨z1173, z1174, fun x3 u4 z1175p => ⟨fun z1176 => ((z1175f x3 u4 z1175p).1 z1176), fun z1177 => ⟨rfl, ⟨rfl, ⟨rfl, ⟨rfl, (match ((z1175f x3 u4 z1175p).2 z1177) with | ⟨z1178, z1179, z1180f⟩ => ⟨z1178, z1179, fun x5 u6 z1180p => (z1180f x5 u6 z1180p)⟩)⟩⟩⟩⟩⟩⟩)⟩⟩)⟩⟩⟩, fun z1169 => (H.2.2 (Classical.not_not.mp z1169))⟩⟩⟩)
set_option maxRecDepth 100000 in
theorem b_FS_sewDrawn_0 {d : Nat} {σ : fg_St} {Q : Int32 → fg_St → Prop} (H : (fg_kd σ.1 = 6 ∧ ((¬ (fg_F σ σ.1 2) = 0 → (fg_kd σ.1 = 6 ∧ (∃ P, fg_Run d 90 0 [some (.ref 0), some (.int (fg_F σ σ.1 2))] [] σ P ∧ ∀ x1 u2, P x1 u2 → (∃ P, fg_Run d 7 0 [some (.ref 15), some (.int x1)] [] u2 P ∧ ∀ x3 u4, P x3 u4 → ((x3 = 0 → Q 0 u4) ∧ (¬ (x3 = 0) → (∃ P, fg_Run d 8 0 [some (.ref 15), some (.int x1)] [] u4 P ∧ ∀ x5 u6, P x5 u6 → Q 0 u6))))))) ∧ ((fg_F σ σ.1 2) = 0 → Q 0 σ)))) : fg_Run (d + 1) 93 0 [some (.ref 0), none] [] σ Q := fg_blk [0] 20 (⟨rfl, ⟨H.1, ⟨fun z1181 => ⟨rfl, ⟨(H.2.1 z1181).1, ⟨rfl, (match (H.2.1 z1181).2 with | ⟨z1183, z1184, z1185f⟩ => ⟨z1183, z1184, fun x1 u2 z1185p => ⟨rfl, ⟨rfl, (match (z1185f x1 u2 z1185p) with | ⟨z1186, z1187, z1188f⟩ => ⟨z1186, z1187, fun x3 u4 z1188p => ⟨fun z1189 => ((z1188f x3 u4 z1188p).1 z1189), fun z1190 => ⟨rfl, ⟨rfl, (match ((z1188f x3 u4 z1188p).2 z1190) with | ⟨z1191, z1192, z1193f⟩ => ⟨z1191, z1192, fun x5 u6 z1193p => (z1193f x5 u6 z1193p)⟩)⟩⟩⟩⟩)⟩⟩⟩)⟩⟩⟩, fun z1182 => (H.2.2 (Classical.not_not.mp z1182))⟩⟩⟩)
set_option maxRecDepth 100000 in
theorem b_FS_readySignals_0 {d : Nat} {σ : fg_St} {Q : Int32 → fg_St → Prop} (H : fg_Run (d + 1) 94 4 [some (.ref 0), some (.int 0), some (.int 0)] [] σ Q) : fg_Run (d + 1) 94 0 [some (.ref 0), none, none] [] σ Q := fg_blk [0, 4] 5 (H)
set_option maxRecDepth 100000 in
theorem b_FS_readySignals_4 {d : Nat} {σ : fg_St} {Q : Int32 → fg_St → Prop} {y1 : Int32} {y2 : Int32} (H : (fg_kd σ.1 = 6 ∧ (((fg_F σ σ.1 3) ≤ y2 → Q y1 σ) ∧ (¬ ((fg_F σ σ.1 3) ≤ y2) → (∃ P, fg_Run d 3 0 [some (.ref 15), some (.ref σ.1), none, none] [] σ P ∧ ∀ x1 u2, P x1 u2 → (∃ P, fg_Run d 4 0 [some (.ref 15), some (.ref u2.1)] [] u2 P ∧ ∀ x3 u4, P x3 u4 → (∃ P, fg_Run d 13 0 [some (.ref 31), some (.int x1), some (.int x3)] [] u4 P ∧ ∀ x5 u6, P x5 u6 → (∃ P, fg_Run d 14 0 [some (.ref 31), some (.ref u6.1), some (.int y2), none, none, none, none] [] u6 P ∧ ∀ x7 u8, P x7 u8 → ((x7 = 0 → fg_Run (d + 1) 94 4 [some (.ref 0), some (.int y1), some (.int (y2 + 1))] [] u8 Q) ∧ (¬ (x7 = 0) → fg_Run (d + 1) 94 4 [some (.ref 0), some (.int (y1 ||| (1 <<< (y2 &&& 31)))), some (.int (y2 + 1))] [] u8 Q)))))))))) : fg_Run (d + 1) 94 4 [some (.ref 0), some (.int y1), some (.int y2)] [] σ Q := fg_blk [0, 4] 34 (⟨rfl, ⟨H.1, ⟨fun z1194 => (H.2.1 z1194), fun z1195 => ⟨rfl, ⟨rfl, ⟨rfl, ⟨rfl, (match (H.2.2 z1195) with | ⟨z1196, z1197, z1198f⟩ => ⟨z1196, z1197, fun x1 u2 z1198p => ⟨rfl, ⟨rfl, ⟨rfl, (match (z1198f x1 u2 z1198p) with | ⟨z1199, z1200, z1201f⟩ => ⟨z1199, z1200, fun x3 u4 z1201p => ⟨rfl, (match (z1201f x3 u4 z1201p) with | ⟨z1202, z1203, z1204f⟩ => ⟨z1202, z1203, fun x5 u6 z1204p => ⟨rfl, ⟨rfl, ⟨rfl, (match (z1204f x5 u6 z1204p) with | ⟨z1205, z1206, z1207f⟩ => ⟨z1205, z1206, fun x7 u8 z1207p => ⟨fun z1208 => ((z1207f x7 u8 z1207p).1 z1208), fun z1209 => ((z1207f x7 u8 z1207p).2 z1209)⟩⟩)⟩⟩⟩⟩)⟩⟩)⟩⟩⟩⟩)⟩⟩⟩⟩⟩⟩⟩)
set_option maxRecDepth 100000 in
theorem b_FS_watchIn_0 {d : Nat} {σ : fg_St} {Q : Int32 → fg_St → Prop} {a0 : Int32} (H : (∃ P, fg_Run d 54 0 [some (.ref 33), some (.ref σ.1), some (.ref 31), some (.int (fg_F σ 15 7)), none, none] [] σ P ∧ ∀ x1 u2, P x1 u2 → (∃ P, fg_Run d 55 0 [some (.ref 33), some (.ref u2.1), some (.ref 15), some (.int a0), none] [] u2 P ∧ ∀ x3 u4, P x3 u4 → Q 0 u4))) : fg_Run (d + 1) 95 0 [some (.ref 0), some (.int a0)] [] σ Q := fg_blk [0] 19 (⟨rfl, ⟨rfl, ⟨rfl, ⟨rfl, ⟨rfl, ⟨rfl, (match H with | ⟨z1210, z1211, z1212f⟩ => ⟨z1210, z1211, fun x1 u2 z1212p => ⟨rfl, ⟨rfl, ⟨rfl, ⟨rfl, (match (z1212f x1 u2 z1212p) with | ⟨z1213, z1214, z1215f⟩ => ⟨z1213, z1214, fun x3 u4 z1215p => (z1215f x3 u4 z1215p)⟩)⟩⟩⟩⟩⟩)⟩⟩⟩⟩⟩⟩)
set_option maxRecDepth 100000 in
theorem b_FS_clearNow_0 {d : Nat} {σ : fg_St} {Q : Int32 → fg_St → Prop} (H : (∃ P, fg_Run d 2 0 [some (.ref 15)] [] σ P ∧ ∀ x1 u2, P x1 u2 → (∃ P, fg_Run d 95 0 [some (.ref 0), some (.int x1)] [] u2 P ∧ ∀ x3 u4, P x3 u4 → (∃ P, fg_Run d 59 0 [some (.ref 33), some (.ref u4.1), none, none, none] [] u4 P ∧ ∀ x5 u6, P x5 u6 → Q x5 u6)))) : fg_Run (d + 1) 96 0 [some (.ref 0)] [] σ Q := fg_blk [0] 11 (⟨rfl, ⟨rfl, (match H with | ⟨z1216, z1217, z1218f⟩ => ⟨z1216, z1217, fun x1 u2 z1218p => ⟨rfl, (match (z1218f x1 u2 z1218p) with | ⟨z1219, z1220, z1221f⟩ => ⟨z1219, z1220, fun x3 u4 z1221p => ⟨rfl, ⟨rfl, ⟨rfl, (match (z1221f x3 u4 z1221p) with | ⟨z1222, z1223, z1224f⟩ => ⟨z1222, z1223, fun x5 u6 z1224p => (z1224f x5 u6 z1224p)⟩)⟩⟩⟩⟩)⟩⟩)⟩⟩)
set_option maxRecDepth 100000 in
theorem b_FS_clearest_0 {d : Nat} {σ : fg_St} {Q : Int32 → fg_St → Prop} (H : (∃ P, fg_Run d 54 0 [some (.ref 33), some (.ref σ.1), some (.ref 31), some (.int (fg_F σ 15 7)), none, none] [] σ P ∧ ∀ x1 u2, P x1 u2 → fg_Run (d + 1) 97 28 [some (.ref 0), some (.int 0), some (.int (-1)), some (.int 0), none] [] u2 Q)) : fg_Run (d + 1) 97 0 [some (.ref 0), none, none, none, none] [] σ Q := fg_blk [0, 28] 17 (⟨rfl, ⟨rfl, ⟨rfl, ⟨rfl, ⟨rfl, ⟨rfl, (match H with | ⟨z1225, z1226, z1227f⟩ => ⟨z1225, z1226, fun x1 u2 z1227p => (z1227f x1 u2 z1227p)⟩)⟩⟩⟩⟩⟩⟩)
set_option maxRecDepth 100000 in
theorem b_FS_clearest_28 {d : Nat} {σ : fg_St} {Q : Int32 → fg_St → Prop} {y1 : Int32} {y2 : Int32} {y3 : Int32} (H : ((6 ≤ y3 → Q y1 σ) ∧ (¬ (6 ≤ y3) → (∃ P, fg_Run d 55 0 [some (.ref 33), some (.ref σ.1), some (.ref 15), some (.int y3), none] [] σ P ∧ ∀ x1 u2, P x1 u2 → (∃ P, fg_Run d 59 0 [some (.ref 33), some (.ref u2.1), none, none, none] [] u2 P ∧ ∀ x3 u4, P x3 u4 → (∃ P, fg_Run d 195 0 [some (.int x3)] [] u4 P ∧ ∀ x5 u6, P x5 u6 → ((x5 ≤ y2 → fg_Run (d + 1) 97 28 [some (.ref 0), some (.int y1), some (.int y2), some (.int (y3 + 1)), none] [] u6 Q) ∧ (¬ (x5 ≤ y2) → fg_Run (d + 1) 97 28 [some (.ref 0), some (.int y3), some (.int x5), some (.int (y3 + 1)), none] [] u6 Q)))))))) : fg_Run (d + 1) 97 28 [some (.ref 0), some (.int y1), some (.int y2), some (.int y3), none] [] σ Q := fg_blk [0, 28] 28 (⟨fun z1228 => (H.1 z1228), fun z1229 => ⟨rfl, ⟨rfl, ⟨rfl, ⟨rfl, (match (H.2 z1229) with | ⟨z1230, z1231, z1232f⟩ => ⟨z1230, z1231, fun x1 u2 z1232p => ⟨rfl, ⟨rfl, ⟨rfl, (match (z1232f x1 u2 z1232p) with | ⟨z1233, z1234, z1235f⟩ => ⟨z1233, z1234, fun x3 u4 z1235p => (match (z1235f x3 u4 z1235p) with | ⟨z1236, z1237, z1238f⟩ => ⟨z1236, z1237, fun x5 u6 z1238p => ⟨fun z1239 => (fg_Run.drop (L := [some _, some _, some _, some _, none]) ⟨rfl, ⟨rfl, ⟨rfl, ⟨rfl, ⟨trivial, trivial⟩⟩⟩⟩⟩ ((z1238f x5 u6 z1238p).1 z1239)), fun z1240 => (fg_Run.drop (L := [some _, some _, some _, some _, none]) ⟨rfl, ⟨rfl, ⟨rfl, ⟨rfl, ⟨trivial, trivial⟩⟩⟩⟩⟩ ((z1238f x5 u6 z1238p).2 z1240))⟩⟩)⟩)⟩⟩⟩⟩)⟩⟩⟩⟩⟩)
set_option maxRecDepth 100000 in
theorem b_FS_flyTogether_0 {d : Nat} {σ : fg_St} {Q : Int32 → fg_St → Prop} {a0 : Int32} (H : (∃ P, fg_Run d 195 0 [some (.int a0)] [] σ P ∧ ∀ x1 u2, P x1 u2 → (fg_kd u2.1 = 6 ∧ ((x1 ≤ (fg_F u2 u2.1 0) → (fg_kd u2.1 = 6 ∧ (∃ P, fg_Run d 36 0 [some (.ref u2.1)] [] u2 P ∧ ∀ x3 u4, P x3 u4 → (fg_kd u4.1 = 6 ∧ (∃ P, fg_Run d 37 0 [some (.ref u4.1)] [] u4 P ∧ ∀ x5 u6, P x5 u6 → (∃ P, fg_Run d 13 0 [some (.ref 31), some (.int (x3 &&& ((fg_F u4 15 7) ^^^ (-1)))), some (.int x5)] [] u6 P ∧ ∀ x7 u8, P x7 u8 → fg_Run (d + 1) 98 49 [some (.ref 0), some (.int a0), some (.int 0)] [] u8 Q)))))) ∧ (¬ (x1 ≤ (fg_F u2 u2.1 0)) → Q 0 u2))))) : fg_Run (d + 1) 98 0 [some (.ref 0), some (.int a0), none] [] σ Q := fg_blk [0, 49] 24 ((match H with | ⟨z1241, z1242, z1243f⟩ => ⟨z1241, z1242, fun x1 u2 z1243p => ⟨rfl, ⟨(z1243f x1 u2 z1243p).1, ⟨fun z1244 => ⟨rfl, ⟨rfl, ⟨fg_cls ((z1243f x1 u2 z1243p).2.1 z1244).1 rfl, (match ((z1243f x1 u2 z1243p).2.1 z1244).2 with | ⟨z1246, z1247, z1248f⟩ => ⟨z1246, z1247, fun x3 u4 z1248p => ⟨rfl, ⟨rfl, ⟨rfl, ⟨fg_cls (z1248f x3 u4 z1248p).1 rfl, (match (z1248f x3 u4 z1248p).2 with | ⟨z1249, z1250, z1251f⟩ => ⟨z1249, z1250, fun x5 u6 z1251p => ⟨rfl, (match (z1251f x5 u6 z1251p) with | ⟨z1252, z1253, z1254f⟩ => ⟨z1252, z1253, fun x7 u8 z1254p => (z1254f x7 u8 z1254p)⟩)⟩⟩)⟩⟩⟩⟩⟩)⟩⟩⟩, fun z1245 => ⟨(by decide), ((z1243f x1 u2 z1243p).2.2 z1245)⟩⟩⟩⟩⟩))
set_option maxRecDepth 100000 in
theorem b_FS_flyTogether_49 {d : Nat} {σ : fg_St} {Q : Int32 → fg_St → Prop} {y1 : Int32} {y2 : Int32} (H : (fg_kd σ.1 = 6 ∧ (((fg_F σ σ.1 3) ≤ y2 → Q 1 σ) ∧ (¬ ((fg_F σ σ.1 3) ≤ y2) → (∃ P, fg_Run d 87 0 [some (.int y1), some (.int y2)] [] σ P ∧ ∀ x1 u2, P x1 u2 → ((x1 = 0 → fg_Run (d + 1) 98 49 [some (.ref 0), some (.int y1), some (.int (y2 + 1))] [] u2 Q) ∧ (¬ (x1 = 0) → (∃ P, fg_Run d 14 0 [some (.ref 31), some (.ref u2.1), some (.int y2), none, none, none, none] [] u2 P ∧ ∀ x3 u4, P x3 u4 → ((¬ x3 = 0 → fg_Run (d + 1) 98 49 [some (.ref 0), some (.int y1), some (.int (y2 + 1))] [] u4 Q) ∧ (x3 = 0 → Q 0 u4)))))))))) : fg_Run (d + 1) 98 49 [some (.ref 0), some (.int y1), some (.int y2)] [] σ Q := fg_blk [0, 49] 19 (⟨rfl, ⟨H.1, ⟨fun z1255 => ⟨(by decide), (H.2.1 z1255)⟩, fun z1256 => (match (H.2.2 z1256) with | ⟨z1257, z1258, z1259f⟩ => ⟨z1257, z1258, fun x1 u2 z1259p => ⟨fun z1260 => ((z1259f x1 u2 z1259p).1 z1260), fun z1261 => ⟨rfl, ⟨rfl, ⟨rfl, (match ((z1259f x1 u2 z1259p).2 z1261) with | ⟨z1262, z1263, z1264f⟩ => ⟨z1262, z1263, fun x3 u4 z1264p => ⟨fun z1265 => ((z1264f x3 u4 z1264p).1 z1265), fun z1266 => ⟨(by decide), ((z1264f x3 u4 z1264p).2 (Classical.not_not.mp z1266))⟩⟩⟩)⟩⟩⟩⟩⟩)⟩⟩⟩)
set_option maxRecDepth 100000 in
theorem b_FS_groupWithin_0 {d : Nat} {σ : fg_St} {Q : Int32 → fg_St → Prop} {a0 : Int32} (H : fg_Run (d + 1) 99 2 [some (.ref 0), some (.int a0), some (.int 0)] [] σ Q) : fg_Run (d + 1) 99 0 [some (.ref 0), some (.int a0), none] [] σ Q := fg_blk [0, 2] 3 (H)
set_option maxRecDepth 100000 in
theorem b_FS_groupWithin_2 {d : Nat} {σ : fg_St} {Q : Int32 → fg_St → Prop} {y1 : Int32} {y2 : Int32} (H : ((1024 ≤ y2 → Q 0 σ) ∧ (¬ (1024 ≤ y2) → ((¬ (y2 &&& (y1 ^^^ (-1))) = 0 → (vp_in y2 1024 ∧ fg_Run (d + 1) 99 2 [some (.ref 0), some (.int y1), some (.int (y2 + 1))] [] (fg_sR σ 38 y2.toNatClampNeg 0) Q)) ∧ ((y2 &&& (y1 ^^^ (-1))) = 0 → (∃ P, fg_Run d 98 0 [some (.ref 0), some (.int y2), none] [] σ P ∧ ∀ x1 u2, P x1 u2 → ((x1 = 0 → (vp_in y2 1024 ∧ fg_Run (d + 1) 99 2 [some (.ref 0), some (.int y1), some (.int (y2 + 1))] [] (fg_sR u2 38 y2.toNatClampNeg 0) Q)) ∧ (¬ (x1 = 0) → (vp_in y2 1024 ∧ fg_Run (d + 1) 99 2 [some (.ref 0), some (.int y1), some (.int (y2 + 1))] [] (fg_sR u2 38 y2.toNatClampNeg 1) Q))))))))) : fg_Run (d + 1) 99 2 [some (.ref 0), some (.int y1), some (.int y2)] [] σ Q := fg_blk [0, 2] 23 (⟨fun z1267 => (H.1 z1267), fun z1268 => ⟨rfl, ⟨rfl, ⟨fun z1269 => ⟨rfl, ⟨((H.2 z1268).1 z1269).1, ⟨(by decide), ((H.2 z1268).1 z1269).2⟩⟩⟩, fun z1270 => ⟨rfl, (match ((H.2 z1268).2 (Classical.not_not.mp z1270)) with | ⟨z1271, z1272, z1273f⟩ => ⟨z1271, z1272, fun x1 u2 z1273p => ⟨fun z1274 => ⟨rfl, ⟨((z1273f x1 u2 z1273p).1 z1274).1, ⟨(by decide), ((z1273f x1 u2 z1273p).1 z1274).2⟩⟩⟩, fun z1275 => ⟨rfl, ⟨((z1273f x1 u2 z1273p).2 z1275).1, ⟨(by decide), ((z1273f x1 u2 z1273p).2 z1275).2⟩⟩⟩⟩⟩)⟩⟩⟩⟩⟩)
set_option maxRecDepth 100000 in
theorem b_FS_mostTogether_0 {d : Nat} {σ : fg_St} {Q : Int32 → fg_St → Prop} (H : (fg_kd σ.1 = 6 ∧ (∃ P, fg_Run d 35 0 [some (.ref σ.1)] [] σ P ∧ ∀ x1 u2, P x1 u2 → (∃ P, fg_Run d 99 0 [some (.ref 0), some (.int x1), none] [] u2 P ∧ ∀ x3 u4, P x3 u4 → (∃ P, fg_Run d 25 0 [some (.ref 37), none, none] [] u4 P ∧ ∀ x5 u6, P x5 u6 → Q x5 u6))))) : fg_Run (d + 1) 100 0 [some (.ref 0)] [] σ Q := fg_blk [0] 9 (⟨rfl, ⟨fg_cls H.1 rfl, (match H.2 with | ⟨z1276, z1277, z1278f⟩ => ⟨z1276, z1277, fun x1 u2 z1278p => ⟨rfl, (match (z1278f x1 u2 z1278p) with | ⟨z1279, z1280, z1281f⟩ => ⟨z1279, z1280, fun x3 u4 z1281p => ⟨rfl, ⟨rfl, (match (z1281f x3 u4 z1281p) with | ⟨z1282, z1283, z1284f⟩ => ⟨z1282, z1283, fun x5 u6 z1284p => (z1284f x5 u6 z1284p)⟩)⟩⟩⟩)⟩⟩)⟩⟩)
set_option maxRecDepth 100000 in
theorem b_FS_neededFlag_0 {d : Nat} {σ : fg_St} {Q : Int32 → fg_St → Prop} (H : fg_Run (d + 1) 101 6 [some (.ref 0), some (.int (-1)), some (.int (-1)), some (.int 0), none] [] σ Q) : fg_Run (d + 1) 101 0 [some (.ref 0), none, none, none, none] [] σ Q := fg_blk [0, 6] 7 (H)
set_option maxRecDepth 100000 in
theorem b_FS_neededFlag_6 {d : Nat} {σ : fg_St} {Q : Int32 → fg_St → Prop} {y1 : Int32} {y2 : Int32} {y3 : Int32} (H : (fg_kd σ.1 = 6 ∧ (((fg_F σ σ.1 2) ≤ y3 → Q y1 σ) ∧ (¬ ((fg_F σ σ.1 2) ≤ y3) → (fg_kd σ.1 = 6 ∧ (∃ P, fg_Run d 43 0 [some (.ref σ.1), some (.int y3), none, none, none] [] σ P ∧ ∀ x1 u2, P x1 u2 → (∃ P, fg_Run d 195 0 [some (.int x1)] [] u2 P ∧ ∀ x3 u4, P x3 u4 → ((x3 ≤ y2 → fg_Run (d + 1) 101 6 [some (.ref 0), some (.int y1), some (.int y2), some (.int (y3 + 1)), none] [] u4 Q) ∧ (¬ (x3 ≤ y2) → fg_Run (d + 1) 101 6 [some (.ref 0), some (.int y3), some (.int x3), some (.int (y3 + 1)), none] [] u4 Q))))))))) : fg_Run (d + 1) 101 6 [some (.ref 0), some (.int y1), some (.int y2), some (.int y3), none] [] σ Q := fg_blk [0, 6] 21 (⟨rfl, ⟨H.1, ⟨fun z1285 => (H.2.1 z1285), fun z1286 => ⟨rfl, ⟨fg_cls (H.2.2 z1286).1 rfl, (match (H.2.2 z1286).2 with | ⟨z1287, z1288, z1289f⟩ => ⟨z1287, z1288, fun x1 u2 z1289p => (match (z1289f x1 u2 z1289p) with | ⟨z1290, z1291, z1292f⟩ => ⟨z1290, z1291, fun x3 u4 z1292p => ⟨fun z1293 => (fg_Run.drop (L := [some _, some _, some _, some _, none]) ⟨rfl, ⟨rfl, ⟨rfl, ⟨rfl, ⟨trivial, trivial⟩⟩⟩⟩⟩ ((z1292f x3 u4 z1292p).1 z1293)), fun z1294 => (fg_Run.drop (L := [some _, some _, some _, some _, none]) ⟨rfl, ⟨rfl, ⟨rfl, ⟨rfl, ⟨trivial, trivial⟩⟩⟩⟩⟩ ((z1292f x3 u4 z1292p).2 z1294))⟩⟩)⟩)⟩⟩⟩⟩⟩)
set_option maxRecDepth 100000 in
theorem b_FS_betterFlag_0 {d : Nat} {σ : fg_St} {Q : Int32 → fg_St → Prop} (H : (∃ P, fg_Run d 2 0 [some (.ref 15)] [] σ P ∧ ∀ x1 u2, P x1 u2 → (∃ P, fg_Run d 95 0 [some (.ref 0), some (.int x1)] [] u2 P ∧ ∀ x3 u4, P x3 u4 → (∃ P, fg_Run d 59 0 [some (.ref 33), some (.ref u4.1), none, none, none] [] u4 P ∧ ∀ x5 u6, P x5 u6 → (∃ P, fg_Run d 195 0 [some (.int x5)] [] u6 P ∧ ∀ x7 u8, P x7 u8 → fg_Run (d + 1) 102 30 [some (.ref 0), some (.int x7), some (.int (-1)), some (.int 0), none, none, none] [] u8 Q))))) : fg_Run (d + 1) 102 0 [some (.ref 0), none, none, none, none, none, none] [] σ Q := fg_blk [0, 30, 110] 17 (⟨rfl, ⟨rfl, (match H with | ⟨z1295, z1296, z1297f⟩ => ⟨z1295, z1296, fun x1 u2 z1297p => ⟨rfl, (match (z1297f x1 u2 z1297p) with | ⟨z1298, z1299, z1300f⟩ => ⟨z1298, z1299, fun x3 u4 z1300p => ⟨rfl, ⟨rfl, ⟨rfl, (match (z1300f x3 u4 z1300p) with | ⟨z1301, z1302, z1303f⟩ => ⟨z1301, z1302, fun x5 u6 z1303p => (match (z1303f x5 u6 z1303p) with | ⟨z1304, z1305, z1306f⟩ => ⟨z1304, z1305, fun x7 u8 z1306p => (z1306f x7 u8 z1306p)⟩)⟩)⟩⟩⟩⟩)⟩⟩)⟩⟩)
set_option maxRecDepth 100000 in
theorem b_FS_betterFlag_30 {d : Nat} {σ : fg_St} {Q : Int32 → fg_St → Prop} {y1 : Int32} {y2 : Int32} {y3 : Int32} (H : (fg_kd σ.1 = 6 ∧ (((fg_F σ σ.1 2) ≤ y3 → Q y2 σ) ∧ (¬ ((fg_F σ σ.1 2) ≤ y3) → ((10 ≤ y3 → Q y2 σ) ∧ (¬ (10 ≤ y3) → (fg_kd σ.1 = 6 ∧ (∃ P, fg_Run d 43 0 [some (.ref σ.1), some (.int y3), none, none, none] [] σ P ∧ ∀ x1 u2, P x1 u2 → (∃ P, fg_Run d 54 0 [some (.ref 33), some (.ref u2.1), some (.ref 31), some (.int ((fg_F u2 15 7) &&& ((1 <<< (y3 &&& 31)) ^^^ (-1)))), none, none] [] u2 P ∧ ∀ x3 u4, P x3 u4 → (∃ P, fg_Run d 2 0 [some (.ref 15)] [] u4 P ∧ ∀ x5 u6, P x5 u6 → (∃ P, fg_Run d 55 0 [some (.ref 33), some (.ref u4.1), some (.ref 15), some (.int x5), none] [] u6 P ∧ ∀ x7 u8, P x7 u8 → fg_Run (d + 1) 102 110 [some (.ref 0), some (.int y1), some (.int y2), some (.int y3), some (.int x1), some (.int 0), none] [] u8 Q))))))))))) : fg_Run (d + 1) 102 30 [some (.ref 0), some (.int y1), some (.int y2), some (.int y3), none, none, none] [] σ Q := fg_blk [0, 30, 110] 42 (⟨rfl, ⟨H.1, ⟨fun z1307 => (H.2.1 z1307), fun z1308 => ⟨fun z1309 => ((H.2.2 z1308).1 z1309), fun z1310 => ⟨rfl, ⟨fg_cls ((H.2.2 z1308).2 z1310).1 rfl, (match ((H.2.2 z1308).2 z1310).2 with | ⟨z1311, z1312, z1313f⟩ => ⟨z1311, z1312, fun x1 u2 z1313p => ⟨rfl, ⟨rfl, ⟨rfl, ⟨rfl, ⟨rfl, ⟨rfl, (match (z1313f x1 u2 z1313p) with | ⟨z1314, z1315, z1316f⟩ => ⟨z1314, z1315, fun x3 u4 z1316p => ⟨rfl, ⟨rfl, ⟨rfl, ⟨rfl, ⟨rfl, (match (z1316f x3 u4 z1316p) with | ⟨z1317, z1318, z1319f⟩ => ⟨z1317, z1318, fun x5 u6 z1319p => ⟨rfl, (match (z1319f x5 u6 z1319p) with | ⟨z1320, z1321, z1322f⟩ => ⟨z1320, z1321, fun x7 u8 z1322p => (z1322f x7 u8 z1322p)⟩)⟩⟩)⟩⟩⟩⟩⟩⟩)⟩⟩⟩⟩⟩⟩⟩)⟩⟩⟩⟩⟩⟩)
set_option maxRecDepth 100000 in
theorem b_FS_betterFlag_110 {d : Nat} {σ : fg_St} {Q : Int32 → fg_St → Prop} {y1 : Int32} {y2 : Int32} {y3 : Int32} {y4 : Int32} {y5 : Int32} (H : ((y4 = 0 → fg_Run (d + 1) 102 30 [some (.ref 0), some (.int y1), some (.int y2), some (.int (y3 + 1)), none, none, none] [] σ Q) ∧ (¬ (y4 = 0) → (fg_kd σ.1 = 6 ∧ (((fg_F σ σ.1 3) ≤ y1 → fg_Run (d + 1) 102 30 [some (.ref 0), some (.int y1), some (.int y2), some (.int (y3 + 1)), none, none, none] [] σ Q) ∧ (¬ ((fg_F σ σ.1 3) ≤ y1) → ((100 ≤ y5 → fg_Run (d + 1) 102 30 [some (.ref 0), some (.int y1), some (.int y2), some (.int (y3 + 1)), none, none, none] [] σ Q) ∧ (¬ (100 ≤ y5) → (∃ P, fg_Run d 103 0 [some (.ref 0), some (.int y3), some (.int y5), some (.int y4)] [] σ P ∧ ∀ x1 u2, P x1 u2 → ((x1 ≤ y1 → fg_Run (d + 1) 102 110 [some (.ref 0), some (.int y1), some (.int y2), some (.int y3), some (.int y4), some (.int (y5 + 1)), none] [] u2 Q) ∧ (¬ (x1 ≤ y1) → fg_Run (d + 1) 102 110 [some (.ref 0), some (.int x1), some (.int ((((1000 * y3) + (100 * (y5 / 25))) + (10 * ((y5 / 5) - (y5 / 5) / 5 * 5))) + (y5 - y5 / 5 * 5))), some (.int y3), some (.int y4), some (.int (y5 + 1)), none] [] u2 Q))))))))))) : fg_Run (d + 1) 102 110 [some (.ref 0), some (.int y1), some (.int y2), some (.int y3), some (.int y4), some (.int y5), none] [] σ Q := fg_blk [0, 30, 110] 46 (⟨fun z1323 => (fg_Run.drop (L := [some _, some _, some _, some _, none, none, none]) ⟨rfl, ⟨rfl, ⟨rfl, ⟨rfl, ⟨trivial, ⟨trivial, ⟨trivial, trivial⟩⟩⟩⟩⟩⟩⟩ (H.1 z1323)), fun z1324 => ⟨rfl, ⟨(H.2 z1324).1, ⟨fun z1325 => (fg_Run.drop (L := [some _, some _, some _, some _, none, none, none]) ⟨rfl, ⟨rfl, ⟨rfl, ⟨rfl, ⟨trivial, ⟨trivial, ⟨trivial, trivial⟩⟩⟩⟩⟩⟩⟩ ((H.2 z1324).2.1 z1325)), fun z1326 => ⟨fun z1327 => (fg_Run.drop (L := [some _, some _, some _, some _, none, none, none]) ⟨rfl, ⟨rfl, ⟨rfl, ⟨rfl, ⟨trivial, ⟨trivial, ⟨trivial, trivial⟩⟩⟩⟩⟩⟩⟩ (((H.2 z1324).2.2 z1326).1 z1327)), fun z1328 => ⟨rfl, (match (((H.2 z1324).2.2 z1326).2 z1328) with | ⟨z1329, z1330, z1331f⟩ => ⟨z1329, z1330, fun x1 u2 z1331p => ⟨fun z1332 => (fg_Run.drop (L := [some _, some _, some _, some _, some _, some _, none]) ⟨rfl, ⟨rfl, ⟨rfl, ⟨rfl, ⟨rfl, ⟨rfl, ⟨trivial, trivial⟩⟩⟩⟩⟩⟩⟩ ((z1331f x1 u2 z1331p).1 z1332)), fun z1333 => ⟨(by decide), ⟨(by decide), ⟨(by decide), ⟨(by decide), (fg_Run.drop (L := [some _, some _, some _, some _, some _, some _, none]) ⟨rfl, ⟨rfl, ⟨rfl, ⟨rfl, ⟨rfl, ⟨rfl, ⟨trivial, trivial⟩⟩⟩⟩⟩⟩⟩ ((z1331f x1 u2 z1331p).2 z1333))⟩⟩⟩⟩⟩⟩)⟩⟩⟩⟩⟩⟩)
set_option maxRecDepth 100000 in
theorem b_FS_countClearWith_0 {d : Nat} {σ : fg_St} {Q : Int32 → fg_St → Prop} {a0 : Int32} {a1 : Int32} {a2 : Int32} (H : (∃ P, fg_Run d 108 0 [some (.int (a1 / 25)), some (.int ((a1 / 5) - (a1 / 5) / 5 * 5)), some (.int (a1 - a1 / 5 * 5)), some (.int (fg_F σ 15 10)), some (.int (fg_F σ 15 11)), none, none, none] [] σ P ∧ ∀ x1 u2, P x1 u2 → (vp_in a0 10 ∧ (∃ P, fg_Run d 56 0 [some (.ref 33), some (.ref u2.1), some (.int a2), none, none, none] [] (fg_sR u2 35 a0.toNatClampNeg x1) P ∧ ∀ x3 u4, P x3 u4 → (∃ P, fg_Run d 59 0 [some (.ref 33), some (.ref u4.1), none, none, none] [] u4 P ∧ ∀ x5 u6, P x5 u6 → (∃ P, fg_Run d 195 0 [some (.int x5)] [] u6 P ∧ ∀ x7 u8, P x7 u8 → Q x7 u8)))))) : fg_Run (d + 1) 103 0 [some (.ref 0), some (.int a0), some (.int a1), some (.int a2)] [] σ Q := fg_blk [0] 36 (⟨rfl, ⟨rfl, ⟨(by decide), ⟨(by decide), ⟨(by decide), ⟨(by decide), ⟨rfl, ⟨rfl, ⟨rfl, ⟨rfl, (match H with | ⟨z1334, z1335, z1336f⟩ => ⟨z1334, z1335, fun x1 u2 z1336p => ⟨rfl, ⟨(z1336f x1 u2 z1336p).1, ⟨rfl, ⟨rfl, ⟨rfl, (match (z1336f x1 u2 z1336p).2 with | ⟨z1337, z1338, z1339f⟩ => ⟨z1337, z1338, fun x3 u4 z1339p => ⟨rfl, ⟨rfl, ⟨rfl, (match (z1339f x3 u4 z1339p) with | ⟨z1340, z1341, z1342f⟩ => ⟨z1340, z1341, fun x5 u6 z1342p => (match (z1342f x5 u6 z1342p) with | ⟨z1343, z1344, z1345f⟩ => ⟨z1343, z1344, fun x7 u8 z1345p => (z1345f x7 u8 z1345p)⟩)⟩)⟩⟩⟩⟩)⟩⟩⟩⟩⟩⟩)⟩⟩⟩⟩⟩⟩⟩⟩⟩⟩)
set_option maxRecDepth 100000 in
theorem b_FS_possibleWeathers_0 {d : Nat} {σ : fg_St} {Q : Int32 → fg_St → Prop} (H : (∃ P, fg_Run d 54 0 [some (.ref 33), some (.ref σ.1), some (.ref 31), some (.int (fg_F σ 15 7)), none, none] [] σ P ∧ ∀ x1 u2, P x1 u2 → fg_Run (d + 1) 104 26 [some (.ref 0), some (.int 0), some (.int 0)] [] u2 Q)) : fg_Run (d + 1) 104 0 [some (.ref 0), none, none] [] σ Q := fg_blk [0, 26] 15 (⟨rfl, ⟨rfl, ⟨rfl, ⟨rfl, ⟨rfl, ⟨rfl, (match H with | ⟨z1346, z1347, z1348f⟩ => ⟨z1346, z1347, fun x1 u2 z1348p => (z1348f x1 u2 z1348p)⟩)⟩⟩⟩⟩⟩⟩)
set_option maxRecDepth 100000 in
theorem b_FS_possibleWeathers_26 {d : Nat} {σ : fg_St} {Q : Int32 → fg_St → Prop} {y1 : Int32} {y2 : Int32} (H : ((6 ≤ y2 → Q y1 σ) ∧ (¬ (6 ≤ y2) → (∃ P, fg_Run d 55 0 [some (.ref 33), some (.ref σ.1), some (.ref 15), some (.int y2), none] [] σ P ∧ ∀ x1 u2, P x1 u2 → (∃ P, fg_Run d 20 0 [some (.ref 26), some (.ref u2.1), some (.ref 33), none] [] u2 P ∧ ∀ x3 u4, P x3 u4 → ((x3 = 0 → fg_Run (d + 1) 104 26 [some (.ref 0), some (.int y1), some (.int (y2 + 1))] [] u4 Q) ∧ (¬ (x3 = 0) → fg_Run (d + 1) 104 26 [some (.ref 0), some (.int (y1 ||| (1 <<< (y2 &&& 31)))), some (.int (y2 + 1))] [] u4 Q))))))) : fg_Run (d + 1) 104 26 [some (.ref 0), some (.int y1), some (.int y2)] [] σ Q := fg_blk [0, 26] 28 (⟨fun z1349 => (H.1 z1349), fun z1350 => ⟨rfl, ⟨rfl, ⟨rfl, ⟨rfl, (match (H.2 z1350) with | ⟨z1351, z1352, z1353f⟩ => ⟨z1351, z1352, fun x1 u2 z1353p => ⟨rfl, ⟨rfl, ⟨rfl, ⟨rfl, (match (z1353f x1 u2 z1353p) with | ⟨z1354, z1355, z1356f⟩ => ⟨z1354, z1355, fun x3 u4 z1356p => ⟨fun z1357 => ((z1356f x3 u4 z1356p).1 z1357), fun z1358 => ((z1356f x3 u4 z1356p).2 z1358)⟩⟩)⟩⟩⟩⟩⟩)⟩⟩⟩⟩⟩)
set_option maxRecDepth 100000 in
theorem b_FS_askedSignal_0 {d : Nat} {σ : fg_St} {Q : Int32 → fg_St → Prop} (H : (∃ P, fg_Run d 104 0 [some (.ref 0), none, none] [] σ P ∧ ∀ x1 u2, P x1 u2 → (∃ P, fg_Run d 106 0 [some (.ref 0), none, none] [] u2 P ∧ ∀ x3 u4, P x3 u4 → (∃ P, fg_Run d 195 0 [some (.int x1)] [] u4 P ∧ ∀ x5 u6, P x5 u6 → fg_Run (d + 1) 105 19 [some (.ref 0), some (.int x1), some (.int (-1)), some (.int x5), some (.int 0), none] [] u6 Q)))) : fg_Run (d + 1) 105 0 [some (.ref 0), none, none, none, none, none] [] σ Q := fg_blk [0, 19] 13 (⟨rfl, (match H with | ⟨z1359, z1360, z1361f⟩ => ⟨z1359, z1360, fun x1 u2 z1361p => ⟨rfl, (match (z1361f x1 u2 z1361p) with | ⟨z1362, z1363, z1364f⟩ => ⟨z1362, z1363, fun x3 u4 z1364p => (match (z1364f x3 u4 z1364p) with | ⟨z1365, z1366, z1367f⟩ => ⟨z1365, z1366, fun x5 u6 z1367p => (z1367f x5 u6 z1367p)⟩)⟩)⟩⟩)⟩)
set_option maxRecDepth 100000 in
theorem b_FS_askedSignal_19 {d : Nat} {σ : fg_St} {Q : Int32 → fg_St → Prop} {y1 : Int32} {y2 : Int32} {y3 : Int32} {y4 : Int32} (H : (fg_kd σ.1 = 6 ∧ (((fg_F σ σ.1 3) ≤ y4 → Q y2 σ) ∧ (¬ ((fg_F σ σ.1 3) ≤ y4) → (∃ P, fg_Run d 107 0 [some (.ref 0), some (.int y4), some (.int y1), none, none, none, none] [] σ P ∧ ∀ x1 u2, P x1 u2 → ((y3 ≤ x1 → fg_Run (d + 1) 105 19 [some (.ref 0), some (.int y1), some (.int y2), some (.int y3), some (.int (y4 + 1)), none] [] u2 Q) ∧ (¬ (y3 ≤ x1) → fg_Run (d + 1) 105 19 [some (.ref 0), some (.int y1), some (.int y4), some (.int x1), some (.int (y4 + 1)), none] [] u2 Q))))))) : fg_Run (d + 1) 105 19 [some (.ref 0), some (.int y1), some (.int y2), some (.int y3), some (.int y4), none] [] σ Q := fg_blk [0, 19] 20 (⟨rfl, ⟨H.1, ⟨fun z1368 => (H.2.1 z1368), fun z1369 => ⟨rfl, (match (H.2.2 z1369) with | ⟨z1370, z1371, z1372f⟩ => ⟨z1370, z1371, fun x1 u2 z1372p => ⟨fun z1373 => (fg_Run.drop (L := [some _, some _, some _, some _, some _, none]) ⟨rfl, ⟨rfl, ⟨rfl, ⟨rfl, ⟨rfl, ⟨trivial, trivial⟩⟩⟩⟩⟩⟩ ((z1372f x1 u2 z1372p).1 z1373)), fun z1374 => (fg_Run.drop (L := [some _, some _, some _, some _, some _, none]) ⟨rfl, ⟨rfl, ⟨rfl, ⟨rfl, ⟨rfl, ⟨trivial, trivial⟩⟩⟩⟩⟩⟩ ((z1372f x1 u2 z1372p).2 z1374))⟩⟩)⟩⟩⟩⟩)
set_option maxRecDepth 100000 in
theorem b_FS_fillLikes_0 {d : Nat} {σ : fg_St} {Q : Int32 → fg_St → Prop} (H : (∃ P, fg_Run d 54 0 [some (.ref 33), some (.ref σ.1), some (.ref 31), some (.int (fg_F σ 15 7)), none, none] [] σ P ∧ ∀ x1 u2, P x1 u2 → fg_Run (d + 1) 106 24 [some (.ref 0), some (.int 0), none] [] u2 Q)) : fg_Run (d + 1) 106 0 [some (.ref 0), none, none] [] σ Q := fg_blk [0, 24, 48] 13 (⟨rfl, ⟨rfl, ⟨rfl, ⟨rfl, ⟨rfl, ⟨rfl, (match H with | ⟨z1375, z1376, z1377f⟩ => ⟨z1375, z1376, fun x1 u2 z1377p => (z1377f x1 u2 z1377p)⟩)⟩⟩⟩⟩⟩⟩)
set_option maxRecDepth 100000 in
theorem b_FS_fillLikes_24 {d : Nat} {σ : fg_St} {Q : Int32 → fg_St → Prop} {y1 : Int32} (H : ((6 ≤ y1 → Q 0 σ) ∧ (¬ (6 ≤ y1) → (∃ P, fg_Run d 55 0 [some (.ref 33), some (.ref σ.1), some (.ref 15), some (.int y1), none] [] σ P ∧ ∀ x1 u2, P x1 u2 → fg_Run (d + 1) 106 48 [some (.ref 0), some (.int y1), some (.int 0)] [] u2 Q)))) : fg_Run (d + 1) 106 24 [some (.ref 0), some (.int y1), none] [] σ Q := fg_blk [0, 24, 48] 14 (⟨fun z1378 => (H.1 z1378), fun z1379 => ⟨rfl, ⟨rfl, ⟨rfl, ⟨rfl, (match (H.2 z1379) with | ⟨z1380, z1381, z1382f⟩ => ⟨z1380, z1381, fun x1 u2 z1382p => (z1382f x1 u2 z1382p)⟩)⟩⟩⟩⟩⟩)
set_option maxRecDepth 100000 in
theorem b_FS_fillLikes_48 {d : Nat} {σ : fg_St} {Q : Int32 → fg_St → Prop} {y1 : Int32} {y2 : Int32} (H : (fg_kd σ.1 = 6 ∧ (((fg_F σ σ.1 3) ≤ y2 → fg_Run (d + 1) 106 24 [some (.ref 0), some (.int (y1 + 1)), none] [] σ Q) ∧ (¬ ((fg_F σ σ.1 3) ≤ y2) → (∃ P, fg_Run d 58 0 [some (.ref 33), some (.ref σ.1), some (.int y2), none, none] [] σ P ∧ ∀ x1 u2, P x1 u2 → (vp_in ((y1 * 10) + y2) 60 ∧ fg_Run (d + 1) 106 48 [some (.ref 0), some (.int y1), some (.int (y2 + 1))] [] (fg_sR u2 40 (((y1 * 10) + y2).toNatClampNeg) x1) Q)))))) : fg_Run (d + 1) 106 48 [some (.ref 0), some (.int y1), some (.int y2)] [] σ Q := fg_blk [0, 24, 48] 22 (⟨rfl, ⟨H.1, ⟨fun z1383 => (fg_Run.drop (L := [some _, some _, none]) ⟨rfl, ⟨rfl, ⟨trivial, trivial⟩⟩⟩ (H.2.1 z1383)), fun z1384 => ⟨rfl, ⟨rfl, ⟨rfl, ⟨rfl, (match (H.2.2 z1384) with | ⟨z1385, z1386, z1387f⟩ => ⟨z1385, z1386, fun x1 u2 z1387p => ⟨rfl, ⟨(z1387f x1 u2 z1387p).1, (z1387f x1 u2 z1387p).2⟩⟩⟩)⟩⟩⟩⟩⟩⟩⟩)
set_option maxRecDepth 100000 in
theorem b_FS_greatestPart_0 {d : Nat} {σ : fg_St} {Q : Int32 → fg_St → Prop} {a0 : Int32} {a1 : Int32} (H : fg_Run (d + 1) 107 5 [some (.ref 0), some (.int a0), some (.int a1), some (.int 0), some (.int 0), none, none] [] σ Q) : fg_Run (d + 1) 107 0 [some (.ref 0), some (.int a0), some (.int a1), none, none, none, none] [] σ Q := fg_blk [0, 5, 18] 5 (H)
set_option maxRecDepth 100000 in
theorem b_FS_greatestPart_5 {d : Nat} {σ : fg_St} {Q : Int32 → fg_St → Prop} {y1 : Int32} {y2 : Int32} {y3 : Int32} {y4 : Int32} (H : ((6 ≤ y4 → Q y3 σ) ∧ (¬ (6 ≤ y4) → fg_Run (d + 1) 107 18 [some (.ref 0), some (.int y1), some (.int y2), some (.int y3), some (.int y4), some (.int 0), some (.int 0)] [] σ Q))) : fg_Run (d + 1) 107 5 [some (.ref 0), some (.int y1), some (.int y2), some (.int y3), some (.int y4), none, none] [] σ Q := fg_blk [0, 5, 18] 8 (⟨fun z1388 => (H.1 z1388), fun z1389 => (H.2 z1389)⟩)
set_option maxRecDepth 100000 in
theorem b_FS_greatestPart_18 {d : Nat} {σ : fg_St} {Q : Int32 → fg_St → Prop} {y1 : Int32} {y2 : Int32} {y3 : Int32} {y4 : Int32} {y5 : Int32} {y6 : Int32} (H : ((6 ≤ y6 → fg_Run (d + 1) 107 5 [some (.ref 0), some (.int y1), some (.int y2), some (.int (if y3 < y5 then y5 else y3)), some (.int (y4 + 1)), none, none] [] σ Q) ∧ (¬ (6 ≤ y6) → (∃ P, fg_Run d 87 0 [some (.int y2), some (.int y4)] [] σ P ∧ ∀ x1 u2, P x1 u2 → ((x1 = 0 → fg_Run (d + 1) 107 18 [some (.ref 0), some (.int y1), some (.int y2), some (.int y3), some (.int y4), some (.int y5), some (.int (y6 + 1))] [] u2 Q) ∧ (¬ (x1 = 0) → (∃ P, fg_Run d 87 0 [some (.int y2), some (.int y6)] [] u2 P ∧ ∀ x3 u4, P x3 u4 → ((x3 = 0 → fg_Run (d + 1) 107 18 [some (.ref 0), some (.int y1), some (.int y2), some (.int y3), some (.int y4), some (.int y5), some (.int (y6 + 1))] [] u4 Q) ∧ (¬ (x3 = 0) → (vp_in ((y4 * 10) + y1) 60 ∧ (vp_in ((y6 * 10) + y1) 60 ∧ ((¬ (fg_R u4 40 (((y4 * 10) + y1).toNatClampNeg)) = (fg_R u4 40 (((y6 * 10) + y1).toNatClampNeg)) → fg_Run (d + 1) 107 18 [some (.ref 0), some (.int y1), some (.int y2), some (.int y3), some (.int y4), some (.int y5), some (.int (y6 + 1))] [] u4 Q) ∧ ((fg_R u4 40 (((y4 * 10) + y1).toNatClampNeg)) = (fg_R u4 40 (((y6 * 10) + y1).toNatClampNeg)) → fg_Run (d + 1) 107 18 [some (.ref 0), some (.int y1), some (.int y2), some (.int y3), some (.int y4), some (.int (y5 + 1)), some (.int (y6 + 1))] [] u4 Q))))))))))))) : fg_Run (d + 1) 107 18 [some (.ref 0), some (.int y1), some (.int y2), some (.int y3), some (.int y4), some (.int y5), some (.int y6)] [] σ Q := fg_blk [0, 5, 18] 32 (⟨fun z1390 => (fg_Run.drop (L := [some _, some _, some _, some _, some _, none, none]) ⟨rfl, ⟨rfl, ⟨rfl, ⟨rfl, ⟨rfl, ⟨trivial, ⟨trivial, trivial⟩⟩⟩⟩⟩⟩⟩ (H.1 z1390)), fun z1391 => (match (H.2 z1391) with | ⟨z1392, z1393, z1394f⟩ => ⟨z1392, z1393, fun x1 u2 z1394p => ⟨fun z1395 => ((z1394f x1 u2 z1394p).1 z1395), fun z1396 => (match ((z1394f x1 u2 z1394p).2 z1396) with | ⟨z1397, z1398, z1399f⟩ => ⟨z1397, z1398, fun x3 u4 z1399p => ⟨fun z1400 => ((z1399f x3 u4 z1399p).1 z1400), fun z1401 => ⟨rfl, ⟨rfl, ⟨((z1399f x3 u4 z1399p).2 z1401).1, ⟨rfl, ⟨rfl, ⟨((z1399f x3 u4 z1399p).2 z1401).2.1, ⟨fun z1402 => (((z1399f x3 u4 z1399p).2 z1401).2.2.1 z1402), fun z1403 => (((z1399f x3 u4 z1399p).2 z1401).2.2.2 (Classical.not_not.mp z1403))⟩⟩⟩⟩⟩⟩⟩⟩⟩)⟩⟩)⟩)
set_option maxRecDepth 100000 in
theorem b_FS_seenPattern_0 {d : Nat} {σ : fg_St} {Q : Int32 → fg_St → Prop} {a0 : Int32} {a1 : Int32} {a2 : Int32} {a3 : Int32} {a4 : Int32} (H : ((a0 = 0 → (∃ P, fg_Run d 109 0 [some (.int a1), some (.int a3)] [] σ P ∧ ∀ x1 u2, P x1 u2 → (∃ P, fg_Run d 109 0 [some (.int a1), some (.int a3)] [] u2 P ∧ ∀ x3 u4, P x3 u4 → Q (((25 * 0) + (5 * x1)) + x3) u4))) ∧ (¬ (a0 = 0) → ((¬ a0 = 1 → ((¬ a3 = 2 → (∃ P, fg_Run d 109 0 [some (.int a1), some (.int a3)] [] σ P ∧ ∀ x5 u6, P x5 u6 → (∃ P, fg_Run d 109 0 [some (.int a2), some (.int a3)] [] u6 P ∧ ∀ x7 u8, P x7 u8 → Q (((25 * a0) + (5 * x5)) + x7) u8))) ∧ (a3 = 2 → (∃ P, fg_Run d 109 0 [some (.int a1), some (.int a3)] [] σ P ∧ ∀ x9 u10, P x9 u10 → (∃ P, fg_Run d 109 0 [some (.int a1), some (.int a3)] [] u10 P ∧ ∀ x11 u12, P x11 u12 → Q (((25 * 0) + (5 * x9)) + x11) u12))))) ∧ (a0 = 1 → ((¬ a4 = 0 → (∃ P, fg_Run d 109 0 [some (.int a1), some (.int a3)] [] σ P ∧ ∀ x13 u14, P x13 u14 → (∃ P, fg_Run d 109 0 [some (.int a2), some (.int a3)] [] u14 P ∧ ∀ x15 u16, P x15 u16 → Q (((25 * a0) + (5 * x13)) + x15) u16))) ∧ (a4 = 0 → (∃ P, fg_Run d 109 0 [some (.int a1), some (.int a3)] [] σ P ∧ ∀ x17 u18, P x17 u18 → (∃ P, fg_Run d 109 0 [some (.int a1), some (.int a3)] [] u18 P ∧ ∀ x19 u20, P x19 u20 → Q (((25 * 0) + (5 * x17)) + x19) u20))))))))) : fg_Run (d + 1) 108 0 [some (.int a0), some (.int a1), some (.int a2), some (.int a3), some (.int a4), none, none, none] [] σ Q := fg_blk [0] 35 (⟨fun z1404 => (match (H.1 z1404) with | ⟨z1406, z1407, z1408f⟩ => ⟨z1406, z1407, fun x1 u2 z1408p => ⟨fun z1409 => absurd z1409 (show ¬ ((1 : Int32) = 0) from by decide), fun _ => (match (z1408f x1 u2 z1408p) with | ⟨z1410, z1411, z1412f⟩ => ⟨z1410, z1411, fun x3 u4 z1412p => ⟨fun z1413 => absurd z1413 (show ¬ ((1 : Int32) = 0) from by decide), fun _ => (z1412f x3 u4 z1412p)⟩⟩)⟩⟩), fun z1405 => ⟨fun z1414 => ⟨fun z1416 => (match (((H.2 z1405).1 z1414).1 z1416) with | ⟨z1418, z1419, z1420f⟩ => ⟨z1418, z1419, fun x5 u6 z1420p => ⟨fun _ => (match (z1420f x5 u6 z1420p) with | ⟨z1422, z1423, z1424f⟩ => ⟨z1422, z1423, fun x7 u8 z1424p => ⟨fun _ => (z1424f x7 u8 z1424p), fun z1425 => absurd (show (0 : Int32) = 0 from by decide) z1425⟩⟩), fun z1421 => absurd (show (0 : Int32) = 0 from by decide) z1421⟩⟩), fun z1417 => (match (((H.2 z1405).1 z1414).2 (Classical.not_not.mp z1417)) with | ⟨z1426, z1427, z1428f⟩ => ⟨z1426, z1427, fun x9 u10 z1428p => ⟨fun z1429 => absurd z1429 (show ¬ ((1 : Int32) = 0) from by decide), fun _ => (match (z1428f x9 u10 z1428p) with | ⟨z1430, z1431, z1432f⟩ => ⟨z1430, z1431, fun x11 u12 z1432p => ⟨fun z1433 => absurd z1433 (show ¬ ((1 : Int32) = 0) from by decide), fun _ => (z1432f x11 u12 z1432p)⟩⟩)⟩⟩)⟩, fun z1415 => ⟨fun z1434 => (match (((H.2 z1405).2 (Classical.not_not.mp z1415)).1 z1434) with | ⟨z1436, z1437, z1438f⟩ => ⟨z1436, z1437, fun x13 u14 z1438p => ⟨fun _ => (match (z1438f x13 u14 z1438p) with | ⟨z1440, z1441, z1442f⟩ => ⟨z1440, z1441, fun x15 u16 z1442p => ⟨fun _ => (z1442f x15 u16 z1442p), fun z1443 => absurd (show (0 : Int32) = 0 from by decide) z1443⟩⟩), fun z1439 => absurd (show (0 : Int32) = 0 from by decide) z1439⟩⟩), fun z1435 => (match (((H.2 z1405).2 (Classical.not_not.mp z1415)).2 (Classical.not_not.mp z1435)) with | ⟨z1444, z1445, z1446f⟩ => ⟨z1444, z1445, fun x17 u18 z1446p => ⟨fun z1447 => absurd z1447 (show ¬ ((1 : Int32) = 0) from by decide), fun _ => (match (z1446f x17 u18 z1446p) with | ⟨z1448, z1449, z1450f⟩ => ⟨z1448, z1449, fun x19 u20 z1450p => ⟨fun z1451 => absurd z1451 (show ¬ ((1 : Int32) = 0) from by decide), fun _ => (z1450f x19 u20 z1450p)⟩⟩)⟩⟩)⟩⟩⟩)
set_option maxRecDepth 100000 in
theorem b_FS_seenColour_0 {d : Nat} {σ : fg_St} {Q : Int32 → fg_St → Prop} {a0 : Int32} {a1 : Int32} (H : ((¬ a1 = 0 → ((¬ a0 = 1 → ((¬ a0 = 4 → Q a0 σ) ∧ (a0 = 4 → Q 3 σ))) ∧ (a0 = 1 → Q 0 σ))) ∧ (a1 = 0 → Q a0 σ))) : fg_Run d 109 0 [some (.int a0), some (.int a1)] [] σ Q := fg_blk [0] 11 (⟨fun z1452 => ⟨fun z1454 => ⟨fun z1456 => (((H.1 z1452).1 z1454).1 z1456), fun z1457 => (((H.1 z1452).1 z1454).2 (Classical.not_not.mp z1457))⟩, fun z1455 => ((H.1 z1452).2 (Classical.not_not.mp z1455))⟩, fun z1453 => (H.2 (Classical.not_not.mp z1453))⟩)
set_option maxRecDepth 100000 in
theorem b_JI_bitCount_0 {d : Nat} {σ : fg_St} {Q : Int32 → fg_St → Prop} {a0 : Int32} (H : Q ((((((((a0 - (((a0.toUInt32 >>> ((1 : Int32).toUInt32 &&& Int32.toUInt32 31)).toInt32) &&& 1431655765)) &&& 858993459) + ((((a0 - (((a0.toUInt32 >>> ((1 : Int32).toUInt32 &&& Int32.toUInt32 31)).toInt32) &&& 1431655765)).toUInt32 >>> ((2 : Int32).toUInt32 &&& Int32.toUInt32 31)).toInt32) &&& 858993459)) + (((((a0 - (((a0.toUInt32 >>> ((1 : Int32).toUInt32 &&& Int32.toUInt32 31)).toInt32) &&& 1431655765)) &&& 858993459) + ((((a0 - (((a0.toUInt32 >>> ((1 : Int32).toUInt32 &&& Int32.toUInt32 31)).toInt32) &&& 1431655765)).toUInt32 >>> ((2 : Int32).toUInt32 &&& Int32.toUInt32 31)).toInt32) &&& 858993459)).toUInt32 >>> ((4 : Int32).toUInt32 &&& Int32.toUInt32 31)).toInt32)) &&& 252645135) + (((((((a0 - (((a0.toUInt32 >>> ((1 : Int32).toUInt32 &&& Int32.toUInt32 31)).toInt32) &&& 1431655765)) &&& 858993459) + ((((a0 - (((a0.toUInt32 >>> ((1 : Int32).toUInt32 &&& Int32.toUInt32 31)).toInt32) &&& 1431655765)).toUInt32 >>> ((2 : Int32).toUInt32 &&& Int32.toUInt32 31)).toInt32) &&& 858993459)) + (((((a0 - (((a0.toUInt32 >>> ((1 : Int32).toUInt32 &&& Int32.toUInt32 31)).toInt32) &&& 1431655765)) &&& 858993459) + ((((a0 - (((a0.toUInt32 >>> ((1 : Int32).toUInt32 &&& Int32.toUInt32 31)).toInt32) &&& 1431655765)).toUInt32 >>> ((2 : Int32).toUInt32 &&& Int32.toUInt32 31)).toInt32) &&& 858993459)).toUInt32 >>> ((4 : Int32).toUInt32 &&& Int32.toUInt32 31)).toInt32)) &&& 252645135).toUInt32 >>> ((8 : Int32).toUInt32 &&& Int32.toUInt32 31)).toInt32)) + ((((((((a0 - (((a0.toUInt32 >>> ((1 : Int32).toUInt32 &&& Int32.toUInt32 31)).toInt32) &&& 1431655765)) &&& 858993459) + ((((a0 - (((a0.toUInt32 >>> ((1 : Int32).toUInt32 &&& Int32.toUInt32 31)).toInt32) &&& 1431655765)).toUInt32 >>> ((2 : Int32).toUInt32 &&& Int32.toUInt32 31)).toInt32) &&& 858993459)) + (((((a0 - (((a0.toUInt32 >>> ((1 : Int32).toUInt32 &&& Int32.toUInt32 31)).toInt32) &&& 1431655765)) &&& 858993459) + ((((a0 - (((a0.toUInt32 >>> ((1 : Int32).toUInt32 &&& Int32.toUInt32 31)).toInt32) &&& 1431655765)).toUInt32 >>> ((2 : Int32).toUInt32 &&& Int32.toUInt32 31)).toInt32) &&& 858993459)).toUInt32 >>> ((4 : Int32).toUInt32 &&& Int32.toUInt32 31)).toInt32)) &&& 252645135) + (((((((a0 - (((a0.toUInt32 >>> ((1 : Int32).toUInt32 &&& Int32.toUInt32 31)).toInt32) &&& 1431655765)) &&& 858993459) + ((((a0 - (((a0.toUInt32 >>> ((1 : Int32).toUInt32 &&& Int32.toUInt32 31)).toInt32) &&& 1431655765)).toUInt32 >>> ((2 : Int32).toUInt32 &&& Int32.toUInt32 31)).toInt32) &&& 858993459)) + (((((a0 - (((a0.toUInt32 >>> ((1 : Int32).toUInt32 &&& Int32.toUInt32 31)).toInt32) &&& 1431655765)) &&& 858993459) + ((((a0 - (((a0.toUInt32 >>> ((1 : Int32).toUInt32 &&& Int32.toUInt32 31)).toInt32) &&& 1431655765)).toUInt32 >>> ((2 : Int32).toUInt32 &&& Int32.toUInt32 31)).toInt32) &&& 858993459)).toUInt32 >>> ((4 : Int32).toUInt32 &&& Int32.toUInt32 31)).toInt32)) &&& 252645135).toUInt32 >>> ((8 : Int32).toUInt32 &&& Int32.toUInt32 31)).toInt32)).toUInt32 >>> ((16 : Int32).toUInt32 &&& Int32.toUInt32 31)).toInt32)) &&& 63) σ) : fg_Run d 195 0 [some (.int a0)] [] σ Q := fg_blk [0] 42 (H)
end
section
/-! STRETCHES OF CODE, between loops, as rules of the abstract machine (laid by wip/whole/blocks.py) -/
set_option maxRecDepth 100000 in
theorem b_MO_in_0 {d : Nat} {σ : fg_St} {Q : Int32 → fg_St → Prop} {a0 : Int64} {a1 : Int64} {a2 : Int64} (H : (((lg_cmp a0 a1) < 0 → Q 0 σ) ∧ (¬ ((lg_cmp a0 a1) < 0) → ((0 < (lg_cmp a0 a2) → Q 0 σ) ∧ (¬ (0 < (lg_cmp a0 a2)) → Q 1 σ))))) : fg_Run d 110 0 [some (.long a0), none, some (.long a1), none, some (.long a2), none] [] σ Q := fg_blk [0] 11 (⟨fun z1458 => ⟨(by decide), (H.1 z1458)⟩, fun z1459 => ⟨fun z1460 => ⟨(by decide), ((H.2 z1459).1 z1460)⟩, fun z1461 => ⟨(by decide), ((H.2 z1459).2 z1461)⟩⟩⟩)
set_option maxRecDepth 100000 in
theorem b_MO_has_0 {d : Nat} {σ : fg_St} {Q : Int32 → fg_St → Prop} {a0 : Int32} {a1 : Int32} (H : ((¬ ((a0 >>> (a1 &&& 31)) &&& 1) = 1 → Q 0 σ) ∧ (((a0 >>> (a1 &&& 31)) &&& 1) = 1 → Q 1 σ))) : fg_Run d 111 0 [some (.int a0), some (.int a1)] [] σ Q := fg_blk [0] 10 (⟨fun z1462 => ⟨(by decide), (H.1 z1462)⟩, fun z1463 => ⟨(by decide), (H.2 (Classical.not_not.mp z1463))⟩⟩)
set_option maxRecDepth 100000 in
theorem b_MO_bits_0 {d : Nat} {σ : fg_St} {Q : Int32 → fg_St → Prop} {a0 : Int32} (H : fg_Run d 112 4 [some (.int a0), some (.int 0), some (.int 0)] [] σ Q) : fg_Run d 112 0 [some (.int a0), none, none] [] σ Q := fg_blk [0, 4] 5 (H)
set_option maxRecDepth 100000 in
theorem b_MO_bits_4 {d : Nat} {σ : fg_St} {Q : Int32 → fg_St → Prop} {y0 : Int32} {y1 : Int32} {y2 : Int32} (H : ((10 ≤ y2 → Q y1 σ) ∧ (¬ (10 ≤ y2) → fg_Run d 112 4 [some (.int y0), some (.int (y1 + ((y0 >>> (y2 &&& 31)) &&& 1))), some (.int (y2 + 1))] [] σ Q))) : fg_Run d 112 4 [some (.int y0), some (.int y1), some (.int y2)] [] σ Q := fg_blk [0, 4] 14 (⟨fun z1464 => (H.1 z1464), fun z1465 => (H.2 z1465)⟩)
set_option maxRecDepth 100000 in
theorem b_MO_isLine_0 {d : Nat} {σ : fg_St} {Q : Int32 → fg_St → Prop} {a0 : Int32} (H : (∃ P, fg_Run d 110 0 [some (.long a0.toInt64), none, some (.long 0), none, some (.long (((fg_F σ 187 0) - 1).toInt64)), none] [] σ P ∧ ∀ x1 u2, P x1 u2 → ((x1 = 0 ∨ x1 = 1) ∧ Q x1 u2))) : fg_Run (d + 1) 113 0 [some (.ref 187), some (.int a0)] [] σ Q := fg_blk [0] 10 (⟨rfl, (match H with | ⟨z1466, z1467, z1468f⟩ => ⟨z1466, z1467, fun x1 u2 z1468p => ⟨(z1468f x1 u2 z1468p).1, (z1468f x1 u2 z1468p).2⟩⟩)⟩)
set_option maxRecDepth 100000 in
theorem b_MO_isFlag_0 {d : Nat} {σ : fg_St} {Q : Int32 → fg_St → Prop} {a0 : Int32} (H : (∃ P, fg_Run d 110 0 [some (.long a0.toInt64), none, some (.long 0), none, some (.long (((fg_F σ 187 2) - 1).toInt64)), none] [] σ P ∧ ∀ x1 u2, P x1 u2 → ((x1 = 0 ∨ x1 = 1) ∧ Q x1 u2))) : fg_Run (d + 1) 114 0 [some (.ref 187), some (.int a0)] [] σ Q := fg_blk [0] 10 (⟨rfl, (match H with | ⟨z1469, z1470, z1471f⟩ => ⟨z1469, z1470, fun x1 u2 z1471p => ⟨(z1471f x1 u2 z1471p).1, (z1471f x1 u2 z1471p).2⟩⟩)⟩)
set_option maxRecDepth 100000 in
theorem b_MO_isSignal_0 {d : Nat} {σ : fg_St} {Q : Int32 → fg_St → Prop} {a0 : Int32} (H : (∃ P, fg_Run d 110 0 [some (.long a0.toInt64), none, some (.long 0), none, some (.long (((fg_F σ 187 4) - 1).toInt64)), none] [] σ P ∧ ∀ x1 u2, P x1 u2 → ((x1 = 0 ∨ x1 = 1) ∧ Q x1 u2))) : fg_Run (d + 1) 115 0 [some (.ref 187), some (.int a0)] [] σ Q := fg_blk [0] 10 (⟨rfl, (match H with | ⟨z1472, z1473, z1474f⟩ => ⟨z1472, z1473, fun x1 u2 z1474p => ⟨(z1474f x1 u2 z1474p).1, (z1474f x1 u2 z1474p).2⟩⟩)⟩)
set_option maxRecDepth 100000 in
theorem b_MO_feed_0 {d : Nat} {σ : fg_St} {Q : Int32 → fg_St → Prop} {a0 : Int32} (H : (∃ P, fg_Run d 110 0 [some (.long a0.toInt64), none, some (.long 0), none, some (.long 255), none] [] σ P ∧ ∀ x1 u2, P x1 u2 → ((¬ x1 = 0 → ((¬ (fg_F u2 187 10) = 240 → (vp_in (fg_F u2 187 10) 240 ∧ Q ((fg_F u2 187 10) + 1) (fg_sF (fg_sR u2 192 ((fg_F u2 187 10).toNatClampNeg) a0) 187 10 ((fg_F u2 187 10) + 1)))) ∧ ((fg_F u2 187 10) = 240 → Q (-1000000004) u2))) ∧ (x1 = 0 → Q (-1000000002) u2)))) : fg_Run (d + 1) 116 0 [some (.ref 187), some (.int a0)] [] σ Q := fg_blk [0] 25 ((match H with | ⟨z1475, z1476, z1477f⟩ => ⟨z1475, z1476, fun x1 u2 z1477p => ⟨fun z1478 => ⟨rfl, ⟨fun z1480 => ⟨rfl, ⟨rfl, ⟨rfl, ⟨(((z1477f x1 u2 z1477p).1 z1478).1 z1480).1, ⟨rfl, ⟨rfl, ⟨rfl, (((z1477f x1 u2 z1477p).1 z1478).1 z1480).2⟩⟩⟩⟩⟩⟩⟩, fun z1481 => (((z1477f x1 u2 z1477p).1 z1478).2 (Classical.not_not.mp z1481))⟩⟩, fun z1479 => ((z1477f x1 u2 z1477p).2 (Classical.not_not.mp z1479))⟩⟩))
set_option maxRecDepth 100000 in
theorem b_MO_here_0 {d : Nat} {σ : fg_St} {Q : Int32 → fg_St → Prop} (H : (((fg_F σ 187 10) ≤ (fg_F σ 187 12) → (((fg_F σ 187 10) ≤ (fg_F σ 187 12) → Q (-1) σ) ∧ (¬ ((fg_F σ 187 10) ≤ (fg_F σ 187 12)) → (vp_in (fg_F σ 187 12) 240 ∧ Q (fg_R σ 192 ((fg_F σ 187 12).toNatClampNeg)) σ)))) ∧ (¬ ((fg_F σ 187 10) ≤ (fg_F σ 187 12)) → (vp_in (fg_F σ 187 12) 240 ∧ ((¬ (fg_R σ 192 ((fg_F σ 187 12).toNatClampNeg)) = 32 → (((fg_F σ 187 10) ≤ (fg_F σ 187 12) → Q (-1) σ) ∧ (¬ ((fg_F σ 187 10) ≤ (fg_F σ 187 12)) → (vp_in (fg_F σ 187 12) 240 ∧ Q (fg_R σ 192 ((fg_F σ 187 12).toNatClampNeg)) σ)))) ∧ ((fg_R σ 192 ((fg_F σ 187 12).toNatClampNeg)) = 32 → fg_Run d 117 0 [some (.ref 187)] [] (fg_sF σ 187 12 ((fg_F σ 187 12) + 1)) Q)))))) : fg_Run d 117 0 [some (.ref 187)] [] σ Q := fg_blk [0, 0] 24 (⟨rfl, ⟨rfl, ⟨fun z1482 => ⟨rfl, ⟨rfl, ⟨fun z1484 => ((H.1 z1482).1 z1484), fun z1485 => ⟨rfl, ⟨rfl, ⟨rfl, ⟨((H.1 z1482).2 z1485).1, ((H.1 z1482).2 z1485).2⟩⟩⟩⟩⟩⟩⟩, fun z1483 => ⟨rfl, ⟨rfl, ⟨rfl, ⟨(H.2 z1483).1, ⟨fun z1486 => ⟨rfl, ⟨rfl, ⟨fun z1488 => (((H.2 z1483).2.1 z1486).1 z1488), fun z1489 => ⟨rfl, ⟨rfl, ⟨rfl, ⟨(((H.2 z1483).2.1 z1486).2 z1489).1, (((H.2 z1483).2.1 z1486).2 z1489).2⟩⟩⟩⟩⟩⟩⟩, fun z1487 => ⟨rfl, ⟨rfl, ((H.2 z1483).2.2 (Classical.not_not.mp z1487))⟩⟩⟩⟩⟩⟩⟩⟩⟩⟩)
set_option maxRecDepth 100000 in
theorem b_MO_fails_0 {d : Nat} {σ : fg_St} {Q : Int32 → fg_St → Prop} {a0 : Int32} {a1 : Int32} (H : Q a0 (fg_sF σ 187 11 a1)) : fg_Run d 118 0 [some (.ref 187), some (.int a0), some (.int a1)] [] σ Q := fg_blk [0] 5 (⟨rfl, H⟩)
set_option maxRecDepth 100000 in
theorem b_MO_takeNumber_0 {d : Nat} {σ : fg_St} {Q : Int32 → fg_St → Prop} {a0 : Int32} {a1 : Int32} (H : (∃ P, fg_Run d 117 0 [some (.ref 187)] [] σ P ∧ ∀ x1 u2, P x1 u2 → (∃ P, fg_Run d 110 0 [some (.long x1.toInt64), none, some (.long 48), none, some (.long 57), none] [] u2 P ∧ ∀ x3 u4, P x3 u4 → ((¬ x3 = 0 → fg_Run (d + 1) 119 40 [some (.ref 187), some (.int a0), some (.int a1), none, some (.int (fg_F u4 187 12))] [] (fg_sF u4 187 13 0) Q) ∧ (x3 = 0 → (∃ P, fg_Run d 118 0 [some (.ref 187), some (.int 1), some (.int (fg_F u4 187 12))] [] u4 P ∧ ∀ x5 u6, P x5 u6 → Q x5 u6)))))) : fg_Run (d + 1) 119 0 [some (.ref 187), some (.int a0), some (.int a1), none, none] [] σ Q := fg_blk [0, 40] 16 (⟨rfl, (match H with | ⟨z1490, z1491, z1492f⟩ => ⟨z1490, z1491, fun x1 u2 z1492p => (match (z1492f x1 u2 z1492p) with | ⟨z1493, z1494, z1495f⟩ => ⟨z1493, z1494, fun x3 u4 z1495p => ⟨fun z1496 => ⟨rfl, ⟨rfl, (fg_Run.drop (L := [some _, some _, some _, none, some _]) ⟨rfl, ⟨rfl, ⟨rfl, ⟨trivial, ⟨rfl, trivial⟩⟩⟩⟩⟩ ((z1495f x3 u4 z1495p).1 z1496))⟩⟩, fun z1497 => ⟨rfl, ⟨rfl, (match ((z1495f x3 u4 z1495p).2 (Classical.not_not.mp z1497)) with | ⟨z1498, z1499, z1500f⟩ => ⟨z1498, z1499, fun x5 u6 z1500p => (z1500f x5 u6 z1500p)⟩)⟩⟩⟩⟩)⟩)⟩)
set_option maxRecDepth 100000 in
theorem b_MO_takeNumber_40 {d : Nat} {σ : fg_St} {Q : Int32 → fg_St → Prop} {y1 : Int32} {y2 : Int32} {y4 : Int32} (H : (((fg_F σ 187 10) ≤ (fg_F σ 187 12) → ((3 < ((fg_F σ 187 12) - y4) → (∃ P, fg_Run d 118 0 [some (.ref 187), some (.int 2), some (.int y4)] [] σ P ∧ ∀ x1 u2, P x1 u2 → Q x1 u2)) ∧ (¬ (3 < ((fg_F σ 187 12) - y4)) → (∃ P, fg_Run d 110 0 [some (.long ((fg_F σ 187 13).toInt64)), none, some (.long y1.toInt64), none, some (.long y2.toInt64), none] [] σ P ∧ ∀ x3 u4, P x3 u4 → ((¬ x3 = 0 → Q 0 u4) ∧ (x3 = 0 → (∃ P, fg_Run d 118 0 [some (.ref 187), some (.int 2), some (.int y4)] [] u4 P ∧ ∀ x5 u6, P x5 u6 → Q x5 u6))))))) ∧ (¬ ((fg_F σ 187 10) ≤ (fg_F σ 187 12)) → (vp_in (fg_F σ 187 12) 240 ∧ (∃ P, fg_Run d 110 0 [some (.long ((fg_R σ 192 ((fg_F σ 187 12).toNatClampNeg)).toInt64)), none, some (.long 48), none, some (.long 57), none] [] σ P ∧ ∀ x7 u8, P x7 u8 → ((x7 = 0 → ((3 < ((fg_F u8 187 12) - y4) → (∃ P, fg_Run d 118 0 [some (.ref 187), some (.int 2), some (.int y4)] [] u8 P ∧ ∀ x9 u10, P x9 u10 → Q x9 u10)) ∧ (¬ (3 < ((fg_F u8 187 12) - y4)) → (∃ P, fg_Run d 110 0 [some (.long ((fg_F u8 187 13).toInt64)), none, some (.long y1.toInt64), none, some (.long y2.toInt64), none] [] u8 P ∧ ∀ x11 u12, P x11 u12 → ((¬ x11 = 0 → Q 0 u12) ∧ (x11 = 0 → (∃ P, fg_Run d 118 0 [some (.ref 187), some (.int 2), some (.int y4)] [] u12 P ∧ ∀ x13 u14, P x13 u14 → Q x13 u14))))))) ∧ (¬ (x7 = 0) → (((fg_F u8 187 13) ≤ 10000 → (vp_in (fg_F u8 187 12) 240 ∧ fg_Run (d + 1) 119 40 [some (.ref 187), some (.int y1), some (.int y2), none, some (.int y4)] [] (fg_sF (fg_sF u8 187 13 (((10 * (fg_F u8 187 13)) + (fg_R u8 192 ((fg_F u8 187 12).toNatClampNeg))) - 48)) 187 12 ((fg_F u8 187 12) + 1)) Q)) ∧ (¬ ((fg_F u8 187 13) ≤ 10000) → fg_Run (d + 1) 119 40 [some (.ref 187), some (.int y1), some (.int y2), none, some (.int y4)] [] (fg_sF (fg_sF u8 187 13 (fg_F u8 187 13)) 187 12 ((fg_F u8 187 12) + 1)) Q))))))))) : fg_Run (d + 1) 119 40 [some (.ref 187), some (.int y1), some (.int y2), none, some (.int y4)] [] σ Q := fg_blk [0, 40] 41 (⟨rfl, ⟨rfl, ⟨fun z1501 => ⟨rfl, ⟨fun z1503 => ⟨rfl, (match ((H.1 z1501).1 z1503) with | ⟨z1505, z1506, z1507f⟩ => ⟨z1505, z1506, fun x1 u2 z1507p => (z1507f x1 u2 z1507p)⟩)⟩, fun z1504 => ⟨rfl, (match ((H.1 z1501).2 z1504) with | ⟨z1508, z1509, z1510f⟩ => ⟨z1508, z1509, fun x3 u4 z1510p => ⟨fun z1511 => ((z1510f x3 u4 z1510p).1 z1511), fun z1512 => ⟨rfl, (match ((z1510f x3 u4 z1510p).2 (Classical.not_not.mp z1512)) with | ⟨z1513, z1514, z1515f⟩ => ⟨z1513, z1514, fun x5 u6 z1515p => (z1515f x5 u6 z1515p)⟩)⟩⟩⟩)⟩⟩⟩, fun z1502 => ⟨rfl, ⟨rfl, ⟨rfl, ⟨(H.2 z1502).1, (match (H.2 z1502).2 with | ⟨z1516, z1517, z1518f⟩ => ⟨z1516, z1517, fun x7 u8 z1518p => ⟨fun z1519 => ⟨rfl, ⟨fun z1521 => ⟨rfl, (match (((z1518f x7 u8 z1518p).1 z1519).1 z1521) with | ⟨z1523, z1524, z1525f⟩ => ⟨z1523, z1524, fun x9 u10 z1525p => (z1525f x9 u10 z1525p)⟩)⟩, fun z1522 => ⟨rfl, (match (((z1518f x7 u8 z1518p).1 z1519).2 z1522) with | ⟨z1526, z1527, z1528f⟩ => ⟨z1526, z1527, fun x11 u12 z1528p => ⟨fun z1529 => ((z1528f x11 u12 z1528p).1 z1529), fun z1530 => ⟨rfl, (match ((z1528f x11 u12 z1528p).2 (Classical.not_not.mp z1530)) with | ⟨z1531, z1532, z1533f⟩ => ⟨z1531, z1532, fun x13 u14 z1533p => (z1533f x13 u14 z1533p)⟩)⟩⟩⟩)⟩⟩⟩, fun z1520 => ⟨rfl, ⟨fun z1534 => ⟨rfl, ⟨rfl, ⟨rfl, ⟨rfl, ⟨(((z1518f x7 u8 z1518p).2 z1520).1 z1534).1, ⟨rfl, ⟨rfl, ⟨rfl, (((z1518f x7 u8 z1518p).2 z1520).1 z1534).2⟩⟩⟩⟩⟩⟩⟩⟩, fun z1535 => ⟨rfl, ⟨rfl, ⟨rfl, ⟨rfl, (((z1518f x7 u8 z1518p).2 z1520).2 z1535)⟩⟩⟩⟩⟩⟩⟩⟩)⟩⟩⟩⟩⟩⟩⟩)
set_option maxRecDepth 100000 in
theorem b_MO_takeLines_0 {d : Nat} {σ : fg_St} {Q : Int32 → fg_St → Prop} (H : (∃ P, fg_Run d 119 0 [some (.ref 187), some (.int 1), some (.int 3), none, none] [] σ P ∧ ∀ x1 u2, P x1 u2 → ((x1 ≤ 0 → (∃ P, fg_Run d 119 0 [some (.ref 187), some (.int 0), some (.int 3), none, none] [] (fg_sF u2 187 14 (fg_F u2 187 13)) P ∧ ∀ x3 u4, P x3 u4 → Q x3 (fg_sF u4 187 15 (fg_F u4 187 13)))) ∧ (¬ (x1 ≤ 0) → Q x1 (fg_sF (fg_sF u2 187 14 (fg_F u2 187 13)) 187 15 (fg_F u2 187 13)))))) : fg_Run (d + 1) 120 0 [some (.ref 187), none] [] σ Q := fg_blk [0] 22 (⟨rfl, (match H with | ⟨z1536, z1537, z1538f⟩ => ⟨z1536, z1537, fun x1 u2 z1538p => ⟨rfl, ⟨rfl, ⟨fun z1539 => ⟨rfl, (match ((z1538f x1 u2 z1538p).1 z1539) with | ⟨z1541, z1542, z1543f⟩ => ⟨z1541, z1542, fun x3 u4 z1543p => ⟨rfl, ⟨rfl, (z1543f x3 u4 z1543p)⟩⟩⟩)⟩, fun z1540 => ⟨rfl, ⟨rfl, ((z1538f x1 u2 z1538p).2 z1540)⟩⟩⟩⟩⟩⟩)⟩)
set_option maxRecDepth 100000 in
theorem b_MO_takeFlag_0 {d : Nat} {σ : fg_St} {Q : Int32 → fg_St → Prop} (H : (∃ P, fg_Run d 119 0 [some (.ref 187), some (.int 0), some (.int 3), none, none] [] σ P ∧ ∀ x1 u2, P x1 u2 → ((x1 ≤ 0 → (∃ P, fg_Run d 119 0 [some (.ref 187), some (.int 0), some (.int 4), none, none] [] u2 P ∧ ∀ x3 u4, P x3 u4 → ((x3 ≤ 0 → (∃ P, fg_Run d 119 0 [some (.ref 187), some (.int 0), some (.int 4), none, none] [] u4 P ∧ ∀ x5 u6, P x5 u6 → (vp_in (fg_F u6 187 16) 10 ∧ Q x5 (fg_sF (fg_sR u6 193 ((fg_F u6 187 16).toNatClampNeg) (((100 * (fg_F u2 187 13)) + (10 * (fg_F u4 187 13))) + (fg_F u6 187 13))) 187 16 ((fg_F u6 187 16) + 1))))) ∧ (¬ (x3 ≤ 0) → (vp_in (fg_F u4 187 16) 10 ∧ Q x3 (fg_sF (fg_sR u4 193 ((fg_F u4 187 16).toNatClampNeg) (((100 * (fg_F u2 187 13)) + (10 * (fg_F u4 187 13))) + (fg_F u4 187 13))) 187 16 ((fg_F u4 187 16) + 1))))))) ∧ (¬ (x1 ≤ 0) → ((x1 ≤ 0 → (∃ P, fg_Run d 119 0 [some (.ref 187), some (.int 0), some (.int 4), none, none] [] u2 P ∧ ∀ x7 u8, P x7 u8 → (vp_in (fg_F u8 187 16) 10 ∧ Q x7 (fg_sF (fg_sR u8 193 ((fg_F u8 187 16).toNatClampNeg) (((100 * (fg_F u2 187 13)) + (10 * (fg_F u2 187 13))) + (fg_F u8 187 13))) 187 16 ((fg_F u8 187 16) + 1))))) ∧ (¬ (x1 ≤ 0) → (vp_in (fg_F u2 187 16) 10 ∧ Q x1 (fg_sF (fg_sR u2 193 ((fg_F u2 187 16).toNatClampNeg) (((100 * (fg_F u2 187 13)) + (10 * (fg_F u2 187 13))) + (fg_F u2 187 13))) 187 16 ((fg_F u2 187 16) + 1))))))))) : fg_Run (d + 1) 121 0 [some (.ref 187), none, none, none] [] σ Q := fg_blk [0] 48 (⟨rfl, (match H with | ⟨z1544, z1545, z1546f⟩ => ⟨z1544, z1545, fun x1 u2 z1546p => ⟨rfl, ⟨fun z1547 => ⟨rfl, (match ((z1546f x1 u2 z1546p).1 z1547) with | ⟨z1549, z1550, z1551f⟩ => ⟨z1549, z1550, fun x3 u4 z1551p => ⟨rfl, ⟨fun z1552 => ⟨rfl, (match ((z1551f x3 u4 z1551p).1 z1552) with | ⟨z1554, z1555, z1556f⟩ => ⟨z1554, z1555, fun x5 u6 z1556p => ⟨rfl, ⟨rfl, ⟨rfl, ⟨rfl, ⟨(z1556f x5 u6 z1556p).1, ⟨rfl, ⟨rfl, (z1556f x5 u6 z1556p).2⟩⟩⟩⟩⟩⟩⟩⟩)⟩, fun z1553 => ⟨rfl, ⟨rfl, ⟨rfl, ⟨rfl, ⟨((z1551f x3 u4 z1551p).2 z1553).1, ⟨rfl, ⟨rfl, ((z1551f x3 u4 z1551p).2 z1553).2⟩⟩⟩⟩⟩⟩⟩⟩⟩⟩)⟩, fun z1548 => ⟨rfl, ⟨fun z1557 => ⟨rfl, (match (((z1546f x1 u2 z1546p).2 z1548).1 z1557) with | ⟨z1559, z1560, z1561f⟩ => ⟨z1559, z1560, fun x7 u8 z1561p => ⟨rfl, ⟨rfl, ⟨rfl, ⟨rfl, ⟨(z1561f x7 u8 z1561p).1, ⟨rfl, ⟨rfl, (z1561f x7 u8 z1561p).2⟩⟩⟩⟩⟩⟩⟩⟩)⟩, fun z1558 => ⟨rfl, ⟨rfl, ⟨rfl, ⟨rfl, ⟨(((z1546f x1 u2 z1546p).2 z1548).2 z1558).1, ⟨rfl, ⟨rfl, (((z1546f x1 u2 z1546p).2 z1548).2 z1558).2⟩⟩⟩⟩⟩⟩⟩⟩⟩⟩⟩⟩)⟩)
set_option maxRecDepth 100000 in
theorem b_MO_takeSignal_0 {d : Nat} {σ : fg_St} {Q : Int32 → fg_St → Prop} (H : (∃ P, fg_Run d 119 0 [some (.ref 187), some (.int 0), some (.int ((fg_F σ 187 16) - 1)), none, none] [] σ P ∧ ∀ x1 u2, P x1 u2 → (vp_in (4 * (fg_F u2 187 18)) 40 ∧ fg_Run (d + 1) 122 29 [some (.ref 187), some (.int x1), some (.int 1)] [] (fg_sR u2 195 ((4 * (fg_F u2 187 18)).toNatClampNeg) (fg_F u2 187 13)) Q))) : fg_Run (d + 1) 122 0 [some (.ref 187), none, none] [] σ Q := fg_blk [0, 29] 20 (⟨rfl, ⟨rfl, (match H with | ⟨z1562, z1563, z1564f⟩ => ⟨z1562, z1563, fun x1 u2 z1564p => ⟨rfl, ⟨rfl, ⟨rfl, ⟨rfl, ⟨(z1564f x1 u2 z1564p).1, (z1564f x1 u2 z1564p).2⟩⟩⟩⟩⟩⟩)⟩⟩)
set_option maxRecDepth 100000 in
theorem b_MO_takeSignal_29 {d : Nat} {σ : fg_St} {Q : Int32 → fg_St → Prop} {y1 : Int32} {y2 : Int32} (H : ((¬ y1 = 0 → (vp_in (fg_F σ 187 18) 10 ∧ Q y1 (fg_sF (fg_sR σ 194 ((fg_F σ 187 18).toNatClampNeg) y2) 187 18 ((fg_F σ 187 18) + 1)))) ∧ (y1 = 0 → (∃ P, fg_Run d 117 0 [some (.ref 187)] [] σ P ∧ ∀ x1 u2, P x1 u2 → ((¬ x1 = 44 → (vp_in (fg_F u2 187 18) 10 ∧ Q y1 (fg_sF (fg_sR u2 194 ((fg_F u2 187 18).toNatClampNeg) y2) 187 18 ((fg_F u2 187 18) + 1)))) ∧ (x1 = 44 → ((¬ y2 = 4 → (∃ P, fg_Run d 119 0 [some (.ref 187), some (.int 0), some (.int ((fg_F u2 187 16) - 1)), none, none] [] (fg_sF u2 187 12 ((fg_F u2 187 12) + 1)) P ∧ ∀ x3 u4, P x3 u4 → (vp_in ((4 * (fg_F u4 187 18)) + y2) 40 ∧ fg_Run (d + 1) 122 29 [some (.ref 187), some (.int x3), some (.int (y2 + 1))] [] (fg_sR u4 195 (((4 * (fg_F u4 187 18)) + y2).toNatClampNeg) (fg_F u4 187 13)) Q))) ∧ (y2 = 4 → (∃ P, fg_Run d 118 0 [some (.ref 187), some (.int 1), some (.int (fg_F u2 187 12))] [] u2 P ∧ ∀ x5 u6, P x5 u6 → Q x5 u6))))))))) : fg_Run (d + 1) 122 29 [some (.ref 187), some (.int y1), some (.int y2)] [] σ Q := fg_blk [0, 29] 37 (⟨fun z1565 => ⟨rfl, ⟨rfl, ⟨rfl, ⟨(H.1 z1565).1, ⟨rfl, ⟨rfl, (H.1 z1565).2⟩⟩⟩⟩⟩⟩, fun z1566 => ⟨rfl, (match (H.2 (Classical.not_not.mp z1566)) with | ⟨z1567, z1568, z1569f⟩ => ⟨z1567, z1568, fun x1 u2 z1569p => ⟨fun z1570 => ⟨rfl, ⟨rfl, ⟨rfl, ⟨((z1569f x1 u2 z1569p).1 z1570).1, ⟨rfl, ⟨rfl, ((z1569f x1 u2 z1569p).1 z1570).2⟩⟩⟩⟩⟩⟩, fun z1571 => ⟨fun z1572 => ⟨rfl, ⟨rfl, ⟨rfl, ⟨rfl, (match (((z1569f x1 u2 z1569p).2 (Classical.not_not.mp z1571)).1 z1572) with | ⟨z1574, z1575, z1576f⟩ => ⟨z1574, z1575, fun x3 u4 z1576p => ⟨rfl, ⟨rfl, ⟨rfl, ⟨rfl, ⟨(z1576f x3 u4 z1576p).1, (z1576f x3 u4 z1576p).2⟩⟩⟩⟩⟩⟩)⟩⟩⟩⟩, fun z1573 => ⟨rfl, ⟨rfl, (match (((z1569f x1 u2 z1569p).2 (Classical.not_not.mp z1571)).2 (Classical.not_not.mp z1573)) with | ⟨z1577, z1578, z1579f⟩ => ⟨z1577, z1578, fun x5 u6 z1579p => (z1579f x5 u6 z1579p)⟩)⟩⟩⟩⟩⟩)⟩⟩)
set_option maxRecDepth 100000 in
theorem b_MO_takeClause_0 {d : Nat} {σ : fg_St} {Q : Int32 → fg_St → Prop} (H : (∃ P, fg_Run d 117 0 [some (.ref 187)] [] σ P ∧ ∀ x1 u2, P x1 u2 → ((¬ x1 = 108 → ((¬ x1 = 102 → ((¬ x1 = 101 → (∃ P, fg_Run d 118 0 [some (.ref 187), some (.int 1), some (.int (fg_F u2 187 12))] [] u2 P ∧ ∀ x3 u4, P x3 u4 → Q x3 u4)) ∧ (x1 = 101 → ((¬ (fg_F u2 187 14) = 0 → ((¬ (fg_F u2 187 18) = 10 → (∃ P, fg_Run d 122 0 [some (.ref 187), none, none] [] (fg_sF u2 187 12 ((fg_F u2 187 12) + 1)) P ∧ ∀ x5 u6, P x5 u6 → ((¬ x5 = 0 → Q x5 (fg_sF u6 187 12 ((fg_F u6 187 12) + 1))) ∧ (x5 = 0 → (∃ P, fg_Run d 117 0 [some (.ref 187)] [] u6 P ∧ ∀ x7 u8, P x7 u8 → ((x7 = 59 → Q x5 (fg_sF u8 187 12 ((fg_F u8 187 12) + 1))) ∧ (¬ (x7 = 59) → (∃ P, fg_Run d 118 0 [some (.ref 187), some (.int 1), some (.int (fg_F u8 187 12))] [] u8 P ∧ ∀ x9 u10, P x9 u10 → Q x9 u10)))))))) ∧ ((fg_F u2 187 18) = 10 → (∃ P, fg_Run d 118 0 [some (.ref 187), some (.int 3), some (.int (fg_F u2 187 12))] [] u2 P ∧ ∀ x11 u12, P x11 u12 → Q x11 u12)))) ∧ ((fg_F u2 187 14) = 0 → (∃ P, fg_Run d 118 0 [some (.ref 187), some (.int 1), some (.int (fg_F u2 187 12))] [] u2 P ∧ ∀ x13 u14, P x13 u14 → Q x13 u14)))))) ∧ (x1 = 102 → ((¬ (fg_F u2 187 14) = 0 → ((¬ (fg_F u2 187 16) = 10 → (∃ P, fg_Run d 121 0 [some (.ref 187), none, none, none] [] (fg_sF u2 187 12 ((fg_F u2 187 12) + 1)) P ∧ ∀ x15 u16, P x15 u16 → ((¬ x15 = 0 → Q x15 (fg_sF u16 187 12 ((fg_F u16 187 12) + 1))) ∧ (x15 = 0 → (∃ P, fg_Run d 117 0 [some (.ref 187)] [] u16 P ∧ ∀ x17 u18, P x17 u18 → ((x17 = 59 → Q x15 (fg_sF u18 187 12 ((fg_F u18 187 12) + 1))) ∧ (¬ (x17 = 59) → (∃ P, fg_Run d 118 0 [some (.ref 187), some (.int 1), some (.int (fg_F u18 187 12))] [] u18 P ∧ ∀ x19 u20, P x19 u20 → Q x19 u20)))))))) ∧ ((fg_F u2 187 16) = 10 → (∃ P, fg_Run d 118 0 [some (.ref 187), some (.int 3), some (.int (fg_F u2 187 12))] [] u2 P ∧ ∀ x21 u22, P x21 u22 → Q x21 u22)))) ∧ ((fg_F u2 187 14) = 0 → (∃ P, fg_Run d 118 0 [some (.ref 187), some (.int 1), some (.int (fg_F u2 187 12))] [] u2 P ∧ ∀ x23 u24, P x23 u24 → Q x23 u24)))))) ∧ (x1 = 108 → (((fg_F u2 187 14) ≤ 0 → (∃ P, fg_Run d 120 0 [some (.ref 187), none] [] (fg_sF u2 187 12 ((fg_F u2 187 12) + 1)) P ∧ ∀ x25 u26, P x25 u26 → ((¬ x25 = 0 → Q x25 (fg_sF u26 187 12 ((fg_F u26 187 12) + 1))) ∧ (x25 = 0 → (∃ P, fg_Run d 117 0 [some (.ref 187)] [] u26 P ∧ ∀ x27 u28, P x27 u28 → ((x27 = 59 → Q x25 (fg_sF u28 187 12 ((fg_F u28 187 12) + 1))) ∧ (¬ (x27 = 59) → (∃ P, fg_Run d 118 0 [some (.ref 187), some (.int 1), some (.int (fg_F u28 187 12))] [] u28 P ∧ ∀ x29 u30, P x29 u30 → Q x29 u30)))))))) ∧ (¬ ((fg_F u2 187 14) ≤ 0) → (∃ P, fg_Run d 118 0 [some (.ref 187), some (.int 3), some (.int (fg_F u2 187 12))] [] u2 P ∧ ∀ x31 u32, P x31 u32 → Q x31 u32))))))) : fg_Run (d + 1) 123 0 [some (.ref 187), none, none, none, none] [] σ Q := fg_blk [0] 63 (⟨rfl, (match H with | ⟨z1580, z1581, z1582f⟩ => ⟨z1580, z1581, fun x1 u2 z1582p => ⟨fun z1583 => ⟨fun z1585 => ⟨fun z1587 => ⟨fun _ => ⟨rfl, ⟨rfl, (match ((((z1582f x1 u2 z1582p).1 z1583).1 z1585).1 z1587) with | ⟨z1590, z1591, z1592f⟩ => ⟨z1590, z1591, fun x3 u4 z1592p => (z1592f x3 u4 z1592p)⟩)⟩⟩, fun z1589 => absurd (show ((-1) : Int32) < 0 from by decide) z1589⟩, fun z1588 => ⟨fun z1593 => absurd z1593 (show ¬ ((2 : Int32) < 0) from by decide), fun _ => ⟨fun z1594 => absurd z1594 (show ¬ ((2 : Int32) ≤ 0) from by decide), fun _ => ⟨rfl, ⟨fun z1595 => ⟨fun _ => ⟨fun _ => ⟨rfl, ⟨fun z1599 => ⟨fun _ => ⟨rfl, ⟨rfl, ⟨fun _ => ⟨fun _ => ⟨rfl, (match ((((((z1582f x1 u2 z1582p).1 z1583).1 z1585).2 (Classical.not_not.mp z1588)).1 z1595).1 z1599) with | ⟨z1604, z1605, z1606f⟩ => ⟨z1604, z1605, fun x5 u6 z1606p => ⟨fun z1607 => ⟨rfl, ⟨rfl, ((z1606f x5 u6 z1606p).1 z1607)⟩⟩, fun z1608 => ⟨rfl, (match ((z1606f x5 u6 z1606p).2 (Classical.not_not.mp z1608)) with | ⟨z1609, z1610, z1611f⟩ => ⟨z1609, z1610, fun x7 u8 z1611p => ⟨fun z1612 => ⟨rfl, ⟨rfl, ((z1611f x7 u8 z1611p).1 z1612)⟩⟩, fun z1613 => ⟨rfl, ⟨rfl, (match ((z1611f x7 u8 z1611p).2 z1613) with | ⟨z1614, z1615, z1616f⟩ => ⟨z1614, z1615, fun x9 u10 z1616p => (z1616f x9 u10 z1616p)⟩)⟩⟩⟩⟩)⟩⟩⟩)⟩, fun z1603 => absurd (show ¬ (2 : Int32) = 1 from by decide) z1603⟩, fun z1602 => absurd (show ¬ (2 : Int32) = 0 from by decide) z1602⟩⟩⟩, fun z1601 => absurd (show (0 : Int32) = 0 from by decide) z1601⟩, fun z1600 => ⟨fun z1617 => absurd z1617 (show ¬ ((1 : Int32) = 0) from by decide), fun _ => ⟨rfl, ⟨rfl, (match ((((((z1582f x1 u2 z1582p).1 z1583).1 z1585).2 (Classical.not_not.mp z1588)).1 z1595).2 (Classical.not_not.mp z1600)) with | ⟨z1618, z1619, z1620f⟩ => ⟨z1618, z1619, fun x11 u12 z1620p => (z1620f x11 u12 z1620p)⟩)⟩⟩⟩⟩⟩, fun z1598 => absurd (show ¬ (2 : Int32) = 1 from by decide) z1598⟩, fun z1597 => absurd (show ¬ (2 : Int32) = 0 from by decide) z1597⟩, fun z1596 => ⟨rfl, ⟨rfl, (match (((((z1582f x1 u2 z1582p).1 z1583).1 z1585).2 (Classical.not_not.mp z1588)).2 (Classical.not_not.mp z1596)) with | ⟨z1621, z1622, z1623f⟩ => ⟨z1621, z1622, fun x13 u14 z1623p => (z1623f x13 u14 z1623p)⟩)⟩⟩⟩⟩⟩⟩⟩, fun z1586 => ⟨fun z1624 => absurd z1624 (show ¬ ((1 : Int32) < 0) from by decide), fun _ => ⟨fun z1625 => absurd z1625 (show ¬ ((1 : Int32) ≤ 0) from by decide), fun _ => ⟨rfl, ⟨fun z1626 => ⟨fun _ => ⟨fun z1629 => absurd z1629 (show ¬ (¬ (1 : Int32) = 1) from by decide), fun _ => ⟨rfl, ⟨fun z1630 => ⟨fun _ => ⟨rfl, ⟨rfl, ⟨fun _ => ⟨fun z1634 => absurd z1634 (show ¬ (¬ (1 : Int32) = 1) from by decide), fun _ => ⟨rfl, (match (((((z1582f x1 u2 z1582p).1 z1583).2 (Classical.not_not.mp z1586)).1 z1626).1 z1630) with | ⟨z1635, z1636, z1637f⟩ => ⟨z1635, z1636, fun x15 u16 z1637p => ⟨fun z1638 => ⟨rfl, ⟨rfl, ((z1637f x15 u16 z1637p).1 z1638)⟩⟩, fun z1639 => ⟨rfl, (match ((z1637f x15 u16 z1637p).2 (Classical.not_not.mp z1639)) with | ⟨z1640, z1641, z1642f⟩ => ⟨z1640, z1641, fun x17 u18 z1642p => ⟨fun z1643 => ⟨rfl, ⟨rfl, ((z1642f x17 u18 z1642p).1 z1643)⟩⟩, fun z1644 => ⟨rfl, ⟨rfl, (match ((z1642f x17 u18 z1642p).2 z1644) with | ⟨z1645, z1646, z1647f⟩ => ⟨z1645, z1646, fun x19 u20 z1647p => (z1647f x19 u20 z1647p)⟩)⟩⟩⟩⟩)⟩⟩⟩)⟩⟩, fun z1633 => absurd (show ¬ (1 : Int32) = 0 from by decide) z1633⟩⟩⟩, fun z1632 => absurd (show (0 : Int32) = 0 from by decide) z1632⟩, fun z1631 => ⟨fun z1648 => absurd z1648 (show ¬ ((1 : Int32) = 0) from by decide), fun _ => ⟨rfl, ⟨rfl, (match (((((z1582f x1 u2 z1582p).1 z1583).2 (Classical.not_not.mp z1586)).1 z1626).2 (Classical.not_not.mp z1631)) with | ⟨z1649, z1650, z1651f⟩ => ⟨z1649, z1650, fun x21 u22 z1651p => (z1651f x21 u22 z1651p)⟩)⟩⟩⟩⟩⟩⟩, fun z1628 => absurd (show ¬ (1 : Int32) = 0 from by decide) z1628⟩, fun z1627 => ⟨rfl, ⟨rfl, (match ((((z1582f x1 u2 z1582p).1 z1583).2 (Classical.not_not.mp z1586)).2 (Classical.not_not.mp z1627)) with | ⟨z1652, z1653, z1654f⟩ => ⟨z1652, z1653, fun x23 u24 z1654p => (z1654f x23 u24 z1654p)⟩)⟩⟩⟩⟩⟩⟩⟩, fun z1584 => ⟨fun z1655 => absurd z1655 (show ¬ ((0 : Int32) < 0) from by decide), fun _ => ⟨fun _ => ⟨fun z1657 => absurd z1657 (show ¬ (¬ (0 : Int32) = 0) from by decide), fun _ => ⟨rfl, ⟨fun z1658 => ⟨fun _ => ⟨rfl, ⟨rfl, ⟨fun z1661 => absurd z1661 (show ¬ (¬ (0 : Int32) = 0) from by decide), fun _ => ⟨rfl, (match (((z1582f x1 u2 z1582p).2 (Classical.not_not.mp z1584)).1 z1658) with | ⟨z1662, z1663, z1664f⟩ => ⟨z1662, z1663, fun x25 u26 z1664p => ⟨fun z1665 => ⟨rfl, ⟨rfl, ((z1664f x25 u26 z1664p).1 z1665)⟩⟩, fun z1666 => ⟨rfl, (match ((z1664f x25 u26 z1664p).2 (Classical.not_not.mp z1666)) with | ⟨z1667, z1668, z1669f⟩ => ⟨z1667, z1668, fun x27 u28 z1669p => ⟨fun z1670 => ⟨rfl, ⟨rfl, ((z1669f x27 u28 z1669p).1 z1670)⟩⟩, fun z1671 => ⟨rfl, ⟨rfl, (match ((z1669f x27 u28 z1669p).2 z1671) with | ⟨z1672, z1673, z1674f⟩ => ⟨z1672, z1673, fun x29 u30 z1674p => (z1674f x29 u30 z1674p)⟩)⟩⟩⟩⟩)⟩⟩⟩)⟩⟩⟩⟩, fun z1660 => absurd (show (0 : Int32) = 0 from by decide) z1660⟩, fun z1659 => ⟨fun z1675 => absurd z1675 (show ¬ ((1 : Int32) = 0) from by decide), fun _ => ⟨rfl, ⟨rfl, (match (((z1582f x1 u2 z1582p).2 (Classical.not_not.mp z1584)).2 z1659) with | ⟨z1676, z1677, z1678f⟩ => ⟨z1676, z1677, fun x31 u32 z1678p => (z1678f x31 u32 z1678p)⟩)⟩⟩⟩⟩⟩⟩, fun z1656 => absurd (show (0 : Int32) ≤ 0 from by decide) z1656⟩⟩⟩⟩)⟩)
set_option maxRecDepth 100000 in
theorem b_MO_copyRow_0 {d : Nat} {σ : fg_St} {Q : Int32 → fg_St → Prop} {h1 : Nat} {h2 : Nat} {a2 : Int32} (H : fg_Run d 124 2 [some (.ref h1), some (.ref h2), some (.int a2), some (.int 0)] [] σ Q) : fg_Run d 124 0 [some (.ref h1), some (.ref h2), some (.int a2), none] [] σ Q := fg_blk [0, 2] 3 (H)
set_option maxRecDepth 100000 in
theorem b_MO_copyRow_2 {d : Nat} {σ : fg_St} {Q : Int32 → fg_St → Prop} {h1 : Nat} {h2 : Nat} {y2 : Int32} {y3 : Int32} (H : ((y2 ≤ y3 → Q 0 σ) ∧ (¬ (y2 ≤ y3) → (fg_kd h1 = 11 ∧ (vp_in y3 (fg_ln h1) ∧ (fg_kd h2 = 11 ∧ (vp_in y3 (fg_ln h2) ∧ fg_Run d 124 2 [some (.ref h1), some (.ref h2), some (.int y2), some (.int (y3 + 1))] [] (fg_sR σ h2 y3.toNatClampNeg (fg_R σ h1 y3.toNatClampNeg)) Q))))))) : fg_Run d 124 2 [some (.ref h1), some (.ref h2), some (.int y2), some (.int y3)] [] σ Q := fg_blk [0, 2] 12 (⟨fun z1679 => (H.1 z1679), fun z1680 => ⟨(H.2 z1680).1, ⟨(H.2 z1680).2.1, ⟨(H.2 z1680).2.2.1, ⟨(H.2 z1680).2.2.2.1, (H.2 z1680).2.2.2.2⟩⟩⟩⟩⟩)
set_option maxRecDepth 100000 in
theorem b_MO_beginAll_0 {d : Nat} {σ : fg_St} {Q : Int32 → fg_St → Prop} (H : fg_Run (d + 1) 125 2 [some (.ref 187), some (.int 0)] [] σ Q) : fg_Run (d + 1) 125 0 [some (.ref 187), none] [] σ Q := fg_blk [0, 2] 3 (H)
set_option maxRecDepth 100000 in
theorem b_MO_beginAll_2 {d : Nat} {σ : fg_St} {Q : Int32 → fg_St → Prop} {y1 : Int32} (H : ((61 ≤ y1 → (∃ P, fg_Run d 124 0 [some (.ref 188), some (.ref 191), some (.int (fg_F σ 187 2)), none] [] σ P ∧ ∀ x1 u2, P x1 u2 → (((fg_F u2 187 0) ≤ 0 → Q 0 (fg_sR u2 191 59 0)) ∧ (¬ ((fg_F u2 187 0) ≤ 0) → Q 0 (fg_sR u2 191 59 1))))) ∧ (¬ (61 ≤ y1) → (∃ P, fg_Run d 110 0 [some (.long y1.toInt64), none, some (.long 20), none, some (.long 29), none] [] σ P ∧ ∀ x3 u4, P x3 u4 → ((¬ x3 = 0 → (vp_in y1 61 ∧ fg_Run (d + 1) 125 2 [some (.ref 187), some (.int (y1 + 1))] [] (fg_sR u4 191 y1.toNatClampNeg (-1)) Q)) ∧ (x3 = 0 → (∃ P, fg_Run d 110 0 [some (.long y1.toInt64), none, some (.long 40), none, some (.long 57), none] [] u4 P ∧ ∀ x5 u6, P x5 u6 → ((x5 = 0 → (vp_in y1 61 ∧ fg_Run (d + 1) 125 2 [some (.ref 187), some (.int (y1 + 1))] [] (fg_sR u6 191 y1.toNatClampNeg 0) Q)) ∧ (¬ (x5 = 0) → (vp_in y1 61 ∧ fg_Run (d + 1) 125 2 [some (.ref 187), some (.int (y1 + 1))] [] (fg_sR u6 191 y1.toNatClampNeg (-1)) Q)))))))))) : fg_Run (d + 1) 125 2 [some (.ref 187), some (.int y1)] [] σ Q := fg_blk [0, 2] 24 (⟨fun z1681 => ⟨rfl, ⟨rfl, ⟨rfl, (match (H.1 z1681) with | ⟨z1683, z1684, z1685f⟩ => ⟨z1683, z1684, fun x1 u2 z1685p => ⟨rfl, ⟨rfl, ⟨fun z1686 => ⟨rfl, ⟨fg_vin rfl rfl, ((z1685f x1 u2 z1685p).1 z1686)⟩⟩, fun z1687 => ⟨rfl, ⟨fg_vin rfl rfl, ((z1685f x1 u2 z1685p).2 z1687)⟩⟩⟩⟩⟩⟩)⟩⟩⟩, fun z1682 => ⟨rfl, (match (H.2 z1682) with | ⟨z1688, z1689, z1690f⟩ => ⟨z1688, z1689, fun x3 u4 z1690p => ⟨fun z1691 => ⟨rfl, ⟨((z1690f x3 u4 z1690p).1 z1691).1, ((z1690f x3 u4 z1690p).1 z1691).2⟩⟩, fun z1692 => (match ((z1690f x3 u4 z1690p).2 (Classical.not_not.mp z1692)) with | ⟨z1693, z1694, z1695f⟩ => ⟨z1693, z1694, fun x5 u6 z1695p => ⟨fun z1696 => ⟨rfl, ⟨((z1695f x5 u6 z1695p).1 z1696).1, ((z1695f x5 u6 z1695p).1 z1696).2⟩⟩, fun z1697 => ⟨rfl, ⟨((z1695f x5 u6 z1695p).2 z1697).1, ((z1695f x5 u6 z1695p).2 z1697).2⟩⟩⟩⟩)⟩⟩)⟩⟩)
set_option maxRecDepth 100000 in
theorem b_MO_ship_0 {d : Nat} {σ : fg_St} {Q : Int32 → fg_St → Prop} (H : fg_Run (d + 1) 126 32 [some (.ref 187), some (.int 0)] [] (fg_sF (fg_sF (fg_sF (fg_sF (fg_sF (fg_sF σ 187 11 (-1)) 187 12 0) 187 14 0) 187 15 0) 187 16 0) 187 18 0) Q) : fg_Run (d + 1) 126 0 [some (.ref 187), none] [] σ Q := fg_blk [0, 32] 21 (⟨rfl, ⟨rfl, ⟨rfl, ⟨rfl, ⟨rfl, ⟨rfl, H⟩⟩⟩⟩⟩⟩)
set_option maxRecDepth 100000 in
theorem b_MO_ship_32 {d : Nat} {σ : fg_St} {Q : Int32 → fg_St → Prop} {y1 : Int32} (H : ((¬ y1 = 0 → ((y1 ≤ 0 → (∃ P, fg_Run d 124 0 [some (.ref 193), some (.ref 188), some (.int (fg_F σ 187 16)), none] [] (fg_sF (fg_sF (fg_sF (fg_sF (fg_sF σ 187 10 0) 187 0 (fg_F σ 187 14)) 187 1 (fg_F σ 187 15)) 187 2 (fg_F σ 187 16)) 187 4 (fg_F σ 187 18)) P ∧ ∀ x1 u2, P x1 u2 → (∃ P, fg_Run d 124 0 [some (.ref 194), some (.ref 189), some (.int (fg_F u2 187 4)), none] [] u2 P ∧ ∀ x3 u4, P x3 u4 → (∃ P, fg_Run d 124 0 [some (.ref 195), some (.ref 190), some (.int (4 * (fg_F u4 187 4))), none] [] u4 P ∧ ∀ x5 u6, P x5 u6 → (∃ P, fg_Run d 125 0 [some (.ref 187), none] [] u6 P ∧ ∀ x7 u8, P x7 u8 → Q (fg_F u8 187 4) (fg_sR (fg_sR (fg_sF (fg_sF (fg_sF u8 187 26 0) 187 32 0) 187 30 0) 208 0 0) 208 1 0)))))) ∧ (¬ (y1 ≤ 0) → Q ((-10) - y1) (fg_sF σ 187 10 0)))) ∧ (y1 = 0 → (∃ P, fg_Run d 117 0 [some (.ref 187)] [] σ P ∧ ∀ x9 u10, P x9 u10 → ((x9 < 0 → ((y1 ≤ 0 → (∃ P, fg_Run d 124 0 [some (.ref 193), some (.ref 188), some (.int (fg_F u10 187 16)), none] [] (fg_sF (fg_sF (fg_sF (fg_sF (fg_sF u10 187 10 0) 187 0 (fg_F u10 187 14)) 187 1 (fg_F u10 187 15)) 187 2 (fg_F u10 187 16)) 187 4 (fg_F u10 187 18)) P ∧ ∀ x11 u12, P x11 u12 → (∃ P, fg_Run d 124 0 [some (.ref 194), some (.ref 189), some (.int (fg_F u12 187 4)), none] [] u12 P ∧ ∀ x13 u14, P x13 u14 → (∃ P, fg_Run d 124 0 [some (.ref 195), some (.ref 190), some (.int (4 * (fg_F u14 187 4))), none] [] u14 P ∧ ∀ x15 u16, P x15 u16 → (∃ P, fg_Run d 125 0 [some (.ref 187), none] [] u16 P ∧ ∀ x17 u18, P x17 u18 → Q (fg_F u18 187 4) (fg_sR (fg_sR (fg_sF (fg_sF (fg_sF u18 187 26 0) 187 32 0) 187 30 0) 208 0 0) 208 1 0)))))) ∧ (¬ (y1 ≤ 0) → Q ((-10) - y1) (fg_sF u10 187 10 0)))) ∧ (¬ (x9 < 0) → (∃ P, fg_Run d 123 0 [some (.ref 187), none, none, none, none] [] u10 P ∧ ∀ x19 u20, P x19 u20 → fg_Run (d + 1) 126 32 [some (.ref 187), some (.int x19)] [] u20 Q))))))) : fg_Run (d + 1) 126 32 [some (.ref 187), some (.int y1)] [] σ Q := fg_blk [0, 32] 73 (⟨fun z1698 => ⟨rfl, ⟨fun z1700 => ⟨rfl, ⟨rfl, ⟨rfl, ⟨rfl, ⟨rfl, ⟨rfl, ⟨rfl, ⟨rfl, ⟨rfl, ⟨rfl, ⟨rfl, (match ((H.1 z1698).1 z1700) with | ⟨z1702, z1703, z1704f⟩ => ⟨z1702, z1703, fun x1 u2 z1704p => ⟨rfl, ⟨rfl, ⟨rfl, (match (z1704f x1 u2 z1704p) with | ⟨z1705, z1706, z1707f⟩ => ⟨z1705, z1706, fun x3 u4 z1707p => ⟨rfl, ⟨rfl, ⟨rfl, (match (z1707f x3 u4 z1707p) with | ⟨z1708, z1709, z1710f⟩ => ⟨z1708, z1709, fun x5 u6 z1710p => ⟨rfl, (match (z1710f x5 u6 z1710p) with | ⟨z1711, z1712, z1713f⟩ => ⟨z1711, z1712, fun x7 u8 z1713p => ⟨rfl, ⟨rfl, ⟨rfl, ⟨rfl, ⟨rfl, ⟨fg_vin rfl rfl, ⟨(by decide), ⟨rfl, ⟨rfl, ⟨fg_vin rfl rfl, ⟨(by decide), ⟨rfl, (z1713f x7 u8 z1713p)⟩⟩⟩⟩⟩⟩⟩⟩⟩⟩⟩⟩⟩)⟩⟩)⟩⟩⟩⟩)⟩⟩⟩⟩)⟩⟩⟩⟩⟩⟩⟩⟩⟩⟩⟩, fun z1701 => ((H.1 z1698).2 z1701)⟩⟩, fun z1699 => ⟨rfl, (match (H.2 (Classical.not_not.mp z1699)) with | ⟨z1714, z1715, z1716f⟩ => ⟨z1714, z1715, fun x9 u10 z1716p => ⟨fun z1717 => ⟨rfl, ⟨fun z1719 => ⟨rfl, ⟨rfl, ⟨rfl, ⟨rfl, ⟨rfl, ⟨rfl, ⟨rfl, ⟨rfl, ⟨rfl, ⟨rfl, ⟨rfl, (match (((z1716f x9 u10 z1716p).1 z1717).1 z1719) with | ⟨z1721, z1722, z1723f⟩ => ⟨z1721, z1722, fun x11 u12 z1723p => ⟨rfl, ⟨rfl, ⟨rfl, (match (z1723f x11 u12 z1723p) with | ⟨z1724, z1725, z1726f⟩ => ⟨z1724, z1725, fun x13 u14 z1726p => ⟨rfl, ⟨rfl, ⟨rfl, (match (z1726f x13 u14 z1726p) with | ⟨z1727, z1728, z1729f⟩ => ⟨z1727, z1728, fun x15 u16 z1729p => ⟨rfl, (match (z1729f x15 u16 z1729p) with | ⟨z1730, z1731, z1732f⟩ => ⟨z1730, z1731, fun x17 u18 z1732p => ⟨rfl, ⟨rfl, ⟨rfl, ⟨rfl, ⟨rfl, ⟨fg_vin rfl rfl, ⟨(by decide), ⟨rfl, ⟨rfl, ⟨fg_vin rfl rfl, ⟨(by decide), ⟨rfl, (z1732f x17 u18 z1732p)⟩⟩⟩⟩⟩⟩⟩⟩⟩⟩⟩⟩⟩)⟩⟩)⟩⟩⟩⟩)⟩⟩⟩⟩)⟩⟩⟩⟩⟩⟩⟩⟩⟩⟩⟩, fun z1720 => (((z1716f x9 u10 z1716p).1 z1717).2 z1720)⟩⟩, fun z1718 => ⟨rfl, (match ((z1716f x9 u10 z1716p).2 z1718) with | ⟨z1733, z1734, z1735f⟩ => ⟨z1733, z1734, fun x19 u20 z1735p => (z1735f x19 u20 z1735p)⟩)⟩⟩⟩)⟩⟩)
set_option maxRecDepth 100000 in
theorem b_MO_fault_0 {d : Nat} {σ : fg_St} {Q : Int32 → fg_St → Prop} (H : Q (fg_F σ 187 11) σ) : fg_Run d 127 0 [some (.ref 187)] [] σ Q := fg_blk [0] 3 (⟨rfl, H⟩)
set_option maxRecDepth 100000 in
theorem b_MO_freeFlags_0 {d : Nat} {σ : fg_St} {Q : Int32 → fg_St → Prop} (H : fg_Run d 128 4 [some (.ref 187), some (.int 0), some (.int 0)] [] σ Q) : fg_Run d 128 0 [some (.ref 187), none, none] [] σ Q := fg_blk [0, 4] 5 (H)
set_option maxRecDepth 100000 in
theorem b_MO_freeFlags_4 {d : Nat} {σ : fg_St} {Q : Int32 → fg_St → Prop} {y1 : Int32} {y2 : Int32} (H : (((fg_F σ 187 2) ≤ y2 → Q y1 σ) ∧ (¬ ((fg_F σ 187 2) ≤ y2) → (vp_in (20 + y2) 61 ∧ ((¬ (fg_R σ 191 ((20 + y2).toNatClampNeg)) = (-1) → fg_Run d 128 4 [some (.ref 187), some (.int (y1 ||| 0)), some (.int (y2 + 1))] [] σ Q) ∧ ((fg_R σ 191 ((20 + y2).toNatClampNeg)) = (-1) → (vp_in (30 + y2) 61 ∧ ((¬ (fg_R σ 191 ((30 + y2).toNatClampNeg)) = 0 → fg_Run d 128 4 [some (.ref 187), some (.int (y1 ||| 0)), some (.int (y2 + 1))] [] σ Q) ∧ ((fg_R σ 191 ((30 + y2).toNatClampNeg)) = 0 → fg_Run d 128 4 [some (.ref 187), some (.int (y1 ||| (1 <<< (y2 &&& 31)))), some (.int (y2 + 1))] [] σ Q))))))))) : fg_Run d 128 4 [some (.ref 187), some (.int y1), some (.int y2)] [] σ Q := fg_blk [0, 4] 29 (⟨rfl, ⟨fun z1736 => (H.1 z1736), fun z1737 => ⟨rfl, ⟨rfl, ⟨(H.2 z1737).1, ⟨fun z1738 => ((H.2 z1737).2.1 z1738), fun z1739 => ⟨rfl, ⟨rfl, ⟨((H.2 z1737).2.2 (Classical.not_not.mp z1739)).1, ⟨fun z1740 => (((H.2 z1737).2.2 (Classical.not_not.mp z1739)).2.1 z1740), fun z1741 => (((H.2 z1737).2.2 (Classical.not_not.mp z1739)).2.2 (Classical.not_not.mp z1741))⟩⟩⟩⟩⟩⟩⟩⟩⟩⟩)
set_option maxRecDepth 100000 in
theorem b_MO_tornFlags_0 {d : Nat} {σ : fg_St} {Q : Int32 → fg_St → Prop} (H : fg_Run d 129 4 [some (.ref 187), some (.int 0), some (.int 0)] [] σ Q) : fg_Run d 129 0 [some (.ref 187), none, none] [] σ Q := fg_blk [0, 4] 5 (H)
set_option maxRecDepth 100000 in
theorem b_MO_tornFlags_4 {d : Nat} {σ : fg_St} {Q : Int32 → fg_St → Prop} {y1 : Int32} {y2 : Int32} (H : (((fg_F σ 187 2) ≤ y2 → Q y1 σ) ∧ (¬ ((fg_F σ 187 2) ≤ y2) → (vp_in (30 + y2) 61 ∧ ((¬ (fg_R σ 191 ((30 + y2).toNatClampNeg)) = 1 → fg_Run d 129 4 [some (.ref 187), some (.int (y1 ||| 0)), some (.int (y2 + 1))] [] σ Q) ∧ ((fg_R σ 191 ((30 + y2).toNatClampNeg)) = 1 → fg_Run d 129 4 [some (.ref 187), some (.int (y1 ||| (1 <<< (y2 &&& 31)))), some (.int (y2 + 1))] [] σ Q)))))) : fg_Run d 129 4 [some (.ref 187), some (.int y1), some (.int y2)] [] σ Q := fg_blk [0, 4] 22 (⟨rfl, ⟨fun z1742 => (H.1 z1742), fun z1743 => ⟨rfl, ⟨rfl, ⟨(H.2 z1743).1, ⟨fun z1744 => ((H.2 z1743).2.1 z1744), fun z1745 => ((H.2 z1743).2.2 (Classical.not_not.mp z1745))⟩⟩⟩⟩⟩⟩)
set_option maxRecDepth 100000 in
theorem b_MO_freeSubs_0 {d : Nat} {σ : fg_St} {Q : Int32 → fg_St → Prop} (H : fg_Run d 130 4 [some (.ref 187), some (.int 0), some (.int 1)] [] σ Q) : fg_Run d 130 0 [some (.ref 187), none, none] [] σ Q := fg_blk [0, 4] 5 (H)
set_option maxRecDepth 100000 in
theorem b_MO_freeSubs_4 {d : Nat} {σ : fg_St} {Q : Int32 → fg_St → Prop} {y1 : Int32} {y2 : Int32} (H : (((fg_F σ 187 1) < y2 → Q y1 σ) ∧ (¬ ((fg_F σ 187 1) < y2) → (vp_in ((40 + y2) - 1) 61 ∧ ((¬ (fg_R σ 191 (((40 + y2) - 1).toNatClampNeg)) = (-1) → fg_Run d 130 4 [some (.ref 187), some (.int (y1 ||| 0)), some (.int (y2 + 1))] [] σ Q) ∧ ((fg_R σ 191 (((40 + y2) - 1).toNatClampNeg)) = (-1) → fg_Run d 130 4 [some (.ref 187), some (.int (y1 ||| (1 <<< (y2 &&& 31)))), some (.int (y2 + 1))] [] σ Q)))))) : fg_Run d 130 4 [some (.ref 187), some (.int y1), some (.int y2)] [] σ Q := fg_blk [0, 4] 24 (⟨rfl, ⟨fun z1746 => (H.1 z1746), fun z1747 => ⟨rfl, ⟨rfl, ⟨(H.2 z1747).1, ⟨fun z1748 => ((H.2 z1747).2.1 z1748), fun z1749 => ((H.2 z1747).2.2 (Classical.not_not.mp z1749))⟩⟩⟩⟩⟩⟩)
set_option maxRecDepth 100000 in
theorem b_MO_allSubs_0 {d : Nat} {σ : fg_St} {Q : Int32 → fg_St → Prop} (H : fg_Run d 131 4 [some (.ref 187), some (.int 0), some (.int 1)] [] σ Q) : fg_Run d 131 0 [some (.ref 187), none, none] [] σ Q := fg_blk [0, 4] 5 (H)
set_option maxRecDepth 100000 in
theorem b_MO_allSubs_4 {d : Nat} {σ : fg_St} {Q : Int32 → fg_St → Prop} {y1 : Int32} {y2 : Int32} (H : (((fg_F σ 187 1) < y2 → Q y1 σ) ∧ (¬ ((fg_F σ 187 1) < y2) → fg_Run d 131 4 [some (.ref 187), some (.int (y1 ||| (1 <<< (y2 &&& 31)))), some (.int (y2 + 1))] [] σ Q))) : fg_Run d 131 4 [some (.ref 187), some (.int y1), some (.int y2)] [] σ Q := fg_blk [0, 4] 13 (⟨rfl, ⟨fun z1750 => (H.1 z1750), fun z1751 => (H.2 z1751)⟩⟩)
set_option maxRecDepth 100000 in
theorem b_MO_isUsed_0 {d : Nat} {σ : fg_St} {Q : Int32 → fg_St → Prop} {a0 : Int32} {a1 : Int32} (H : fg_Run d 132 5 [some (.ref 187), some (.int a0), some (.int a1), some (.int 0), some (.int 0)] [] σ Q) : fg_Run d 132 0 [some (.ref 187), some (.int a0), some (.int a1), none, none] [] σ Q := fg_blk [0, 5] 5 (H)
set_option maxRecDepth 100000 in
theorem b_MO_isUsed_5 {d : Nat} {σ : fg_St} {Q : Int32 → fg_St → Prop} {y1 : Int32} {y2 : Int32} {y3 : Int32} {y4 : Int32} (H : ((y2 ≤ y4 → ((y3 = 0 ∨ y3 = 1) ∧ Q y3 σ)) ∧ (¬ (y2 ≤ y4) → ((¬ y3 = 0 → fg_Run d 132 5 [some (.ref 187), some (.int y1), some (.int y2), some (.int 1), some (.int (y4 + 1))] [] σ Q) ∧ (y3 = 0 → (vp_in y4 4 ∧ ((¬ (fg_R σ 196 y4.toNatClampNeg) = y1 → fg_Run d 132 5 [some (.ref 187), some (.int y1), some (.int y2), some (.int 0), some (.int (y4 + 1))] [] σ Q) ∧ ((fg_R σ 196 y4.toNatClampNeg) = y1 → fg_Run d 132 5 [some (.ref 187), some (.int y1), some (.int y2), some (.int 1), some (.int (y4 + 1))] [] σ Q)))))))) : fg_Run d 132 5 [some (.ref 187), some (.int y1), some (.int y2), some (.int y3), some (.int y4)] [] σ Q := fg_blk [0, 5] 17 (⟨fun z1752 => ⟨(H.1 z1752).1, (H.1 z1752).2⟩, fun z1753 => ⟨fun z1754 => ((H.2 z1753).1 z1754), fun z1755 => ⟨rfl, ⟨rfl, ⟨((H.2 z1753).2 (Classical.not_not.mp z1755)).1, ⟨fun z1756 => (((H.2 z1753).2 (Classical.not_not.mp z1755)).2.1 z1756), fun z1757 => (((H.2 z1753).2 (Classical.not_not.mp z1755)).2.2 (Classical.not_not.mp z1757))⟩⟩⟩⟩⟩⟩)
set_option maxRecDepth 100000 in
theorem b_MO_itemFor_0 {d : Nat} {σ : fg_St} {Q : Int32 → fg_St → Prop} {a0 : Int32} {a1 : Int32} {a2 : Int32} {a3 : Int32} (H : (vp_in ((4 * a0) + a1) 40 ∧ (∃ P, fg_Run d 111 0 [some (.int a2), some (.int (fg_R σ 190 (((4 * a0) + a1).toNatClampNeg)))] [] σ P ∧ ∀ x1 u2, P x1 u2 → ((x1 = 0 → fg_Run (d + 1) 133 37 [some (.ref 187), some (.int a0), some (.int a1), none, some (.int a3), some (.int (fg_R σ 190 (((4 * a0) + a1).toNatClampNeg))), some (.int 1)] [] u2 Q) ∧ (¬ (x1 = 0) → (∃ P, fg_Run d 132 0 [some (.ref 187), some (.int (fg_R σ 190 (((4 * a0) + a1).toNatClampNeg))), some (.int a1), none, none] [] u2 P ∧ ∀ x3 u4, P x3 u4 → ((¬ x3 = 0 → fg_Run (d + 1) 133 37 [some (.ref 187), some (.int a0), some (.int a1), none, some (.int a3), some (.int (fg_R σ 190 (((4 * a0) + a1).toNatClampNeg))), some (.int 1)] [] u4 Q) ∧ (x3 = 0 → Q (fg_R σ 190 (((4 * a0) + a1).toNatClampNeg)) u4)))))))) : fg_Run (d + 1) 133 0 [some (.ref 187), some (.int a0), some (.int a1), some (.int a2), some (.int a3), none, none] [] σ Q := fg_blk [0, 37] 21 (⟨rfl, ⟨rfl, ⟨H.1, (match H.2 with | ⟨z1758, z1759, z1760f⟩ => ⟨z1758, z1759, fun x1 u2 z1760p => ⟨fun z1761 => (fg_Run.drop (L := [some _, some _, some _, none, some _, some _, some _]) ⟨rfl, ⟨rfl, ⟨rfl, ⟨trivial, ⟨rfl, ⟨rfl, ⟨rfl, trivial⟩⟩⟩⟩⟩⟩⟩ ((z1760f x1 u2 z1760p).1 z1761)), fun z1762 => ⟨rfl, (match ((z1760f x1 u2 z1760p).2 z1762) with | ⟨z1763, z1764, z1765f⟩ => ⟨z1763, z1764, fun x3 u4 z1765p => ⟨fun z1766 => (fg_Run.drop (L := [some _, some _, some _, none, some _, some _, some _]) ⟨rfl, ⟨rfl, ⟨rfl, ⟨trivial, ⟨rfl, ⟨rfl, ⟨rfl, trivial⟩⟩⟩⟩⟩⟩⟩ ((z1765f x3 u4 z1765p).1 z1766)), fun z1767 => ((z1765f x3 u4 z1765p).2 (Classical.not_not.mp z1767))⟩⟩)⟩⟩⟩)⟩⟩⟩)
set_option maxRecDepth 100000 in
theorem b_MO_itemFor_37 {d : Nat} {σ : fg_St} {Q : Int32 → fg_St → Prop} {y1 : Int32} {y2 : Int32} {y4 : Int32} {y5 : Int32} {y6 : Int32} (H : ((y2 < y6 → Q (-1) σ) ∧ (¬ (y2 < y6) → (∃ P, fg_Run d 111 0 [some (.int y4), some (.int y6)] [] σ P ∧ ∀ x1 u2, P x1 u2 → ((x1 = 0 → fg_Run (d + 1) 133 37 [some (.ref 187), some (.int y1), some (.int y2), none, some (.int y4), some (.int y5), some (.int (y6 + 1))] [] u2 Q) ∧ (¬ (x1 = 0) → (∃ P, fg_Run d 132 0 [some (.ref 187), some (.int (20 + y6)), some (.int y2), none, none] [] u2 P ∧ ∀ x3 u4, P x3 u4 → ((¬ x3 = 0 → fg_Run (d + 1) 133 37 [some (.ref 187), some (.int y1), some (.int y2), none, some (.int y4), some (.int y5), some (.int (y6 + 1))] [] u4 Q) ∧ (x3 = 0 → (vp_in (((4 * y1) + y6) - 1) 40 ∧ ((¬ (fg_R u4 190 ((((4 * y1) + y6) - 1).toNatClampNeg)) = y5 → fg_Run (d + 1) 133 37 [some (.ref 187), some (.int y1), some (.int y2), none, some (.int y4), some (.int y5), some (.int (y6 + 1))] [] u4 Q) ∧ ((fg_R u4 190 ((((4 * y1) + y6) - 1).toNatClampNeg)) = y5 → Q (20 + y6) u4)))))))))))) : fg_Run (d + 1) 133 37 [some (.ref 187), some (.int y1), some (.int y2), none, some (.int y4), some (.int y5), some (.int y6)] [] σ Q := fg_blk [0, 37] 30 (⟨fun z1768 => (H.1 z1768), fun z1769 => (match (H.2 z1769) with | ⟨z1770, z1771, z1772f⟩ => ⟨z1770, z1771, fun x1 u2 z1772p => ⟨fun z1773 => ((z1772f x1 u2 z1772p).1 z1773), fun z1774 => ⟨rfl, (match ((z1772f x1 u2 z1772p).2 z1774) with | ⟨z1775, z1776, z1777f⟩ => ⟨z1775, z1776, fun x3 u4 z1777p => ⟨fun z1778 => ((z1777f x3 u4 z1777p).1 z1778), fun z1779 => ⟨rfl, ⟨rfl, ⟨((z1777f x3 u4 z1777p).2 (Classical.not_not.mp z1779)).1, ⟨fun z1780 => (((z1777f x3 u4 z1777p).2 (Classical.not_not.mp z1779)).2.1 z1780), fun z1781 => (((z1777f x3 u4 z1777p).2 (Classical.not_not.mp z1779)).2.2 (Classical.not_not.mp z1781))⟩⟩⟩⟩⟩⟩)⟩⟩⟩)⟩)
set_option maxRecDepth 100000 in
theorem b_MO_goesUp_0 {d : Nat} {σ : fg_St} {Q : Int32 → fg_St → Prop} {a0 : Int32} {a1 : Int32} {a2 : Int32} (H : fg_Run (d + 1) 134 3 [some (.ref 187), some (.int a0), some (.int a1), some (.int a2), some (.int 0)] [] σ Q) : fg_Run (d + 1) 134 0 [some (.ref 187), some (.int a0), some (.int a1), some (.int a2), none] [] σ Q := fg_blk [0, 3, 26] 3 (H)
set_option maxRecDepth 100000 in
theorem b_MO_goesUp_3 {d : Nat} {σ : fg_St} {Q : Int32 → fg_St → Prop} {y1 : Int32} {y2 : Int32} {y3 : Int32} {y4 : Int32} (H : ((4 ≤ y4 → fg_Run (d + 1) 134 26 [some (.ref 187), some (.int y1), some (.int y2), some (.int y3), some (.int 0)] [] σ Q) ∧ (¬ (4 ≤ y4) → (vp_in y4 4 ∧ fg_Run (d + 1) 134 3 [some (.ref 187), some (.int y1), some (.int y2), some (.int y3), some (.int (y4 + 1))] [] (fg_sR σ 196 y4.toNatClampNeg (-1)) Q)))) : fg_Run (d + 1) 134 3 [some (.ref 187), some (.int y1), some (.int y2), some (.int y3), some (.int y4)] [] σ Q := fg_blk [0, 3, 26] 11 (⟨fun z1782 => (H.1 z1782), fun z1783 => ⟨rfl, ⟨rfl, ⟨(H.2 z1783).1, (H.2 z1783).2⟩⟩⟩⟩)
set_option maxRecDepth 100000 in
theorem b_MO_goesUp_26 {d : Nat} {σ : fg_St} {Q : Int32 → fg_St → Prop} {y1 : Int32} {y2 : Int32} {y3 : Int32} {y4 : Int32} (H : (vp_in y1 10 ∧ (((fg_R σ 189 y1.toNatClampNeg) ≤ y4 → Q 1 σ) ∧ (¬ ((fg_R σ 189 y1.toNatClampNeg) ≤ y4) → (∃ P, fg_Run d 133 0 [some (.ref 187), some (.int y1), some (.int y4), some (.int y2), some (.int y3), none, none] [] σ P ∧ ∀ x1 u2, P x1 u2 → (vp_in y4 4 ∧ (vp_in y4 4 ∧ ((¬ (fg_R (fg_sR u2 196 y4.toNatClampNeg x1) 196 y4.toNatClampNeg) = (-1) → fg_Run (d + 1) 134 26 [some (.ref 187), some (.int y1), some (.int y2), some (.int y3), some (.int (y4 + 1))] [] (fg_sR u2 196 y4.toNatClampNeg x1) Q) ∧ ((fg_R (fg_sR u2 196 y4.toNatClampNeg x1) 196 y4.toNatClampNeg) = (-1) → Q 0 (fg_sR u2 196 y4.toNatClampNeg x1)))))))))) : fg_Run (d + 1) 134 26 [some (.ref 187), some (.int y1), some (.int y2), some (.int y3), some (.int y4)] [] σ Q := fg_blk [0, 3, 26] 25 (⟨rfl, ⟨rfl, ⟨H.1, ⟨fun z1784 => ⟨(by decide), (H.2.1 z1784)⟩, fun z1785 => ⟨rfl, ⟨rfl, (match (H.2.2 z1785) with | ⟨z1786, z1787, z1788f⟩ => ⟨z1786, z1787, fun x1 u2 z1788p => ⟨rfl, ⟨(z1788f x1 u2 z1788p).1, ⟨rfl, ⟨rfl, ⟨(z1788f x1 u2 z1788p).2.1, ⟨fun z1789 => ((z1788f x1 u2 z1788p).2.2.1 z1789), fun z1790 => ⟨(by decide), ((z1788f x1 u2 z1788p).2.2.2 (Classical.not_not.mp z1790))⟩⟩⟩⟩⟩⟩⟩⟩)⟩⟩⟩⟩⟩⟩)
set_option maxRecDepth 100000 in
theorem b_MO_canGoUp_0 {d : Nat} {σ : fg_St} {Q : Int32 → fg_St → Prop} (H : fg_Run (d + 1) 135 4 [some (.ref 187), some (.int 0), some (.int 0)] [] σ Q) : fg_Run (d + 1) 135 0 [some (.ref 187), none, none] [] σ Q := fg_blk [0, 4] 5 (H)
set_option maxRecDepth 100000 in
theorem b_MO_canGoUp_4 {d : Nat} {σ : fg_St} {Q : Int32 → fg_St → Prop} {y1 : Int32} {y2 : Int32} (H : (((fg_F σ 187 4) ≤ y2 → Q y1 σ) ∧ (¬ ((fg_F σ 187 4) ≤ y2) → (∃ P, fg_Run d 128 0 [some (.ref 187), none, none] [] σ P ∧ ∀ x1 u2, P x1 u2 → (∃ P, fg_Run d 130 0 [some (.ref 187), none, none] [] u2 P ∧ ∀ x3 u4, P x3 u4 → (∃ P, fg_Run d 134 0 [some (.ref 187), some (.int y2), some (.int x1), some (.int x3), none] [] u4 P ∧ ∀ x5 u6, P x5 u6 → ((x5 = 0 → fg_Run (d + 1) 135 4 [some (.ref 187), some (.int (y1 ||| 0)), some (.int (y2 + 1))] [] u6 Q) ∧ (¬ (x5 = 0) → fg_Run (d + 1) 135 4 [some (.ref 187), some (.int (y1 ||| (1 <<< (y2 &&& 31)))), some (.int (y2 + 1))] [] u6 Q)))))))) : fg_Run (d + 1) 135 4 [some (.ref 187), some (.int y1), some (.int y2)] [] σ Q := fg_blk [0, 4] 22 (⟨rfl, ⟨fun z1791 => (H.1 z1791), fun z1792 => ⟨rfl, (match (H.2 z1792) with | ⟨z1793, z1794, z1795f⟩ => ⟨z1793, z1794, fun x1 u2 z1795p => ⟨rfl, (match (z1795f x1 u2 z1795p) with | ⟨z1796, z1797, z1798f⟩ => ⟨z1796, z1797, fun x3 u4 z1798p => ⟨rfl, (match (z1798f x3 u4 z1798p) with | ⟨z1799, z1800, z1801f⟩ => ⟨z1799, z1800, fun x5 u6 z1801p => ⟨fun z1802 => ((z1801f x5 u6 z1801p).1 z1802), fun z1803 => ((z1801f x5 u6 z1801p).2 z1803)⟩⟩)⟩⟩)⟩⟩)⟩⟩⟩)
set_option maxRecDepth 100000 in
theorem b_MO_seenColour_0 {d : Nat} {σ : fg_St} {Q : Int32 → fg_St → Prop} {a0 : Int32} {a1 : Int32} (H : ((¬ a1 = 0 → ((¬ a0 = 1 → ((¬ a0 = 4 → Q a0 σ) ∧ (a0 = 4 → Q 3 σ))) ∧ (a0 = 1 → Q 0 σ))) ∧ (a1 = 0 → Q a0 σ))) : fg_Run d 136 0 [some (.int a0), some (.int a1)] [] σ Q := fg_blk [0] 11 (⟨fun z1804 => ⟨fun z1806 => ⟨fun z1808 => (((H.1 z1804).1 z1806).1 z1808), fun z1809 => (((H.1 z1804).1 z1806).2 (Classical.not_not.mp z1809))⟩, fun z1807 => ((H.1 z1804).2 (Classical.not_not.mp z1807))⟩, fun z1805 => (H.2 (Classical.not_not.mp z1805))⟩)
set_option maxRecDepth 100000 in
theorem b_MO_lookOf_0 {d : Nat} {σ : fg_St} {Q : Int32 → fg_St → Prop} {a0 : Int32} {a1 : Int32} {a2 : Int32} (H : (((a0 / 100) = 0 → (∃ P, fg_Run d 136 0 [some (.int ((a0 / 10) - (a0 / 10) / 10 * 10)), some (.int a1)] [] σ P ∧ ∀ x1 u2, P x1 u2 → (∃ P, fg_Run d 136 0 [some (.int ((a0 / 10) - (a0 / 10) / 10 * 10)), some (.int a1)] [] u2 P ∧ ∀ x3 u4, P x3 u4 → Q (((25 * 0) + (5 * x1)) + x3) u4))) ∧ (¬ ((a0 / 100) = 0) → ((¬ (a0 / 100) = 1 → (((a0 / 100) ≤ 1 → (∃ P, fg_Run d 136 0 [some (.int ((a0 / 10) - (a0 / 10) / 10 * 10)), some (.int a1)] [] σ P ∧ ∀ x5 u6, P x5 u6 → (∃ P, fg_Run d 136 0 [some (.int (a0 - a0 / 10 * 10)), some (.int a1)] [] u6 P ∧ ∀ x7 u8, P x7 u8 → Q (((25 * (a0 / 100)) + (5 * x5)) + x7) u8))) ∧ (¬ ((a0 / 100) ≤ 1) → ((¬ a1 = 2 → (∃ P, fg_Run d 136 0 [some (.int ((a0 / 10) - (a0 / 10) / 10 * 10)), some (.int a1)] [] σ P ∧ ∀ x9 u10, P x9 u10 → (∃ P, fg_Run d 136 0 [some (.int (a0 - a0 / 10 * 10)), some (.int a1)] [] u10 P ∧ ∀ x11 u12, P x11 u12 → Q (((25 * (a0 / 100)) + (5 * x9)) + x11) u12))) ∧ (a1 = 2 → (∃ P, fg_Run d 136 0 [some (.int ((a0 / 10) - (a0 / 10) / 10 * 10)), some (.int a1)] [] σ P ∧ ∀ x13 u14, P x13 u14 → (∃ P, fg_Run d 136 0 [some (.int ((a0 / 10) - (a0 / 10) / 10 * 10)), some (.int a1)] [] u14 P ∧ ∀ x15 u16, P x15 u16 → Q (((25 * 0) + (5 * x13)) + x15) u16))))))) ∧ ((a0 / 100) = 1 → ((a2 = 0 → (∃ P, fg_Run d 136 0 [some (.int ((a0 / 10) - (a0 / 10) / 10 * 10)), some (.int a1)] [] σ P ∧ ∀ x17 u18, P x17 u18 → (∃ P, fg_Run d 136 0 [some (.int ((a0 / 10) - (a0 / 10) / 10 * 10)), some (.int a1)] [] u18 P ∧ ∀ x19 u20, P x19 u20 → Q (((25 * 0) + (5 * x17)) + x19) u20))) ∧ (¬ (a2 = 0) → (((a0 / 100) ≤ 1 → (∃ P, fg_Run d 136 0 [some (.int ((a0 / 10) - (a0 / 10) / 10 * 10)), some (.int a1)] [] σ P ∧ ∀ x21 u22, P x21 u22 → (∃ P, fg_Run d 136 0 [some (.int (a0 - a0 / 10 * 10)), some (.int a1)] [] u22 P ∧ ∀ x23 u24, P x23 u24 → Q (((25 * (a0 / 100)) + (5 * x21)) + x23) u24))) ∧ (¬ ((a0 / 100) ≤ 1) → ((¬ a1 = 2 → (∃ P, fg_Run d 136 0 [some (.int ((a0 / 10) - (a0 / 10) / 10 * 10)), some (.int a1)] [] σ P ∧ ∀ x25 u26, P x25 u26 → (∃ P, fg_Run d 136 0 [some (.int (a0 - a0 / 10 * 10)), some (.int a1)] [] u26 P ∧ ∀ x27 u28, P x27 u28 → Q (((25 * (a0 / 100)) + (5 * x25)) + x27) u28))) ∧ (a1 = 2 → (∃ P, fg_Run d 136 0 [some (.int ((a0 / 10) - (a0 / 10) / 10 * 10)), some (.int a1)] [] σ P ∧ ∀ x29 u30, P x29 u30 → (∃ P, fg_Run d 136 0 [some (.int ((a0 / 10) - (a0 / 10) / 10 * 10)), some (.int a1)] [] u30 P ∧ ∀ x31 u32, P x31 u32 → Q (((25 * 0) + (5 * x29)) + x31) u32))))))))))))) : fg_Run (d + 1) 137 0 [some (.int a0), some (.int a1), some (.int a2), none, none, none, none] [] σ Q := fg_blk [0] 50 (⟨(by decide), ⟨(by decide), ⟨(by decide), ⟨fun z1810 => ⟨fun z1812 => absurd z1812 (show ¬ ((1 : Int32) = 0) from by decide), fun _ => ⟨fun z1813 => absurd z1813 (show ¬ ((1 : Int32) = 0) from by decide), fun _ => (match (H.1 z1810) with | ⟨z1814, z1815, z1816f⟩ => ⟨z1814, z1815, fun x1 u2 z1816p => (match (z1816f x1 u2 z1816p) with | ⟨z1817, z1818, z1819f⟩ => ⟨z1817, z1818, fun x3 u4 z1819p => (z1819f x3 u4 z1819p)⟩)⟩)⟩⟩, fun z1811 => ⟨fun z1820 => ⟨fun z1822 => ⟨fun _ => ⟨(by decide), ⟨fun _ => (match (((H.2 z1811).1 z1820).1 z1822) with | ⟨z1826, z1827, z1828f⟩ => ⟨z1826, z1827, fun x5 u6 z1828p => (match (z1828f x5 u6 z1828p) with | ⟨z1829, z1830, z1831f⟩ => ⟨z1829, z1830, fun x7 u8 z1831p => (z1831f x7 u8 z1831p)⟩)⟩), fun z1825 => absurd (show (0 : Int32) = 0 from by decide) z1825⟩⟩, fun z1824 => absurd (show (0 : Int32) = 0 from by decide) z1824⟩, fun z1823 => ⟨fun z1832 => ⟨fun _ => ⟨(by decide), ⟨fun _ => (match ((((H.2 z1811).1 z1820).2 z1823).1 z1832) with | ⟨z1836, z1837, z1838f⟩ => ⟨z1836, z1837, fun x9 u10 z1838p => (match (z1838f x9 u10 z1838p) with | ⟨z1839, z1840, z1841f⟩ => ⟨z1839, z1840, fun x11 u12 z1841p => (z1841f x11 u12 z1841p)⟩)⟩), fun z1835 => absurd (show (0 : Int32) = 0 from by decide) z1835⟩⟩, fun z1834 => absurd (show (0 : Int32) = 0 from by decide) z1834⟩, fun z1833 => ⟨fun z1842 => absurd z1842 (show ¬ ((1 : Int32) = 0) from by decide), fun _ => ⟨fun z1843 => absurd z1843 (show ¬ ((1 : Int32) = 0) from by decide), fun _ => (match ((((H.2 z1811).1 z1820).2 z1823).2 (Classical.not_not.mp z1833)) with | ⟨z1844, z1845, z1846f⟩ => ⟨z1844, z1845, fun x13 u14 z1846p => (match (z1846f x13 u14 z1846p) with | ⟨z1847, z1848, z1849f⟩ => ⟨z1847, z1848, fun x15 u16 z1849p => (z1849f x15 u16 z1849p)⟩)⟩)⟩⟩⟩⟩, fun z1821 => ⟨fun z1850 => ⟨fun z1852 => absurd z1852 (show ¬ ((1 : Int32) = 0) from by decide), fun _ => ⟨fun z1853 => absurd z1853 (show ¬ ((1 : Int32) = 0) from by decide), fun _ => (match (((H.2 z1811).2 (Classical.not_not.mp z1821)).1 z1850) with | ⟨z1854, z1855, z1856f⟩ => ⟨z1854, z1855, fun x17 u18 z1856p => (match (z1856f x17 u18 z1856p) with | ⟨z1857, z1858, z1859f⟩ => ⟨z1857, z1858, fun x19 u20 z1859p => (z1859f x19 u20 z1859p)⟩)⟩)⟩⟩, fun z1851 => ⟨fun z1860 => ⟨fun _ => ⟨(by decide), ⟨fun _ => (match ((((H.2 z1811).2 (Classical.not_not.mp z1821)).2 z1851).1 z1860) with | ⟨z1864, z1865, z1866f⟩ => ⟨z1864, z1865, fun x21 u22 z1866p => (match (z1866f x21 u22 z1866p) with | ⟨z1867, z1868, z1869f⟩ => ⟨z1867, z1868, fun x23 u24 z1869p => (z1869f x23 u24 z1869p)⟩)⟩), fun z1863 => absurd (show (0 : Int32) = 0 from by decide) z1863⟩⟩, fun z1862 => absurd (show (0 : Int32) = 0 from by decide) z1862⟩, fun z1861 => ⟨fun z1870 => ⟨fun _ => ⟨(by decide), ⟨fun _ => (match (((((H.2 z1811).2 (Classical.not_not.mp z1821)).2 z1851).2 z1861).1 z1870) with | ⟨z1874, z1875, z1876f⟩ => ⟨z1874, z1875, fun x25 u26 z1876p => (match (z1876f x25 u26 z1876p) with | ⟨z1877, z1878, z1879f⟩ => ⟨z1877, z1878, fun x27 u28 z1879p => (z1879f x27 u28 z1879p)⟩)⟩), fun z1873 => absurd (show (0 : Int32) = 0 from by decide) z1873⟩⟩, fun z1872 => absurd (show (0 : Int32) = 0 from by decide) z1872⟩, fun z1871 => ⟨fun z1880 => absurd z1880 (show ¬ ((1 : Int32) = 0) from by decide), fun _ => ⟨fun z1881 => absurd z1881 (show ¬ ((1 : Int32) = 0) from by decide), fun _ => (match (((((H.2 z1811).2 (Classical.not_not.mp z1821)).2 z1851).2 z1861).2 (Classical.not_not.mp z1871)) with | ⟨z1882, z1883, z1884f⟩ => ⟨z1882, z1883, fun x29 u30 z1884p => (match (z1884f x29 u30 z1884p) with | ⟨z1885, z1886, z1887f⟩ => ⟨z1885, z1886, fun x31 u32 z1887p => (z1887f x31 u32 z1887p)⟩)⟩)⟩⟩⟩⟩⟩⟩⟩⟩⟩⟩)
set_option maxRecDepth 100000 in
theorem b_MO_layLooks_0 {d : Nat} {σ : fg_St} {Q : Int32 → fg_St → Prop} {a0 : Int32} {a1 : Int32} (H : (∃ P, fg_Run d 129 0 [some (.ref 187), none, none] [] σ P ∧ ∀ x1 u2, P x1 u2 → fg_Run (d + 1) 138 19 [some (.ref 187), some (.int a0), some (.int a1), some (.int (((1 <<< ((fg_F σ 187 2) &&& 31)) - 1) &&& (x1 ^^^ (-1)))), some (.int 0), none] [] u2 Q)) : fg_Run (d + 1) 138 0 [some (.ref 187), some (.int a0), some (.int a1), none, none, none] [] σ Q := fg_blk [0, 19, 49] 15 (⟨rfl, ⟨rfl, (match H with | ⟨z1888, z1889, z1890f⟩ => ⟨z1888, z1889, fun x1 u2 z1890p => (z1890f x1 u2 z1890p)⟩)⟩⟩)
set_option maxRecDepth 100000 in
theorem b_MO_layLooks_19 {d : Nat} {σ : fg_St} {Q : Int32 → fg_St → Prop} {y1 : Int32} {y2 : Int32} {y3 : Int32} {y4 : Int32} (H : (((fg_F σ 187 4) ≤ y4 → Q 0 σ) ∧ (¬ ((fg_F σ 187 4) ≤ y4) → (∃ P, fg_Run d 131 0 [some (.ref 187), none, none] [] σ P ∧ ∀ x1 u2, P x1 u2 → (∃ P, fg_Run d 134 0 [some (.ref 187), some (.int y4), some (.int y3), some (.int x1), none] [] u2 P ∧ ∀ x3 u4, P x3 u4 → (vp_in y4 10 ∧ ((x3 = 0 ∨ x3 = 1) ∧ fg_Run (d + 1) 138 49 [some (.ref 187), some (.int y1), some (.int y2), some (.int y3), some (.int y4), some (.int 0)] [] (fg_sR u4 197 y4.toNatClampNeg x3) Q))))))) : fg_Run (d + 1) 138 19 [some (.ref 187), some (.int y1), some (.int y2), some (.int y3), some (.int y4), none] [] σ Q := fg_blk [0, 19, 49] 17 (⟨rfl, ⟨fun z1891 => (H.1 z1891), fun z1892 => ⟨rfl, ⟨rfl, (match (H.2 z1892) with | ⟨z1893, z1894, z1895f⟩ => ⟨z1893, z1894, fun x1 u2 z1895p => ⟨rfl, (match (z1895f x1 u2 z1895p) with | ⟨z1896, z1897, z1898f⟩ => ⟨z1896, z1897, fun x3 u4 z1898p => ⟨rfl, ⟨(z1898f x3 u4 z1898p).1, ⟨(z1898f x3 u4 z1898p).2.1, (z1898f x3 u4 z1898p).2.2⟩⟩⟩⟩)⟩⟩)⟩⟩⟩⟩)
set_option maxRecDepth 100000 in
theorem b_MO_layLooks_49 {d : Nat} {σ : fg_St} {Q : Int32 → fg_St → Prop} {y1 : Int32} {y2 : Int32} {y3 : Int32} {y4 : Int32} {y5 : Int32} (H : ((4 ≤ y5 → fg_Run (d + 1) 138 19 [some (.ref 187), some (.int y1), some (.int y2), some (.int y3), some (.int (y4 + 1)), none] [] σ Q) ∧ (¬ (4 ≤ y5) → (vp_in y5 4 ∧ ((¬ (fg_R σ 196 y5.toNatClampNeg) = (-1) → (vp_in y5 4 ∧ (((fg_R σ 196 y5.toNatClampNeg) ≤ 20 → (vp_in y5 4 ∧ (vp_in (fg_R σ 196 y5.toNatClampNeg) 61 ∧ (∃ P, fg_Run d 137 0 [some (.int (fg_R σ 191 ((fg_R σ 196 y5.toNatClampNeg).toNatClampNeg))), some (.int y1), some (.int y2), none, none, none, none] [] σ P ∧ ∀ x1 u2, P x1 u2 → (vp_in ((4 * y4) + y5) 40 ∧ fg_Run (d + 1) 138 49 [some (.ref 187), some (.int y1), some (.int y2), some (.int y3), some (.int y4), some (.int (y5 + 1))] [] (fg_sR u2 198 (((4 * y4) + y5).toNatClampNeg) x1) Q))))) ∧ (¬ ((fg_R σ 196 y5.toNatClampNeg) ≤ 20) → (vp_in y5 4 ∧ (vp_in ((4 * y4) + y5) 40 ∧ fg_Run (d + 1) 138 49 [some (.ref 187), some (.int y1), some (.int y2), some (.int y3), some (.int y4), some (.int (y5 + 1))] [] (fg_sR σ 198 (((4 * y4) + y5).toNatClampNeg) (180 + (fg_R σ 196 y5.toNatClampNeg))) Q)))))) ∧ ((fg_R σ 196 y5.toNatClampNeg) = (-1) → (vp_in ((4 * y4) + y5) 40 ∧ fg_Run (d + 1) 138 49 [some (.ref 187), some (.int y1), some (.int y2), some (.int y3), some (.int y4), some (.int (y5 + 1))] [] (fg_sR σ 198 (((4 * y4) + y5).toNatClampNeg) (-1)) Q))))))) : fg_Run (d + 1) 138 49 [some (.ref 187), some (.int y1), some (.int y2), some (.int y3), some (.int y4), some (.int y5)] [] σ Q := fg_blk [0, 19, 49] 36 (⟨fun z1899 => (fg_Run.drop (L := [some _, some _, some _, some _, some _, none]) ⟨rfl, ⟨rfl, ⟨rfl, ⟨rfl, ⟨rfl, ⟨trivial, trivial⟩⟩⟩⟩⟩⟩ (H.1 z1899)), fun z1900 => ⟨rfl, ⟨rfl, ⟨rfl, ⟨(H.2 z1900).1, ⟨fun z1901 => ⟨rfl, ⟨rfl, ⟨((H.2 z1900).2.1 z1901).1, ⟨fun z1903 => ⟨rfl, ⟨rfl, ⟨rfl, ⟨(((H.2 z1900).2.1 z1901).2.1 z1903).1, ⟨rfl, ⟨(((H.2 z1900).2.1 z1901).2.1 z1903).2.1, (match (((H.2 z1900).2.1 z1901).2.1 z1903).2.2 with | ⟨z1905, z1906, z1907f⟩ => ⟨z1905, z1906, fun x1 u2 z1907p => ⟨rfl, ⟨(z1907f x1 u2 z1907p).1, (z1907f x1 u2 z1907p).2⟩⟩⟩)⟩⟩⟩⟩⟩⟩, fun z1904 => ⟨rfl, ⟨rfl, ⟨(((H.2 z1900).2.1 z1901).2.2 z1904).1, ⟨rfl, ⟨(((H.2 z1900).2.1 z1901).2.2 z1904).2.1, (((H.2 z1900).2.1 z1901).2.2 z1904).2.2⟩⟩⟩⟩⟩⟩⟩⟩⟩, fun z1902 => ⟨rfl, ⟨((H.2 z1900).2.2 (Classical.not_not.mp z1902)).1, ((H.2 z1900).2.2 (Classical.not_not.mp z1902)).2⟩⟩⟩⟩⟩⟩⟩⟩)
set_option maxRecDepth 100000 in
theorem b_MO_isLike_0 {d : Nat} {σ : fg_St} {Q : Int32 → fg_St → Prop} {a0 : Int32} {a1 : Int32} (H : (vp_in a0 10 ∧ (((fg_R σ 197 a0.toNatClampNeg) = 0 → fg_Run d 139 27 [some (.ref 187), some (.int a0), some (.int a1), some (.int 0), some (.int 0)] [] σ Q) ∧ (¬ ((fg_R σ 197 a0.toNatClampNeg) = 0) → (vp_in a1 10 ∧ (((fg_R σ 197 a1.toNatClampNeg) = 0 → fg_Run d 139 27 [some (.ref 187), some (.int a0), some (.int a1), some (.int 0), some (.int 0)] [] σ Q) ∧ (¬ ((fg_R σ 197 a1.toNatClampNeg) = 0) → fg_Run d 139 27 [some (.ref 187), some (.int a0), some (.int a1), some (.int 1), some (.int 0)] [] σ Q))))))) : fg_Run d 139 0 [some (.ref 187), some (.int a0), some (.int a1), none, none] [] σ Q := fg_blk [0, 27] 16 (⟨rfl, ⟨rfl, ⟨H.1, ⟨fun z1908 => (H.2.1 z1908), fun z1909 => ⟨rfl, ⟨rfl, ⟨(H.2.2 z1909).1, ⟨fun z1910 => ((H.2.2 z1909).2.1 z1910), fun z1911 => ((H.2.2 z1909).2.2 z1911)⟩⟩⟩⟩⟩⟩⟩⟩)
set_option maxRecDepth 100000 in
theorem b_MO_isLike_27 {d : Nat} {σ : fg_St} {Q : Int32 → fg_St → Prop} {y1 : Int32} {y2 : Int32} {y3 : Int32} {y4 : Int32} (H : ((4 ≤ y4 → ((y3 = 0 ∨ y3 = 1) ∧ Q y3 σ)) ∧ (¬ (4 ≤ y4) → ((y3 = 0 → fg_Run d 139 27 [some (.ref 187), some (.int y1), some (.int y2), some (.int 0), some (.int (y4 + 1))] [] σ Q) ∧ (¬ (y3 = 0) → (vp_in ((4 * y1) + y4) 40 ∧ (vp_in ((4 * y2) + y4) 40 ∧ ((¬ (fg_R σ 198 (((4 * y1) + y4).toNatClampNeg)) = (fg_R σ 198 (((4 * y2) + y4).toNatClampNeg)) → fg_Run d 139 27 [some (.ref 187), some (.int y1), some (.int y2), some (.int 0), some (.int (y4 + 1))] [] σ Q) ∧ ((fg_R σ 198 (((4 * y1) + y4).toNatClampNeg)) = (fg_R σ 198 (((4 * y2) + y4).toNatClampNeg)) → fg_Run d 139 27 [some (.ref 187), some (.int y1), some (.int y2), some (.int 1), some (.int (y4 + 1))] [] σ Q))))))))) : fg_Run d 139 27 [some (.ref 187), some (.int y1), some (.int y2), some (.int y3), some (.int y4)] [] σ Q := fg_blk [0, 27] 28 (⟨fun z1912 => ⟨(H.1 z1912).1, (H.1 z1912).2⟩, fun z1913 => ⟨fun z1914 => ((H.2 z1913).1 z1914), fun z1915 => ⟨rfl, ⟨rfl, ⟨((H.2 z1913).2 z1915).1, ⟨rfl, ⟨rfl, ⟨((H.2 z1913).2 z1915).2.1, ⟨fun z1916 => (((H.2 z1913).2 z1915).2.2.1 z1916), fun z1917 => (((H.2 z1913).2 z1915).2.2.2 (Classical.not_not.mp z1917))⟩⟩⟩⟩⟩⟩⟩⟩⟩)
set_option maxRecDepth 100000 in
theorem b_MO_likeOf_0 {d : Nat} {σ : fg_St} {Q : Int32 → fg_St → Prop} {a0 : Int32} (H : fg_Run (d + 1) 140 4 [some (.ref 187), some (.int a0), some (.int 0), some (.int 0)] [] σ Q) : fg_Run (d + 1) 140 0 [some (.ref 187), some (.int a0), none, none] [] σ Q := fg_blk [0, 4] 5 (H)
set_option maxRecDepth 100000 in
theorem b_MO_likeOf_4 {d : Nat} {σ : fg_St} {Q : Int32 → fg_St → Prop} {y1 : Int32} {y2 : Int32} {y3 : Int32} (H : (((fg_F σ 187 4) ≤ y3 → Q y2 σ) ∧ (¬ ((fg_F σ 187 4) ≤ y3) → (∃ P, fg_Run d 139 0 [some (.ref 187), some (.int y1), some (.int y3), none, none] [] σ P ∧ ∀ x1 u2, P x1 u2 → ((x1 = 0 → fg_Run (d + 1) 140 4 [some (.ref 187), some (.int y1), some (.int (y2 ||| 0)), some (.int (y3 + 1))] [] u2 Q) ∧ (¬ (x1 = 0) → fg_Run (d + 1) 140 4 [some (.ref 187), some (.int y1), some (.int (y2 ||| (1 <<< (y3 &&& 31)))), some (.int (y3 + 1))] [] u2 Q)))))) : fg_Run (d + 1) 140 4 [some (.ref 187), some (.int y1), some (.int y2), some (.int y3)] [] σ Q := fg_blk [0, 4] 19 (⟨rfl, ⟨fun z1918 => (H.1 z1918), fun z1919 => ⟨rfl, (match (H.2 z1919) with | ⟨z1920, z1921, z1922f⟩ => ⟨z1920, z1921, fun x1 u2 z1922p => ⟨fun z1923 => ((z1922f x1 u2 z1922p).1 z1923), fun z1924 => ((z1922f x1 u2 z1922p).2 z1924)⟩⟩)⟩⟩⟩)
set_option maxRecDepth 100000 in
theorem b_MO_clearIn_0 {d : Nat} {σ : fg_St} {Q : Int32 → fg_St → Prop} {a0 : Int32} {a1 : Int32} (H : (∃ P, fg_Run d 138 0 [some (.ref 187), some (.int a0), some (.int a1), none, none, none] [] σ P ∧ ∀ x1 u2, P x1 u2 → fg_Run (d + 1) 141 11 [some (.ref 187), none, none, some (.int 0), some (.int 0)] [] u2 Q)) : fg_Run (d + 1) 141 0 [some (.ref 187), some (.int a0), some (.int a1), none, none] [] σ Q := fg_blk [0, 11] 9 (⟨rfl, (match H with | ⟨z1925, z1926, z1927f⟩ => ⟨z1925, z1926, fun x1 u2 z1927p => (fg_Run.drop (L := [some _, none, none, some _, some _]) ⟨rfl, ⟨trivial, ⟨trivial, ⟨rfl, ⟨rfl, trivial⟩⟩⟩⟩⟩ (z1927f x1 u2 z1927p))⟩)⟩)
set_option maxRecDepth 100000 in
theorem b_MO_clearIn_11 {d : Nat} {σ : fg_St} {Q : Int32 → fg_St → Prop} {y3 : Int32} {y4 : Int32} (H : (((fg_F σ 187 4) ≤ y4 → Q y3 σ) ∧ (¬ ((fg_F σ 187 4) ≤ y4) → (∃ P, fg_Run d 140 0 [some (.ref 187), some (.int y4), none, none] [] σ P ∧ ∀ x1 u2, P x1 u2 → ((¬ x1 = (1 <<< (y4 &&& 31)) → fg_Run (d + 1) 141 11 [some (.ref 187), none, none, some (.int (y3 ||| 0)), some (.int (y4 + 1))] [] u2 Q) ∧ (x1 = (1 <<< (y4 &&& 31)) → fg_Run (d + 1) 141 11 [some (.ref 187), none, none, some (.int (y3 ||| (1 <<< (y4 &&& 31)))), some (.int (y4 + 1))] [] u2 Q)))))) : fg_Run (d + 1) 141 11 [some (.ref 187), none, none, some (.int y3), some (.int y4)] [] σ Q := fg_blk [0, 11] 21 (⟨rfl, ⟨fun z1928 => (H.1 z1928), fun z1929 => ⟨rfl, (match (H.2 z1929) with | ⟨z1930, z1931, z1932f⟩ => ⟨z1930, z1931, fun x1 u2 z1932p => ⟨fun z1933 => ((z1932f x1 u2 z1932p).1 z1933), fun z1934 => ((z1932f x1 u2 z1932p).2 (Classical.not_not.mp z1934))⟩⟩)⟩⟩⟩)
set_option maxRecDepth 100000 in
theorem b_MO_clearNow_0 {d : Nat} {σ : fg_St} {Q : Int32 → fg_St → Prop} (H : (∃ P, fg_Run d 141 0 [some (.ref 187), some (.int (fg_R σ 191 58)), some (.int (fg_R σ 191 59)), none, none] [] σ P ∧ ∀ x1 u2, P x1 u2 → Q x1 u2)) : fg_Run (d + 1) 142 0 [some (.ref 187)] [] σ Q := fg_blk [0] 11 (⟨rfl, ⟨rfl, ⟨fg_vin rfl rfl, ⟨rfl, ⟨rfl, ⟨fg_vin rfl rfl, ⟨rfl, (match H with | ⟨z1935, z1936, z1937f⟩ => ⟨z1935, z1936, fun x1 u2 z1937p => (z1937f x1 u2 z1937p)⟩)⟩⟩⟩⟩⟩⟩⟩)
set_option maxRecDepth 100000 in
theorem b_MO_clearest_0 {d : Nat} {σ : fg_St} {Q : Int32 → fg_St → Prop} (H : fg_Run (d + 1) 143 6 [some (.ref 187), some (.int 0), some (.int 0), some (.int 0), none] [] σ Q) : fg_Run (d + 1) 143 0 [some (.ref 187), none, none, none, none] [] σ Q := fg_blk [0, 6] 7 (H)
set_option maxRecDepth 100000 in
theorem b_MO_clearest_6 {d : Nat} {σ : fg_St} {Q : Int32 → fg_St → Prop} {y1 : Int32} {y2 : Int32} {y3 : Int32} (H : ((6 ≤ y3 → Q y1 σ) ∧ (¬ (6 ≤ y3) → (∃ P, fg_Run d 141 0 [some (.ref 187), some (.int (y3 / 2)), some (.int (y3 - y3 / 2 * 2)), none, none] [] σ P ∧ ∀ x1 u2, P x1 u2 → (∃ P, fg_Run d 112 0 [some (.int x1), none, none] [] u2 P ∧ ∀ x3 u4, P x3 u4 → ((x3 ≤ y2 → ((x3 ≤ y2 → fg_Run (d + 1) 143 6 [some (.ref 187), some (.int y1), some (.int y2), some (.int (y3 + 1)), none] [] u4 Q) ∧ (¬ (x3 ≤ y2) → fg_Run (d + 1) 143 6 [some (.ref 187), some (.int y1), some (.int x3), some (.int (y3 + 1)), none] [] u4 Q))) ∧ (¬ (x3 ≤ y2) → ((x3 ≤ y2 → fg_Run (d + 1) 143 6 [some (.ref 187), some (.int y3), some (.int y2), some (.int (y3 + 1)), none] [] u4 Q) ∧ (¬ (x3 ≤ y2) → fg_Run (d + 1) 143 6 [some (.ref 187), some (.int y3), some (.int x3), some (.int (y3 + 1)), none] [] u4 Q))))))))) : fg_Run (d + 1) 143 6 [some (.ref 187), some (.int y1), some (.int y2), some (.int y3), none] [] σ Q := fg_blk [0, 6] 28 (⟨fun z1938 => (H.1 z1938), fun z1939 => ⟨(by decide), ⟨(by decide), ⟨rfl, (match (H.2 z1939) with | ⟨z1940, z1941, z1942f⟩ => ⟨z1940, z1941, fun x1 u2 z1942p => (match (z1942f x1 u2 z1942p) with | ⟨z1943, z1944, z1945f⟩ => ⟨z1943, z1944, fun x3 u4 z1945p => ⟨fun z1946 => ⟨fun z1948 => (fg_Run.drop (L := [some _, some _, some _, some _, none]) ⟨rfl, ⟨rfl, ⟨rfl, ⟨rfl, ⟨trivial, trivial⟩⟩⟩⟩⟩ (((z1945f x3 u4 z1945p).1 z1946).1 z1948)), fun z1949 => (fg_Run.drop (L := [some _, some _, some _, some _, none]) ⟨rfl, ⟨rfl, ⟨rfl, ⟨rfl, ⟨trivial, trivial⟩⟩⟩⟩⟩ (((z1945f x3 u4 z1945p).1 z1946).2 z1949))⟩, fun z1947 => ⟨fun z1950 => (fg_Run.drop (L := [some _, some _, some _, some _, none]) ⟨rfl, ⟨rfl, ⟨rfl, ⟨rfl, ⟨trivial, trivial⟩⟩⟩⟩⟩ (((z1945f x3 u4 z1945p).2 z1947).1 z1950)), fun z1951 => (fg_Run.drop (L := [some _, some _, some _, some _, none]) ⟨rfl, ⟨rfl, ⟨rfl, ⟨rfl, ⟨trivial, trivial⟩⟩⟩⟩⟩ (((z1945f x3 u4 z1945p).2 z1947).2 z1951))⟩⟩⟩)⟩)⟩⟩⟩⟩)
set_option maxRecDepth 100000 in
theorem b_MO_isToldIn_0 {d : Nat} {σ : fg_St} {Q : Int32 → fg_St → Prop} {a0 : Int32} {a1 : Int32} (H : fg_Run d 144 5 [some (.ref 187), some (.int a0), some (.int a1), some (.int 0), some (.int 0)] [] σ Q) : fg_Run d 144 0 [some (.ref 187), some (.int a0), some (.int a1), none, none] [] σ Q := fg_blk [0, 5] 5 (H)
set_option maxRecDepth 100000 in
theorem b_MO_isToldIn_5 {d : Nat} {σ : fg_St} {Q : Int32 → fg_St → Prop} {y1 : Int32} {y2 : Int32} {y3 : Int32} {y4 : Int32} (H : (vp_in y2 10 ∧ (((fg_R σ 189 y2.toNatClampNeg) ≤ y4 → ((y3 = 0 ∨ y3 = 1) ∧ Q y3 σ)) ∧ (¬ ((fg_R σ 189 y2.toNatClampNeg) ≤ y4) → ((¬ y3 = 0 → fg_Run d 144 5 [some (.ref 187), some (.int y1), some (.int y2), some (.int 1), some (.int (y4 + 1))] [] σ Q) ∧ (y3 = 0 → (vp_in ((4 * y2) + y4) 40 ∧ ((¬ (fg_R σ 190 (((4 * y2) + y4).toNatClampNeg)) = y1 → fg_Run d 144 5 [some (.ref 187), some (.int y1), some (.int y2), some (.int 0), some (.int (y4 + 1))] [] σ Q) ∧ ((fg_R σ 190 (((4 * y2) + y4).toNatClampNeg)) = y1 → fg_Run d 144 5 [some (.ref 187), some (.int y1), some (.int y2), some (.int 1), some (.int (y4 + 1))] [] σ Q))))))))) : fg_Run d 144 5 [some (.ref 187), some (.int y1), some (.int y2), some (.int y3), some (.int y4)] [] σ Q := fg_blk [0, 5] 24 (⟨rfl, ⟨rfl, ⟨H.1, ⟨fun z1952 => ⟨(H.2.1 z1952).1, (H.2.1 z1952).2⟩, fun z1953 => ⟨fun z1954 => ((H.2.2 z1953).1 z1954), fun z1955 => ⟨rfl, ⟨rfl, ⟨((H.2.2 z1953).2 (Classical.not_not.mp z1955)).1, ⟨fun z1956 => (((H.2.2 z1953).2 (Classical.not_not.mp z1955)).2.1 z1956), fun z1957 => (((H.2.2 z1953).2 (Classical.not_not.mp z1955)).2.2 (Classical.not_not.mp z1957))⟩⟩⟩⟩⟩⟩⟩⟩⟩)
set_option maxRecDepth 100000 in
theorem b_MO_needed_0 {d : Nat} {σ : fg_St} {Q : Int32 → fg_St → Prop} (H : fg_Run (d + 1) 145 6 [some (.ref 187), some (.int (-1)), some (.int (-1)), some (.int 0), none, none] [] σ Q) : fg_Run (d + 1) 145 0 [some (.ref 187), none, none, none, none, none] [] σ Q := fg_blk [0, 6, 20] 7 (H)
set_option maxRecDepth 100000 in
theorem b_MO_needed_6 {d : Nat} {σ : fg_St} {Q : Int32 → fg_St → Prop} {y1 : Int32} {y2 : Int32} {y3 : Int32} (H : (((fg_F σ 187 2) ≤ y3 → Q y1 σ) ∧ (¬ ((fg_F σ 187 2) ≤ y3) → fg_Run (d + 1) 145 20 [some (.ref 187), some (.int y1), some (.int y2), some (.int y3), some (.int 0), some (.int 0)] [] σ Q))) : fg_Run (d + 1) 145 6 [some (.ref 187), some (.int y1), some (.int y2), some (.int y3), none, none] [] σ Q := fg_blk [0, 6, 20] 9 (⟨rfl, ⟨fun z1958 => (H.1 z1958), fun z1959 => (H.2 z1959)⟩⟩)
set_option maxRecDepth 100000 in
theorem b_MO_needed_20 {d : Nat} {σ : fg_St} {Q : Int32 → fg_St → Prop} {y1 : Int32} {y2 : Int32} {y3 : Int32} {y4 : Int32} {y5 : Int32} (H : (((fg_F σ 187 4) ≤ y5 → ((y4 ≤ y2 → ((y4 ≤ y2 → fg_Run (d + 1) 145 6 [some (.ref 187), some (.int y1), some (.int y2), some (.int (y3 + 1)), none, none] [] σ Q) ∧ (¬ (y4 ≤ y2) → fg_Run (d + 1) 145 6 [some (.ref 187), some (.int y1), some (.int y4), some (.int (y3 + 1)), none, none] [] σ Q))) ∧ (¬ (y4 ≤ y2) → ((y4 ≤ y2 → fg_Run (d + 1) 145 6 [some (.ref 187), some (.int y3), some (.int y2), some (.int (y3 + 1)), none, none] [] σ Q) ∧ (¬ (y4 ≤ y2) → fg_Run (d + 1) 145 6 [some (.ref 187), some (.int y3), some (.int y4), some (.int (y3 + 1)), none, none] [] σ Q))))) ∧ (¬ ((fg_F σ 187 4) ≤ y5) → (∃ P, fg_Run d 144 0 [some (.ref 187), some (.int y3), some (.int y5), none, none] [] σ P ∧ ∀ x1 u2, P x1 u2 → ((x1 = 0 → fg_Run (d + 1) 145 20 [some (.ref 187), some (.int y1), some (.int y2), some (.int y3), some (.int (y4 + 0)), some (.int (y5 + 1))] [] u2 Q) ∧ (¬ (x1 = 0) → fg_Run (d + 1) 145 20 [some (.ref 187), some (.int y1), some (.int y2), some (.int y3), some (.int (y4 + 1)), some (.int (y5 + 1))] [] u2 Q)))))) : fg_Run (d + 1) 145 20 [some (.ref 187), some (.int y1), some (.int y2), some (.int y3), some (.int y4), some (.int y5)] [] σ Q := fg_blk [0, 6, 20] 19 (⟨rfl, ⟨fun z1960 => ⟨fun z1962 => ⟨fun z1964 => (fg_Run.drop (L := [some _, some _, some _, some _, none, none]) ⟨rfl, ⟨rfl, ⟨rfl, ⟨rfl, ⟨trivial, ⟨trivial, trivial⟩⟩⟩⟩⟩⟩ (((H.1 z1960).1 z1962).1 z1964)), fun z1965 => (fg_Run.drop (L := [some _, some _, some _, some _, none, none]) ⟨rfl, ⟨rfl, ⟨rfl, ⟨rfl, ⟨trivial, ⟨trivial, trivial⟩⟩⟩⟩⟩⟩ (((H.1 z1960).1 z1962).2 z1965))⟩, fun z1963 => ⟨fun z1966 => (fg_Run.drop (L := [some _, some _, some _, some _, none, none]) ⟨rfl, ⟨rfl, ⟨rfl, ⟨rfl, ⟨trivial, ⟨trivial, trivial⟩⟩⟩⟩⟩⟩ (((H.1 z1960).2 z1963).1 z1966)), fun z1967 => (fg_Run.drop (L := [some _, some _, some _, some _, none, none]) ⟨rfl, ⟨rfl, ⟨rfl, ⟨rfl, ⟨trivial, ⟨trivial, trivial⟩⟩⟩⟩⟩⟩ (((H.1 z1960).2 z1963).2 z1967))⟩⟩, fun z1961 => ⟨rfl, (match (H.2 z1961) with | ⟨z1968, z1969, z1970f⟩ => ⟨z1968, z1969, fun x1 u2 z1970p => ⟨fun z1971 => ((z1970f x1 u2 z1970p).1 z1971), fun z1972 => ((z1970f x1 u2 z1970p).2 z1972)⟩⟩)⟩⟩⟩)
set_option maxRecDepth 100000 in
theorem b_MO_better_0 {d : Nat} {σ : fg_St} {Q : Int32 → fg_St → Prop} (H : (∃ P, fg_Run d 142 0 [some (.ref 187)] [] σ P ∧ ∀ x1 u2, P x1 u2 → (∃ P, fg_Run d 112 0 [some (.int x1), none, none] [] u2 P ∧ ∀ x3 u4, P x3 u4 → fg_Run (d + 1) 146 12 [some (.ref 187), some (.int (-1)), some (.int x3), some (.int 0), none, none, none, none] [] u4 Q))) : fg_Run (d + 1) 146 0 [some (.ref 187), none, none, none, none, none, none, none] [] σ Q := fg_blk [0, 12, 52] 9 (⟨rfl, (match H with | ⟨z1973, z1974, z1975f⟩ => ⟨z1973, z1974, fun x1 u2 z1975p => (match (z1975f x1 u2 z1975p) with | ⟨z1976, z1977, z1978f⟩ => ⟨z1976, z1977, fun x3 u4 z1978p => (z1978f x3 u4 z1978p)⟩)⟩)⟩)
set_option maxRecDepth 100000 in
theorem b_MO_better_12 {d : Nat} {σ : fg_St} {Q : Int32 → fg_St → Prop} {y1 : Int32} {y2 : Int32} {y3 : Int32} (H : (((fg_F σ 187 2) ≤ y3 → Q y1 σ) ∧ (¬ ((fg_F σ 187 2) ≤ y3) → (vp_in y3 61 ∧ (vp_in (30 + y3) 61 ∧ (vp_in (30 + y3) 61 ∧ fg_Run (d + 1) 146 52 [some (.ref 187), some (.int y1), some (.int y2), some (.int y3), some (.int (fg_R σ 191 y3.toNatClampNeg)), some (.int (fg_R σ 191 ((30 + y3).toNatClampNeg))), some (.int 0), none] [] (fg_sR σ 191 ((30 + y3).toNatClampNeg) 0) Q)))))) : fg_Run (d + 1) 146 12 [some (.ref 187), some (.int y1), some (.int y2), some (.int y3), none, none, none, none] [] σ Q := fg_blk [0, 12, 52] 26 (⟨rfl, ⟨fun z1979 => (H.1 z1979), fun z1980 => ⟨rfl, ⟨rfl, ⟨(H.2 z1980).1, ⟨rfl, ⟨rfl, ⟨(H.2 z1980).2.1, ⟨rfl, ⟨rfl, ⟨(H.2 z1980).2.2.1, (H.2 z1980).2.2.2⟩⟩⟩⟩⟩⟩⟩⟩⟩⟩⟩)
set_option maxRecDepth 100000 in
theorem b_MO_better_52 {d : Nat} {σ : fg_St} {Q : Int32 → fg_St → Prop} {y1 : Int32} {y2 : Int32} {y3 : Int32} {y4 : Int32} {y5 : Int32} {y6 : Int32} (H : ((100 ≤ y6 → (vp_in y3 61 ∧ (vp_in (30 + y3) 61 ∧ fg_Run (d + 1) 146 12 [some (.ref 187), some (.int y1), some (.int y2), some (.int (y3 + 1)), none, none, none, none] [] (fg_sR (fg_sR σ 191 y3.toNatClampNeg y4) 191 ((30 + y3).toNatClampNeg) y5) Q))) ∧ (¬ (100 ≤ y6) → (vp_in y3 61 ∧ (∃ P, fg_Run d 142 0 [some (.ref 187)] [] (fg_sR σ 191 y3.toNatClampNeg ((((y6 / 25) * 100) + (((y6 / 5) - (y6 / 5) / 5 * 5) * 10)) + (y6 - y6 / 5 * 5))) P ∧ ∀ x1 u2, P x1 u2 → (∃ P, fg_Run d 112 0 [some (.int x1), none, none] [] u2 P ∧ ∀ x3 u4, P x3 u4 → ((x3 ≤ y2 → ((x3 ≤ y2 → fg_Run (d + 1) 146 52 [some (.ref 187), some (.int y1), some (.int y2), some (.int y3), some (.int y4), some (.int y5), some (.int (y6 + 1)), none] [] u4 Q) ∧ (¬ (x3 ≤ y2) → fg_Run (d + 1) 146 52 [some (.ref 187), some (.int y1), some (.int x3), some (.int y3), some (.int y4), some (.int y5), some (.int (y6 + 1)), none] [] u4 Q))) ∧ (¬ (x3 ≤ y2) → (vp_in y3 61 ∧ ((x3 ≤ y2 → fg_Run (d + 1) 146 52 [some (.ref 187), some (.int ((1000 * y3) + (fg_R u4 191 y3.toNatClampNeg))), some (.int y2), some (.int y3), some (.int y4), some (.int y5), some (.int (y6 + 1)), none] [] u4 Q) ∧ (¬ (x3 ≤ y2) → fg_Run (d + 1) 146 52 [some (.ref 187), some (.int ((1000 * y3) + (fg_R u4 191 y3.toNatClampNeg))), some (.int x3), some (.int y3), some (.int y4), some (.int y5), some (.int (y6 + 1)), none] [] u4 Q))))))))))) : fg_Run (d + 1) 146 52 [some (.ref 187), some (.int y1), some (.int y2), some (.int y3), some (.int y4), some (.int y5), some (.int y6), none] [] σ Q := fg_blk [0, 12, 52] 50 (⟨fun z1981 => ⟨rfl, ⟨rfl, ⟨(H.1 z1981).1, ⟨rfl, ⟨rfl, ⟨(H.1 z1981).2.1, (fg_Run.drop (L := [some _, some _, some _, some _, none, none, none, none]) ⟨rfl, ⟨rfl, ⟨rfl, ⟨rfl, ⟨trivial, ⟨trivial, ⟨trivial, ⟨trivial, trivial⟩⟩⟩⟩⟩⟩⟩⟩ (H.1 z1981).2.2)⟩⟩⟩⟩⟩⟩, fun z1982 => ⟨rfl, ⟨(by decide), ⟨(by decide), ⟨(by decide), ⟨(by decide), ⟨rfl, ⟨(H.2 z1982).1, ⟨rfl, (match (H.2 z1982).2 with | ⟨z1983, z1984, z1985f⟩ => ⟨z1983, z1984, fun x1 u2 z1985p => (match (z1985f x1 u2 z1985p) with | ⟨z1986, z1987, z1988f⟩ => ⟨z1986, z1987, fun x3 u4 z1988p => ⟨fun z1989 => ⟨fun z1991 => (fg_Run.drop (L := [some _, some _, some _, some _, some _, some _, some _, none]) ⟨rfl, ⟨rfl, ⟨rfl, ⟨rfl, ⟨rfl, ⟨rfl, ⟨rfl, ⟨trivial, trivial⟩⟩⟩⟩⟩⟩⟩⟩ (((z1988f x3 u4 z1988p).1 z1989).1 z1991)), fun z1992 => (fg_Run.drop (L := [some _, some _, some _, some _, some _, some _, some _, none]) ⟨rfl, ⟨rfl, ⟨rfl, ⟨rfl, ⟨rfl, ⟨rfl, ⟨rfl, ⟨trivial, trivial⟩⟩⟩⟩⟩⟩⟩⟩ (((z1988f x3 u4 z1988p).1 z1989).2 z1992))⟩, fun z1990 => ⟨rfl, ⟨rfl, ⟨((z1988f x3 u4 z1988p).2 z1990).1, ⟨fun z1993 => (fg_Run.drop (L := [some _, some _, some _, some _, some _, some _, some _, none]) ⟨rfl, ⟨rfl, ⟨rfl, ⟨rfl, ⟨rfl, ⟨rfl, ⟨rfl, ⟨trivial, trivial⟩⟩⟩⟩⟩⟩⟩⟩ (((z1988f x3 u4 z1988p).2 z1990).2.1 z1993)), fun z1994 => (fg_Run.drop (L := [some _, some _, some _, some _, some _, some _, some _, none]) ⟨rfl, ⟨rfl, ⟨rfl, ⟨rfl, ⟨rfl, ⟨rfl, ⟨rfl, ⟨trivial, trivial⟩⟩⟩⟩⟩⟩⟩⟩ (((z1988f x3 u4 z1988p).2 z1990).2.2 z1994))⟩⟩⟩⟩⟩⟩)⟩)⟩⟩⟩⟩⟩⟩⟩⟩⟩)
set_option maxRecDepth 100000 in
theorem b_MO_rowFlags_0 {d : Nat} {σ : fg_St} {Q : Int32 → fg_St → Prop} (H : fg_Run d 147 4 [some (.ref 187), some (.int 0), some (.int 0)] [] σ Q) : fg_Run d 147 0 [some (.ref 187), none, none] [] σ Q := fg_blk [0, 4] 5 (H)
set_option maxRecDepth 100000 in
theorem b_MO_rowFlags_4 {d : Nat} {σ : fg_St} {Q : Int32 → fg_St → Prop} {y1 : Int32} {y2 : Int32} (H : ((4 ≤ y2 → Q y1 σ) ∧ (¬ (4 ≤ y2) → (vp_in y2 4 ∧ (((fg_R σ 196 y2.toNatClampNeg) = (-1) → fg_Run d 147 4 [some (.ref 187), some (.int (y1 ||| 0)), some (.int (y2 + 1))] [] σ Q) ∧ (¬ ((fg_R σ 196 y2.toNatClampNeg) = (-1)) → (vp_in y2 4 ∧ ((20 ≤ (fg_R σ 196 y2.toNatClampNeg) → fg_Run d 147 4 [some (.ref 187), some (.int (y1 ||| 0)), some (.int (y2 + 1))] [] σ Q) ∧ (¬ (20 ≤ (fg_R σ 196 y2.toNatClampNeg)) → (vp_in y2 4 ∧ fg_Run d 147 4 [some (.ref 187), some (.int (y1 ||| (1 <<< ((fg_R σ 196 y2.toNatClampNeg) &&& 31)))), some (.int (y2 + 1))] [] σ Q)))))))))) : fg_Run d 147 4 [some (.ref 187), some (.int y1), some (.int y2)] [] σ Q := fg_blk [0, 4] 28 (⟨fun z1995 => (H.1 z1995), fun z1996 => ⟨rfl, ⟨rfl, ⟨(H.2 z1996).1, ⟨fun z1997 => ((H.2 z1996).2.1 z1997), fun z1998 => ⟨rfl, ⟨rfl, ⟨((H.2 z1996).2.2 z1998).1, ⟨fun z1999 => (((H.2 z1996).2.2 z1998).2.1 z1999), fun z2000 => ⟨rfl, ⟨rfl, ⟨(((H.2 z1996).2.2 z1998).2.2 z2000).1, (((H.2 z1996).2.2 z1998).2.2 z2000).2⟩⟩⟩⟩⟩⟩⟩⟩⟩⟩⟩⟩)
set_option maxRecDepth 100000 in
theorem b_MO_rowSubs_0 {d : Nat} {σ : fg_St} {Q : Int32 → fg_St → Prop} (H : fg_Run d 148 4 [some (.ref 187), some (.int 0), some (.int 0)] [] σ Q) : fg_Run d 148 0 [some (.ref 187), none, none] [] σ Q := fg_blk [0, 4] 5 (H)
set_option maxRecDepth 100000 in
theorem b_MO_rowSubs_4 {d : Nat} {σ : fg_St} {Q : Int32 → fg_St → Prop} {y1 : Int32} {y2 : Int32} (H : ((4 ≤ y2 → Q y1 σ) ∧ (¬ (4 ≤ y2) → (vp_in y2 4 ∧ (((fg_R σ 196 y2.toNatClampNeg) ≤ 20 → fg_Run d 148 4 [some (.ref 187), some (.int (y1 ||| 0)), some (.int (y2 + 1))] [] σ Q) ∧ (¬ ((fg_R σ 196 y2.toNatClampNeg) ≤ 20) → (vp_in y2 4 ∧ fg_Run d 148 4 [some (.ref 187), some (.int (y1 ||| (1 <<< (((fg_R σ 196 y2.toNatClampNeg) - 20) &&& 31)))), some (.int (y2 + 1))] [] σ Q))))))) : fg_Run d 148 4 [some (.ref 187), some (.int y1), some (.int y2)] [] σ Q := fg_blk [0, 4] 24 (⟨fun z2001 => (H.1 z2001), fun z2002 => ⟨rfl, ⟨rfl, ⟨(H.2 z2002).1, ⟨fun z2003 => ((H.2 z2002).2.1 z2003), fun z2004 => ⟨rfl, ⟨rfl, ⟨((H.2 z2002).2.2 z2004).1, ((H.2 z2002).2.2 z2004).2⟩⟩⟩⟩⟩⟩⟩⟩)
set_option maxRecDepth 100000 in
theorem b_MO_fly_0 {d : Nat} {σ : fg_St} {Q : Int32 → fg_St → Prop} {a0 : Int32} (H : (∃ P, fg_Run d 129 0 [some (.ref 187), none, none] [] σ P ∧ ∀ x1 u2, P x1 u2 → (∃ P, fg_Run d 131 0 [some (.ref 187), none, none] [] u2 P ∧ ∀ x3 u4, P x3 u4 → (∃ P, fg_Run d 112 0 [some (.int a0), none, none] [] u4 P ∧ ∀ x5 u6, P x5 u6 → (((fg_F u6 187 0) < x5 → fg_Run (d + 1) 149 42 [some (.ref 187), some (.int a0), some (.int (((1 <<< ((fg_F σ 187 2) &&& 31)) - 1) &&& (x1 ^^^ (-1)))), some (.int x3), some (.int 0), some (.int 0)] [] u6 Q) ∧ (¬ ((fg_F u6 187 0) < x5) → fg_Run (d + 1) 149 42 [some (.ref 187), some (.int a0), some (.int (((1 <<< ((fg_F σ 187 2) &&& 31)) - 1) &&& (x1 ^^^ (-1)))), some (.int x3), some (.int 1), some (.int 0)] [] u6 Q)))))) : fg_Run (d + 1) 149 0 [some (.ref 187), some (.int a0), none, none, none, none] [] σ Q := fg_blk [0, 42] 26 (⟨rfl, ⟨rfl, (match H with | ⟨z2005, z2006, z2007f⟩ => ⟨z2005, z2006, fun x1 u2 z2007p => ⟨rfl, (match (z2007f x1 u2 z2007p) with | ⟨z2008, z2009, z2010f⟩ => ⟨z2008, z2009, fun x3 u4 z2010p => (match (z2010f x3 u4 z2010p) with | ⟨z2011, z2012, z2013f⟩ => ⟨z2011, z2012, fun x5 u6 z2013p => ⟨rfl, ⟨fun z2014 => ((z2013f x5 u6 z2013p).1 z2014), fun z2015 => ((z2013f x5 u6 z2013p).2 z2015)⟩⟩⟩)⟩)⟩⟩)⟩⟩)
set_option maxRecDepth 100000 in
theorem b_MO_fly_42 {d : Nat} {σ : fg_St} {Q : Int32 → fg_St → Prop} {y1 : Int32} {y2 : Int32} {y3 : Int32} {y4 : Int32} {y5 : Int32} (H : (((fg_F σ 187 4) ≤ y5 → ((y4 = 0 ∨ y4 = 1) ∧ Q y4 σ)) ∧ (¬ ((fg_F σ 187 4) ≤ y5) → ((y4 = 0 → ((y4 = 0 ∨ y4 = 1) ∧ Q y4 σ)) ∧ (¬ (y4 = 0) → (∃ P, fg_Run d 111 0 [some (.int y1), some (.int y5)] [] σ P ∧ ∀ x1 u2, P x1 u2 → ((x1 = 0 → fg_Run (d + 1) 149 42 [some (.ref 187), some (.int y1), some (.int y2), some (.int y3), some (.int y4), some (.int (y5 + 1))] [] u2 Q) ∧ (¬ (x1 = 0) → (∃ P, fg_Run d 134 0 [some (.ref 187), some (.int y5), some (.int y2), some (.int y3), none] [] u2 P ∧ ∀ x3 u4, P x3 u4 → (∃ P, fg_Run d 147 0 [some (.ref 187), none, none] [] u4 P ∧ ∀ x5 u6, P x5 u6 → (∃ P, fg_Run d 148 0 [some (.ref 187), none, none] [] u6 P ∧ ∀ x7 u8, P x7 u8 → fg_Run (d + 1) 149 42 [some (.ref 187), some (.int y1), some (.int (y2 &&& (x5 ^^^ (-1)))), some (.int (y3 &&& (x7 ^^^ (-1)))), some (.int x3), some (.int (y5 + 1))] [] u8 Q))))))))))) : fg_Run (d + 1) 149 42 [some (.ref 187), some (.int y1), some (.int y2), some (.int y3), some (.int y4), some (.int y5)] [] σ Q := fg_blk [0, 42] 33 (⟨rfl, ⟨fun z2016 => ⟨(H.1 z2016).1, (H.1 z2016).2⟩, fun z2017 => ⟨fun z2018 => ⟨((H.2 z2017).1 z2018).1, ((H.2 z2017).1 z2018).2⟩, fun z2019 => (match ((H.2 z2017).2 z2019) with | ⟨z2020, z2021, z2022f⟩ => ⟨z2020, z2021, fun x1 u2 z2022p => ⟨fun z2023 => ((z2022f x1 u2 z2022p).1 z2023), fun z2024 => ⟨rfl, (match ((z2022f x1 u2 z2022p).2 z2024) with | ⟨z2025, z2026, z2027f⟩ => ⟨z2025, z2026, fun x3 u4 z2027p => ⟨rfl, (match (z2027f x3 u4 z2027p) with | ⟨z2028, z2029, z2030f⟩ => ⟨z2028, z2029, fun x5 u6 z2030p => ⟨rfl, (match (z2030f x5 u6 z2030p) with | ⟨z2031, z2032, z2033f⟩ => ⟨z2031, z2032, fun x7 u8 z2033p => (z2033f x7 u8 z2033p)⟩)⟩⟩)⟩⟩)⟩⟩⟩)⟩⟩⟩)
set_option maxRecDepth 100000 in
theorem b_MO_mostTogether_0 {d : Nat} {σ : fg_St} {Q : Int32 → fg_St → Prop} (H : fg_Run (d + 1) 150 4 [some (.ref 187), some (.int 0), some (.int 0)] [] σ Q) : fg_Run (d + 1) 150 0 [some (.ref 187), none, none] [] σ Q := fg_blk [0, 4] 5 (H)
set_option maxRecDepth 100000 in
theorem b_MO_mostTogether_4 {d : Nat} {σ : fg_St} {Q : Int32 → fg_St → Prop} {y1 : Int32} {y2 : Int32} (H : (((1 <<< ((fg_F σ 187 4) &&& 31)) ≤ y2 → Q y1 σ) ∧ (¬ ((1 <<< ((fg_F σ 187 4) &&& 31)) ≤ y2) → (∃ P, fg_Run d 112 0 [some (.int y2), none, none] [] σ P ∧ ∀ x1 u2, P x1 u2 → (∃ P, fg_Run d 112 0 [some (.int y1), none, none] [] u2 P ∧ ∀ x3 u4, P x3 u4 → ((x1 ≤ x3 → fg_Run (d + 1) 150 4 [some (.ref 187), some (.int y1), some (.int (y2 + 1))] [] u4 Q) ∧ (¬ (x1 ≤ x3) → (∃ P, fg_Run d 149 0 [some (.ref 187), some (.int y2), none, none, none, none] [] u4 P ∧ ∀ x5 u6, P x5 u6 → ((x5 = 0 → fg_Run (d + 1) 150 4 [some (.ref 187), some (.int y1), some (.int (y2 + 1))] [] u6 Q) ∧ (¬ (x5 = 0) → fg_Run (d + 1) 150 4 [some (.ref 187), some (.int y2), some (.int (y2 + 1))] [] u6 Q)))))))))) : fg_Run (d + 1) 150 4 [some (.ref 187), some (.int y1), some (.int y2)] [] σ Q := fg_blk [0, 4] 21 (⟨rfl, ⟨fun z2034 => (H.1 z2034), fun z2035 => (match (H.2 z2035) with | ⟨z2036, z2037, z2038f⟩ => ⟨z2036, z2037, fun x1 u2 z2038p => (match (z2038f x1 u2 z2038p) with | ⟨z2039, z2040, z2041f⟩ => ⟨z2039, z2040, fun x3 u4 z2041p => ⟨fun z2042 => ((z2041f x3 u4 z2041p).1 z2042), fun z2043 => ⟨rfl, (match ((z2041f x3 u4 z2041p).2 z2043) with | ⟨z2044, z2045, z2046f⟩ => ⟨z2044, z2045, fun x5 u6 z2046p => ⟨fun z2047 => ((z2046f x5 u6 z2046p).1 z2047), fun z2048 => ((z2046f x5 u6 z2046p).2 z2048)⟩⟩)⟩⟩⟩)⟩)⟩⟩)
set_option maxRecDepth 100000 in
theorem b_MO_areSignals_0 {d : Nat} {σ : fg_St} {Q : Int32 → fg_St → Prop} {a0 : Int32} (H : (∃ P, fg_Run d 110 0 [some (.long a0.toInt64), none, some (.long 0), none, some (.long (((1 <<< ((fg_F σ 187 4) &&& 31)) - 1).toInt64)), none] [] σ P ∧ ∀ x1 u2, P x1 u2 → ((x1 = 0 ∨ x1 = 1) ∧ Q x1 u2))) : fg_Run (d + 1) 151 0 [some (.ref 187), some (.int a0)] [] σ Q := fg_blk [0] 12 (⟨rfl, (match H with | ⟨z2049, z2050, z2051f⟩ => ⟨z2049, z2050, fun x1 u2 z2051p => ⟨(z2051f x1 u2 z2051p).1, (z2051f x1 u2 z2051p).2⟩⟩)⟩)
set_option maxRecDepth 100000 in
theorem b_MO_together_0 {d : Nat} {σ : fg_St} {Q : Int32 → fg_St → Prop} {a0 : Int32} (H : (∃ P, fg_Run d 151 0 [some (.ref 187), some (.int a0)] [] σ P ∧ ∀ x1 u2, P x1 u2 → ((¬ x1 = 0 → (∃ P, fg_Run d 149 0 [some (.ref 187), some (.int a0), none, none, none, none] [] u2 P ∧ ∀ x3 u4, P x3 u4 → ((x3 = 0 → Q 0 u4) ∧ (¬ (x3 = 0) → Q 1 u4)))) ∧ (x1 = 0 → Q (-1000000001) u2)))) : fg_Run (d + 1) 152 0 [some (.ref 187), some (.int a0)] [] σ Q := fg_blk [0] 11 (⟨rfl, (match H with | ⟨z2052, z2053, z2054f⟩ => ⟨z2052, z2053, fun x1 u2 z2054p => ⟨fun z2055 => ⟨rfl, (match ((z2054f x1 u2 z2054p).1 z2055) with | ⟨z2057, z2058, z2059f⟩ => ⟨z2057, z2058, fun x3 u4 z2059p => ⟨fun z2060 => ((z2059f x3 u4 z2059p).1 z2060), fun z2061 => ((z2059f x3 u4 z2059p).2 z2061)⟩⟩)⟩, fun z2056 => ((z2054f x1 u2 z2054p).2 (Classical.not_not.mp z2056))⟩⟩)⟩)
set_option maxRecDepth 100000 in
theorem b_MO_findTurns_0 {d : Nat} {σ : fg_St} {Q : Int32 → fg_St → Prop} {a0 : Int32} (H : fg_Run (d + 1) 153 9 [some (.ref 187), some (.int a0), some (.int 1), none, none, none] [] (fg_sR σ 200 0 0) Q) : fg_Run (d + 1) 153 0 [some (.ref 187), some (.int a0), none, none, none, none] [] σ Q := fg_blk [0, 9, 62] 8 (⟨rfl, ⟨rfl, ⟨fg_vin rfl rfl, H⟩⟩⟩)
set_option maxRecDepth 100000 in
theorem b_MO_findTurns_9 {d : Nat} {σ : fg_St} {Q : Int32 → fg_St → Prop} {y1 : Int32} {y2 : Int32} (H : ((y1 < y2 → Q 0 σ) ∧ (¬ (y1 < y2) → ((¬ (y2 &&& (y1 ^^^ (-1))) = 0 → (vp_in y2 1024 ∧ (vp_in y2 1024 ∧ fg_Run (d + 1) 153 62 [some (.ref 187), some (.int y1), some (.int y2), some (.int 0), some (.int y2), none] [] (fg_sR (fg_sR σ 199 y2.toNatClampNeg 0) 200 y2.toNatClampNeg 1000000) Q))) ∧ ((y2 &&& (y1 ^^^ (-1))) = 0 → (∃ P, fg_Run d 149 0 [some (.ref 187), some (.int y2), none, none, none, none] [] σ P ∧ ∀ x1 u2, P x1 u2 → ((x1 = 0 → (vp_in y2 1024 ∧ (vp_in y2 1024 ∧ fg_Run (d + 1) 153 62 [some (.ref 187), some (.int y1), some (.int y2), some (.int 1), some (.int y2), none] [] (fg_sR (fg_sR u2 199 y2.toNatClampNeg 0) 200 y2.toNatClampNeg 1000000) Q))) ∧ (¬ (x1 = 0) → (vp_in y2 1024 ∧ (vp_in y2 1024 ∧ fg_Run (d + 1) 153 62 [some (.ref 187), some (.int y1), some (.int y2), some (.int 1), some (.int y2), none] [] (fg_sR (fg_sR u2 199 y2.toNatClampNeg 1) 200 y2.toNatClampNeg 1000000) Q)))))))))) : fg_Run (d + 1) 153 9 [some (.ref 187), some (.int y1), some (.int y2), none, none, none] [] σ Q := fg_blk [0, 9, 62] 32 (⟨fun z2062 => (H.1 z2062), fun z2063 => ⟨fun z2064 => ⟨rfl, ⟨fun _ => ⟨rfl, ⟨((H.2 z2063).1 z2064).1, ⟨(by decide), ⟨rfl, ⟨rfl, ⟨((H.2 z2063).1 z2064).2.1, ((H.2 z2063).1 z2064).2.2⟩⟩⟩⟩⟩⟩, fun z2066 => absurd (show (0 : Int32) = 0 from by decide) z2066⟩⟩, fun z2065 => ⟨rfl, ⟨fun z2067 => absurd z2067 (show ¬ ((1 : Int32) = 0) from by decide), fun _ => ⟨rfl, (match ((H.2 z2063).2 (Classical.not_not.mp z2065)) with | ⟨z2068, z2069, z2070f⟩ => ⟨z2068, z2069, fun x1 u2 z2070p => ⟨fun z2071 => ⟨rfl, ⟨((z2070f x1 u2 z2070p).1 z2071).1, ⟨(by decide), ⟨rfl, ⟨rfl, ⟨((z2070f x1 u2 z2070p).1 z2071).2.1, ((z2070f x1 u2 z2070p).1 z2071).2.2⟩⟩⟩⟩⟩⟩, fun z2072 => ⟨rfl, ⟨((z2070f x1 u2 z2070p).2 z2072).1, ⟨(by decide), ⟨rfl, ⟨rfl, ⟨((z2070f x1 u2 z2070p).2 z2072).2.1, ((z2070f x1 u2 z2070p).2 z2072).2.2⟩⟩⟩⟩⟩⟩⟩⟩)⟩⟩⟩⟩⟩)
set_option maxRecDepth 100000 in
theorem b_MO_findTurns_62 {d : Nat} {σ : fg_St} {Q : Int32 → fg_St → Prop} {y1 : Int32} {y2 : Int32} {y3 : Int32} {y4 : Int32} (H : ((y4 ≤ 0 → fg_Run (d + 1) 153 9 [some (.ref 187), some (.int y1), some (.int (y2 + 1)), none, none, none] [] σ Q) ∧ (¬ (y4 ≤ 0) → ((y3 = 0 → fg_Run (d + 1) 153 9 [some (.ref 187), some (.int y1), some (.int (y2 + 1)), none, none, none] [] σ Q) ∧ (¬ (y3 = 0) → (vp_in y4 1024 ∧ (((fg_R σ 199 y4.toNatClampNeg) = 0 → (vp_in y2 1024 ∧ (((fg_R σ 200 y2.toNatClampNeg) ≤ (1000000 : Int32) → (vp_in y2 1024 ∧ (vp_in y2 1024 ∧ fg_Run (d + 1) 153 62 [some (.ref 187), some (.int y1), some (.int y2), some (.int y3), some (.int ((y4 - 1) &&& y2)), none] [] (fg_sR σ 200 y2.toNatClampNeg (fg_R σ 200 y2.toNatClampNeg)) Q))) ∧ (¬ ((fg_R σ 200 y2.toNatClampNeg) ≤ (1000000 : Int32)) → (vp_in y2 1024 ∧ fg_Run (d + 1) 153 62 [some (.ref 187), some (.int y1), some (.int y2), some (.int y3), some (.int ((y4 - 1) &&& y2)), none] [] (fg_sR σ 200 y2.toNatClampNeg 1000000) Q))))) ∧ (¬ ((fg_R σ 199 y4.toNatClampNeg) = 0) → (vp_in (y2 &&& (y4 ^^^ (-1))) 1024 ∧ (vp_in y2 1024 ∧ (((fg_R σ 200 y2.toNatClampNeg) ≤ ((fg_R σ 200 ((y2 &&& (y4 ^^^ (-1))).toNatClampNeg)) + 1) → (vp_in y2 1024 ∧ (vp_in y2 1024 ∧ fg_Run (d + 1) 153 62 [some (.ref 187), some (.int y1), some (.int y2), some (.int y3), some (.int ((y4 - 1) &&& y2)), none] [] (fg_sR σ 200 y2.toNatClampNeg (fg_R σ 200 y2.toNatClampNeg)) Q))) ∧ (¬ ((fg_R σ 200 y2.toNatClampNeg) ≤ ((fg_R σ 200 ((y2 &&& (y4 ^^^ (-1))).toNatClampNeg)) + 1)) → (vp_in y2 1024 ∧ fg_Run (d + 1) 153 62 [some (.ref 187), some (.int y1), some (.int y2), some (.int y3), some (.int ((y4 - 1) &&& y2)), none] [] (fg_sR σ 200 y2.toNatClampNeg ((fg_R σ 200 ((y2 &&& (y4 ^^^ (-1))).toNatClampNeg)) + 1)) Q))))))))))))) : fg_Run (d + 1) 153 62 [some (.ref 187), some (.int y1), some (.int y2), some (.int y3), some (.int y4), none] [] σ Q := fg_blk [0, 9, 62] 43 (⟨fun z2073 => (fg_Run.drop (L := [some _, some _, some _, none, none, none]) ⟨rfl, ⟨rfl, ⟨rfl, ⟨trivial, ⟨trivial, ⟨trivial, trivial⟩⟩⟩⟩⟩⟩ (H.1 z2073)), fun z2074 => ⟨fun z2075 => (fg_Run.drop (L := [some _, some _, some _, none, none, none]) ⟨rfl, ⟨rfl, ⟨rfl, ⟨trivial, ⟨trivial, ⟨trivial, trivial⟩⟩⟩⟩⟩⟩ ((H.2 z2074).1 z2075)), fun z2076 => ⟨rfl, ⟨rfl, ⟨((H.2 z2074).2 z2076).1, ⟨fun z2077 => ⟨rfl, ⟨rfl, ⟨rfl, ⟨(((H.2 z2074).2 z2076).2.1 z2077).1, ⟨fun z2079 => ⟨rfl, ⟨rfl, ⟨((((H.2 z2074).2 z2076).2.1 z2077).2.1 z2079).1, ⟨rfl, ⟨((((H.2 z2074).2 z2076).2.1 z2077).2.1 z2079).2.1, (fg_Run.drop (L := [some _, some _, some _, some _, some _, none]) ⟨rfl, ⟨rfl, ⟨rfl, ⟨rfl, ⟨rfl, ⟨trivial, trivial⟩⟩⟩⟩⟩⟩ ((((H.2 z2074).2 z2076).2.1 z2077).2.1 z2079).2.2)⟩⟩⟩⟩⟩, fun z2080 => ⟨rfl, ⟨((((H.2 z2074).2 z2076).2.1 z2077).2.2 z2080).1, (fg_Run.drop (L := [some _, some _, some _, some _, some _, none]) ⟨rfl, ⟨rfl, ⟨rfl, ⟨rfl, ⟨rfl, ⟨trivial, trivial⟩⟩⟩⟩⟩⟩ ((((H.2 z2074).2 z2076).2.1 z2077).2.2 z2080).2)⟩⟩⟩⟩⟩⟩⟩, fun z2078 => ⟨rfl, ⟨rfl, ⟨(((H.2 z2074).2 z2076).2.2 z2078).1, ⟨rfl, ⟨rfl, ⟨rfl, ⟨(((H.2 z2074).2 z2076).2.2 z2078).2.1, ⟨fun z2081 => ⟨rfl, ⟨rfl, ⟨((((H.2 z2074).2 z2076).2.2 z2078).2.2.1 z2081).1, ⟨rfl, ⟨((((H.2 z2074).2 z2076).2.2 z2078).2.2.1 z2081).2.1, (fg_Run.drop (L := [some _, some _, some _, some _, some _, none]) ⟨rfl, ⟨rfl, ⟨rfl, ⟨rfl, ⟨rfl, ⟨trivial, trivial⟩⟩⟩⟩⟩⟩ ((((H.2 z2074).2 z2076).2.2 z2078).2.2.1 z2081).2.2)⟩⟩⟩⟩⟩, fun z2082 => ⟨rfl, ⟨((((H.2 z2074).2 z2076).2.2 z2078).2.2.2 z2082).1, (fg_Run.drop (L := [some _, some _, some _, some _, some _, none]) ⟨rfl, ⟨rfl, ⟨rfl, ⟨rfl, ⟨rfl, ⟨trivial, trivial⟩⟩⟩⟩⟩⟩ ((((H.2 z2074).2 z2076).2.2 z2078).2.2.2 z2082).2)⟩⟩⟩⟩⟩⟩⟩⟩⟩⟩⟩⟩⟩⟩⟩⟩)
set_option maxRecDepth 100000 in
theorem b_MO_turns_0 {d : Nat} {σ : fg_St} {Q : Int32 → fg_St → Prop} {a0 : Int32} {a1 : Int32} (H : (∃ P, fg_Run d 151 0 [some (.ref 187), some (.int a0)] [] σ P ∧ ∀ x1 u2, P x1 u2 → ((¬ x1 = 0 → (∃ P, fg_Run d 110 0 [some (.long a1.toInt64), none, some (.long 0), none, some (.long 1), none] [] u2 P ∧ ∀ x3 u4, P x3 u4 → ((¬ x3 = 0 → (∃ P, fg_Run d 153 0 [some (.ref 187), some (.int a0), none, none, none, none] [] u4 P ∧ ∀ x5 u6, P x5 u6 → ((a1 = 0 → (vp_in a0 1024 ∧ ((1000000 ≤ (fg_R u6 200 a0.toNatClampNeg) → Q (-1) u6) ∧ (¬ (1000000 ≤ (fg_R u6 200 a0.toNatClampNeg)) → (vp_in a0 1024 ∧ Q (fg_R u6 200 a0.toNatClampNeg) u6))))) ∧ (¬ (a1 = 0) → (vp_in a0 1024 ∧ (((fg_R u6 200 a0.toNatClampNeg) < 1000000 → fg_Run (d + 1) 154 71 [some (.ref 187), some (.int a0), none, some (.int (-1)), some (.int a0)] [] u6 Q) ∧ (¬ ((fg_R u6 200 a0.toNatClampNeg) < 1000000) → (vp_in a0 1024 ∧ ((1000000 ≤ (fg_R u6 200 a0.toNatClampNeg) → Q (-1) u6) ∧ (¬ (1000000 ≤ (fg_R u6 200 a0.toNatClampNeg)) → (vp_in a0 1024 ∧ Q (fg_R u6 200 a0.toNatClampNeg) u6))))))))))) ∧ (x3 = 0 → Q (-1000000002) u4)))) ∧ (x1 = 0 → Q (-1000000001) u2)))) : fg_Run (d + 1) 154 0 [some (.ref 187), some (.int a0), some (.int a1), none, none] [] σ Q := fg_blk [0, 71] 33 (⟨rfl, (match H with | ⟨z2083, z2084, z2085f⟩ => ⟨z2083, z2084, fun x1 u2 z2085p => ⟨fun z2086 => (match ((z2085f x1 u2 z2085p).1 z2086) with | ⟨z2088, z2089, z2090f⟩ => ⟨z2088, z2089, fun x3 u4 z2090p => ⟨fun z2091 => ⟨rfl, (match ((z2090f x3 u4 z2090p).1 z2091) with | ⟨z2093, z2094, z2095f⟩ => ⟨z2093, z2094, fun x5 u6 z2095p => ⟨fun z2096 => ⟨rfl, ⟨rfl, ⟨((z2095f x5 u6 z2095p).1 z2096).1, ⟨fun z2098 => (((z2095f x5 u6 z2095p).1 z2096).2.1 z2098), fun z2099 => ⟨rfl, ⟨rfl, ⟨(((z2095f x5 u6 z2095p).1 z2096).2.2 z2099).1, (((z2095f x5 u6 z2095p).1 z2096).2.2 z2099).2⟩⟩⟩⟩⟩⟩⟩, fun z2097 => ⟨rfl, ⟨rfl, ⟨((z2095f x5 u6 z2095p).2 z2097).1, ⟨fun z2100 => (fg_Run.drop (L := [some _, some _, none, some _, some _]) ⟨rfl, ⟨rfl, ⟨trivial, ⟨rfl, ⟨rfl, trivial⟩⟩⟩⟩⟩ (((z2095f x5 u6 z2095p).2 z2097).2.1 z2100)), fun z2101 => ⟨rfl, ⟨rfl, ⟨(((z2095f x5 u6 z2095p).2 z2097).2.2 z2101).1, ⟨fun z2102 => ((((z2095f x5 u6 z2095p).2 z2097).2.2 z2101).2.1 z2102), fun z2103 => ⟨rfl, ⟨rfl, ⟨((((z2095f x5 u6 z2095p).2 z2097).2.2 z2101).2.2 z2103).1, ((((z2095f x5 u6 z2095p).2 z2097).2.2 z2101).2.2 z2103).2⟩⟩⟩⟩⟩⟩⟩⟩⟩⟩⟩⟩⟩)⟩, fun z2092 => ((z2090f x3 u4 z2090p).2 (Classical.not_not.mp z2092))⟩⟩), fun z2087 => ((z2085f x1 u2 z2085p).2 (Classical.not_not.mp z2087))⟩⟩)⟩)
set_option maxRecDepth 100000 in
theorem b_MO_turns_71 {d : Nat} {σ : fg_St} {Q : Int32 → fg_St → Prop} {y1 : Int32} {y3 : Int32} {y4 : Int32} (H : ((y4 ≤ 0 → Q y3 σ) ∧ (¬ (y4 ≤ 0) → (vp_in y4 1024 ∧ (((fg_R σ 199 y4.toNatClampNeg) = 0 → fg_Run (d + 1) 154 71 [some (.ref 187), some (.int y1), none, some (.int y3), some (.int ((y4 - 1) &&& y1))] [] σ Q) ∧ (¬ ((fg_R σ 199 y4.toNatClampNeg) = 0) → (vp_in (y1 &&& (y4 ^^^ (-1))) 1024 ∧ (vp_in y1 1024 ∧ ((¬ (fg_R σ 200 ((y1 &&& (y4 ^^^ (-1))).toNatClampNeg)) = ((fg_R σ 200 y1.toNatClampNeg) - 1) → fg_Run (d + 1) 154 71 [some (.ref 187), some (.int y1), none, some (.int y3), some (.int ((y4 - 1) &&& y1))] [] σ Q) ∧ ((fg_R σ 200 ((y1 &&& (y4 ^^^ (-1))).toNatClampNeg)) = ((fg_R σ 200 y1.toNatClampNeg) - 1) → fg_Run (d + 1) 154 71 [some (.ref 187), some (.int y1), none, some (.int y4), some (.int ((y4 - 1) &&& y1))] [] σ Q)))))))))) : fg_Run (d + 1) 154 71 [some (.ref 187), some (.int y1), none, some (.int y3), some (.int y4)] [] σ Q := fg_blk [0, 71] 33 (⟨fun z2104 => (H.1 z2104), fun z2105 => ⟨rfl, ⟨rfl, ⟨(H.2 z2105).1, ⟨fun z2106 => ((H.2 z2105).2.1 z2106), fun z2107 => ⟨rfl, ⟨rfl, ⟨((H.2 z2105).2.2 z2107).1, ⟨rfl, ⟨rfl, ⟨((H.2 z2105).2.2 z2107).2.1, ⟨fun z2108 => (((H.2 z2105).2.2 z2107).2.2.1 z2108), fun z2109 => (((H.2 z2105).2.2 z2107).2.2.2 (Classical.not_not.mp z2109))⟩⟩⟩⟩⟩⟩⟩⟩⟩⟩⟩⟩)
set_option maxRecDepth 100000 in
theorem b_MO_weathers_0 {d : Nat} {σ : fg_St} {Q : Int32 → fg_St → Prop} (H : fg_Run (d + 1) 155 4 [some (.ref 187), some (.int 0), some (.int 0), none, none] [] σ Q) : fg_Run (d + 1) 155 0 [some (.ref 187), none, none, none, none] [] σ Q := fg_blk [0, 4, 25] 5 (H)
set_option maxRecDepth 100000 in
theorem b_MO_weathers_4 {d : Nat} {σ : fg_St} {Q : Int32 → fg_St → Prop} {y1 : Int32} {y2 : Int32} (H : ((6 ≤ y2 → Q y1 σ) ∧ (¬ (6 ≤ y2) → (∃ P, fg_Run d 138 0 [some (.ref 187), some (.int (y2 / 2)), some (.int (y2 - y2 / 2 * 2)), none, none, none] [] σ P ∧ ∀ x1 u2, P x1 u2 → fg_Run (d + 1) 155 25 [some (.ref 187), some (.int y1), some (.int y2), some (.int 1), some (.int 0)] [] u2 Q)))) : fg_Run (d + 1) 155 4 [some (.ref 187), some (.int y1), some (.int y2), none, none] [] σ Q := fg_blk [0, 4, 25] 16 (⟨fun z2110 => (H.1 z2110), fun z2111 => ⟨(by decide), ⟨(by decide), ⟨rfl, (match (H.2 z2111) with | ⟨z2112, z2113, z2114f⟩ => ⟨z2112, z2113, fun x1 u2 z2114p => (z2114f x1 u2 z2114p)⟩)⟩⟩⟩⟩)
set_option maxRecDepth 100000 in
theorem b_MO_weathers_25 {d : Nat} {σ : fg_St} {Q : Int32 → fg_St → Prop} {y1 : Int32} {y2 : Int32} {y3 : Int32} {y4 : Int32} (H : (((fg_F σ 187 26) ≤ y4 → ((y3 = 0 → fg_Run (d + 1) 155 4 [some (.ref 187), some (.int (y1 ||| 0)), some (.int (y2 + 1)), none, none] [] σ Q) ∧ (¬ (y3 = 0) → fg_Run (d + 1) 155 4 [some (.ref 187), some (.int (y1 ||| (1 <<< (y2 &&& 31)))), some (.int (y2 + 1)), none, none] [] σ Q))) ∧ (¬ ((fg_F σ 187 26) ≤ y4) → ((y3 = 0 → ((y3 = 0 → fg_Run (d + 1) 155 4 [some (.ref 187), some (.int (y1 ||| 0)), some (.int (y2 + 1)), none, none] [] σ Q) ∧ (¬ (y3 = 0) → fg_Run (d + 1) 155 4 [some (.ref 187), some (.int (y1 ||| (1 <<< (y2 &&& 31)))), some (.int (y2 + 1)), none, none] [] σ Q))) ∧ (¬ (y3 = 0) → (vp_in y4 8 ∧ (vp_in y4 8 ∧ (∃ P, fg_Run d 139 0 [some (.ref 187), some (.int (fg_R σ 201 y4.toNatClampNeg)), some (.int (fg_R σ 202 y4.toNatClampNeg)), none, none] [] σ P ∧ ∀ x1 u2, P x1 u2 → fg_Run (d + 1) 155 25 [some (.ref 187), some (.int y1), some (.int y2), some (.int x1), some (.int (y4 + 1))] [] u2 Q)))))))) : fg_Run (d + 1) 155 25 [some (.ref 187), some (.int y1), some (.int y2), some (.int y3), some (.int y4)] [] σ Q := fg_blk [0, 4, 25] 20 (⟨rfl, ⟨fun z2115 => ⟨fun z2117 => (fg_Run.drop (L := [some _, some _, some _, none, none]) ⟨rfl, ⟨rfl, ⟨rfl, ⟨trivial, ⟨trivial, trivial⟩⟩⟩⟩⟩ ((H.1 z2115).1 z2117)), fun z2118 => (fg_Run.drop (L := [some _, some _, some _, none, none]) ⟨rfl, ⟨rfl, ⟨rfl, ⟨trivial, ⟨trivial, trivial⟩⟩⟩⟩⟩ ((H.1 z2115).2 z2118))⟩, fun z2116 => ⟨fun z2119 => ⟨fun z2121 => (fg_Run.drop (L := [some _, some _, some _, none, none]) ⟨rfl, ⟨rfl, ⟨rfl, ⟨trivial, ⟨trivial, trivial⟩⟩⟩⟩⟩ (((H.2 z2116).1 z2119).1 z2121)), fun z2122 => (fg_Run.drop (L := [some _, some _, some _, none, none]) ⟨rfl, ⟨rfl, ⟨rfl, ⟨trivial, ⟨trivial, trivial⟩⟩⟩⟩⟩ (((H.2 z2116).1 z2119).2 z2122))⟩, fun z2120 => ⟨rfl, ⟨rfl, ⟨((H.2 z2116).2 z2120).1, ⟨rfl, ⟨rfl, ⟨((H.2 z2116).2 z2120).2.1, ⟨rfl, (match ((H.2 z2116).2 z2120).2.2 with | ⟨z2123, z2124, z2125f⟩ => ⟨z2123, z2124, fun x1 u2 z2125p => (z2125f x1 u2 z2125p)⟩)⟩⟩⟩⟩⟩⟩⟩⟩⟩⟩)
set_option maxRecDepth 100000 in
theorem b_MO_layLikes_0 {d : Nat} {σ : fg_St} {Q : Int32 → fg_St → Prop} (H : fg_Run (d + 1) 156 2 [some (.ref 187), some (.int 0), none] [] σ Q) : fg_Run (d + 1) 156 0 [some (.ref 187), none, none] [] σ Q := fg_blk [0, 2, 20] 3 (H)
set_option maxRecDepth 100000 in
theorem b_MO_layLikes_2 {d : Nat} {σ : fg_St} {Q : Int32 → fg_St → Prop} {y1 : Int32} (H : ((6 ≤ y1 → Q 0 σ) ∧ (¬ (6 ≤ y1) → (∃ P, fg_Run d 138 0 [some (.ref 187), some (.int (y1 / 2)), some (.int (y1 - y1 / 2 * 2)), none, none, none] [] σ P ∧ ∀ x1 u2, P x1 u2 → fg_Run (d + 1) 156 20 [some (.ref 187), some (.int y1), some (.int 0)] [] u2 Q)))) : fg_Run (d + 1) 156 2 [some (.ref 187), some (.int y1), none] [] σ Q := fg_blk [0, 2, 20] 14 (⟨fun z2126 => (H.1 z2126), fun z2127 => ⟨(by decide), ⟨(by decide), ⟨rfl, (match (H.2 z2127) with | ⟨z2128, z2129, z2130f⟩ => ⟨z2128, z2129, fun x1 u2 z2130p => (z2130f x1 u2 z2130p)⟩)⟩⟩⟩⟩)
set_option maxRecDepth 100000 in
theorem b_MO_layLikes_20 {d : Nat} {σ : fg_St} {Q : Int32 → fg_St → Prop} {y1 : Int32} {y2 : Int32} (H : (((fg_F σ 187 4) ≤ y2 → fg_Run (d + 1) 156 2 [some (.ref 187), some (.int (y1 + 1)), none] [] σ Q) ∧ (¬ ((fg_F σ 187 4) ≤ y2) → (∃ P, fg_Run d 140 0 [some (.ref 187), some (.int y2), none, none] [] σ P ∧ ∀ x1 u2, P x1 u2 → (vp_in ((10 * y1) + y2) 60 ∧ fg_Run (d + 1) 156 20 [some (.ref 187), some (.int y1), some (.int (y2 + 1))] [] (fg_sR u2 203 (((10 * y1) + y2).toNatClampNeg) x1) Q))))) : fg_Run (d + 1) 156 20 [some (.ref 187), some (.int y1), some (.int y2)] [] σ Q := fg_blk [0, 2, 20] 18 (⟨rfl, ⟨fun z2131 => (fg_Run.drop (L := [some _, some _, none]) ⟨rfl, ⟨rfl, ⟨trivial, trivial⟩⟩⟩ (H.1 z2131)), fun z2132 => ⟨rfl, ⟨rfl, (match (H.2 z2132) with | ⟨z2133, z2134, z2135f⟩ => ⟨z2133, z2134, fun x1 u2 z2135p => ⟨rfl, ⟨(z2135f x1 u2 z2135p).1, (z2135f x1 u2 z2135p).2⟩⟩⟩)⟩⟩⟩⟩)
set_option maxRecDepth 100000 in
theorem b_MO_greatestPart_0 {d : Nat} {σ : fg_St} {Q : Int32 → fg_St → Prop} {a0 : Int32} {a1 : Int32} (H : fg_Run (d + 1) 157 5 [some (.ref 187), some (.int a0), some (.int a1), some (.int 0), some (.int 0), none, none] [] σ Q) : fg_Run (d + 1) 157 0 [some (.ref 187), some (.int a0), some (.int a1), none, none, none, none] [] σ Q := fg_blk [0, 5, 18] 5 (H)
set_option maxRecDepth 100000 in
theorem b_MO_greatestPart_5 {d : Nat} {σ : fg_St} {Q : Int32 → fg_St → Prop} {y1 : Int32} {y2 : Int32} {y3 : Int32} {y4 : Int32} (H : ((6 ≤ y4 → Q y3 σ) ∧ (¬ (6 ≤ y4) → fg_Run (d + 1) 157 18 [some (.ref 187), some (.int y1), some (.int y2), some (.int y3), some (.int y4), some (.int 0), some (.int 0)] [] σ Q))) : fg_Run (d + 1) 157 5 [some (.ref 187), some (.int y1), some (.int y2), some (.int y3), some (.int y4), none, none] [] σ Q := fg_blk [0, 5, 18] 8 (⟨fun z2136 => (H.1 z2136), fun z2137 => (H.2 z2137)⟩)
set_option maxRecDepth 100000 in
theorem b_MO_greatestPart_18 {d : Nat} {σ : fg_St} {Q : Int32 → fg_St → Prop} {y1 : Int32} {y2 : Int32} {y3 : Int32} {y4 : Int32} {y5 : Int32} {y6 : Int32} (H : ((6 ≤ y6 → ((y5 ≤ y3 → fg_Run (d + 1) 157 5 [some (.ref 187), some (.int y1), some (.int y2), some (.int y3), some (.int (y4 + 1)), none, none] [] σ Q) ∧ (¬ (y5 ≤ y3) → fg_Run (d + 1) 157 5 [some (.ref 187), some (.int y1), some (.int y2), some (.int y5), some (.int (y4 + 1)), none, none] [] σ Q))) ∧ (¬ (6 ≤ y6) → (∃ P, fg_Run d 111 0 [some (.int y1), some (.int y4)] [] σ P ∧ ∀ x1 u2, P x1 u2 → ((x1 = 0 → fg_Run (d + 1) 157 18 [some (.ref 187), some (.int y1), some (.int y2), some (.int y3), some (.int y4), some (.int (y5 + 0)), some (.int (y6 + 1))] [] u2 Q) ∧ (¬ (x1 = 0) → (∃ P, fg_Run d 111 0 [some (.int y1), some (.int y6)] [] u2 P ∧ ∀ x3 u4, P x3 u4 → ((x3 = 0 → fg_Run (d + 1) 157 18 [some (.ref 187), some (.int y1), some (.int y2), some (.int y3), some (.int y4), some (.int (y5 + 0)), some (.int (y6 + 1))] [] u4 Q) ∧ (¬ (x3 = 0) → (vp_in ((10 * y4) + y2) 60 ∧ (vp_in ((10 * y6) + y2) 60 ∧ ((¬ (fg_R u4 203 (((10 * y4) + y2).toNatClampNeg)) = (fg_R u4 203 (((10 * y6) + y2).toNatClampNeg)) → fg_Run (d + 1) 157 18 [some (.ref 187), some (.int y1), some (.int y2), some (.int y3), some (.int y4), some (.int (y5 + 0)), some (.int (y6 + 1))] [] u4 Q) ∧ ((fg_R u4 203 (((10 * y4) + y2).toNatClampNeg)) = (fg_R u4 203 (((10 * y6) + y2).toNatClampNeg)) → fg_Run (d + 1) 157 18 [some (.ref 187), some (.int y1), some (.int y2), some (.int y3), some (.int y4), some (.int (y5 + 1)), some (.int (y6 + 1))] [] u4 Q))))))))))))) : fg_Run (d + 1) 157 18 [some (.ref 187), some (.int y1), some (.int y2), some (.int y3), some (.int y4), some (.int y5), some (.int y6)] [] σ Q := fg_blk [0, 5, 18] 36 (⟨fun z2138 => ⟨fun z2140 => (fg_Run.drop (L := [some _, some _, some _, some _, some _, none, none]) ⟨rfl, ⟨rfl, ⟨rfl, ⟨rfl, ⟨rfl, ⟨trivial, ⟨trivial, trivial⟩⟩⟩⟩⟩⟩⟩ ((H.1 z2138).1 z2140)), fun z2141 => (fg_Run.drop (L := [some _, some _, some _, some _, some _, none, none]) ⟨rfl, ⟨rfl, ⟨rfl, ⟨rfl, ⟨rfl, ⟨trivial, ⟨trivial, trivial⟩⟩⟩⟩⟩⟩⟩ ((H.1 z2138).2 z2141))⟩, fun z2139 => (match (H.2 z2139) with | ⟨z2142, z2143, z2144f⟩ => ⟨z2142, z2143, fun x1 u2 z2144p => ⟨fun z2145 => ((z2144f x1 u2 z2144p).1 z2145), fun z2146 => (match ((z2144f x1 u2 z2144p).2 z2146) with | ⟨z2147, z2148, z2149f⟩ => ⟨z2147, z2148, fun x3 u4 z2149p => ⟨fun z2150 => ((z2149f x3 u4 z2149p).1 z2150), fun z2151 => ⟨rfl, ⟨rfl, ⟨((z2149f x3 u4 z2149p).2 z2151).1, ⟨rfl, ⟨rfl, ⟨((z2149f x3 u4 z2149p).2 z2151).2.1, ⟨fun z2152 => (((z2149f x3 u4 z2149p).2 z2151).2.2.1 z2152), fun z2153 => (((z2149f x3 u4 z2149p).2 z2151).2.2.2 (Classical.not_not.mp z2153))⟩⟩⟩⟩⟩⟩⟩⟩⟩)⟩⟩)⟩)
set_option maxRecDepth 100000 in
theorem b_MO_askNext_0 {d : Nat} {σ : fg_St} {Q : Int32 → fg_St → Prop} (H : (∃ P, fg_Run d 155 0 [some (.ref 187), none, none, none, none] [] σ P ∧ ∀ x1 u2, P x1 u2 → (∃ P, fg_Run d 156 0 [some (.ref 187), none, none] [] u2 P ∧ ∀ x3 u4, P x3 u4 → (∃ P, fg_Run d 112 0 [some (.int x1), none, none] [] u4 P ∧ ∀ x5 u6, P x5 u6 → fg_Run (d + 1) 158 19 [some (.ref 187), some (.int x1), some (.int (-1)), some (.int x5), some (.int 0), none] [] u6 Q)))) : fg_Run (d + 1) 158 0 [some (.ref 187), none, none, none, none, none] [] σ Q := fg_blk [0, 19] 13 (⟨rfl, (match H with | ⟨z2154, z2155, z2156f⟩ => ⟨z2154, z2155, fun x1 u2 z2156p => ⟨rfl, (match (z2156f x1 u2 z2156p) with | ⟨z2157, z2158, z2159f⟩ => ⟨z2157, z2158, fun x3 u4 z2159p => (match (z2159f x3 u4 z2159p) with | ⟨z2160, z2161, z2162f⟩ => ⟨z2160, z2161, fun x5 u6 z2162p => (z2162f x5 u6 z2162p)⟩)⟩)⟩⟩)⟩)
set_option maxRecDepth 100000 in
theorem b_MO_askNext_19 {d : Nat} {σ : fg_St} {Q : Int32 → fg_St → Prop} {y1 : Int32} {y2 : Int32} {y3 : Int32} {y4 : Int32} (H : (((fg_F σ 187 4) ≤ y4 → Q y2 σ) ∧ (¬ ((fg_F σ 187 4) ≤ y4) → (∃ P, fg_Run d 157 0 [some (.ref 187), some (.int y1), some (.int y4), none, none, none, none] [] σ P ∧ ∀ x1 u2, P x1 u2 → ((y3 ≤ x1 → ((y3 ≤ x1 → fg_Run (d + 1) 158 19 [some (.ref 187), some (.int y1), some (.int y2), some (.int y3), some (.int (y4 + 1)), none] [] u2 Q) ∧ (¬ (y3 ≤ x1) → fg_Run (d + 1) 158 19 [some (.ref 187), some (.int y1), some (.int y2), some (.int x1), some (.int (y4 + 1)), none] [] u2 Q))) ∧ (¬ (y3 ≤ x1) → ((y3 ≤ x1 → fg_Run (d + 1) 158 19 [some (.ref 187), some (.int y1), some (.int y4), some (.int y3), some (.int (y4 + 1)), none] [] u2 Q) ∧ (¬ (y3 ≤ x1) → fg_Run (d + 1) 158 19 [some (.ref 187), some (.int y1), some (.int y4), some (.int x1), some (.int (y4 + 1)), none] [] u2 Q)))))))) : fg_Run (d + 1) 158 19 [some (.ref 187), some (.int y1), some (.int y2), some (.int y3), some (.int y4), none] [] σ Q := fg_blk [0, 19] 24 (⟨rfl, ⟨fun z2163 => (H.1 z2163), fun z2164 => ⟨rfl, (match (H.2 z2164) with | ⟨z2165, z2166, z2167f⟩ => ⟨z2165, z2166, fun x1 u2 z2167p => ⟨fun z2168 => ⟨fun z2170 => (fg_Run.drop (L := [some _, some _, some _, some _, some _, none]) ⟨rfl, ⟨rfl, ⟨rfl, ⟨rfl, ⟨rfl, ⟨trivial, trivial⟩⟩⟩⟩⟩⟩ (((z2167f x1 u2 z2167p).1 z2168).1 z2170)), fun z2171 => (fg_Run.drop (L := [some _, some _, some _, some _, some _, none]) ⟨rfl, ⟨rfl, ⟨rfl, ⟨rfl, ⟨rfl, ⟨trivial, trivial⟩⟩⟩⟩⟩⟩ (((z2167f x1 u2 z2167p).1 z2168).2 z2171))⟩, fun z2169 => ⟨fun z2172 => (fg_Run.drop (L := [some _, some _, some _, some _, some _, none]) ⟨rfl, ⟨rfl, ⟨rfl, ⟨rfl, ⟨rfl, ⟨trivial, trivial⟩⟩⟩⟩⟩⟩ (((z2167f x1 u2 z2167p).2 z2169).1 z2172)), fun z2173 => (fg_Run.drop (L := [some _, some _, some _, some _, some _, none]) ⟨rfl, ⟨rfl, ⟨rfl, ⟨rfl, ⟨rfl, ⟨trivial, trivial⟩⟩⟩⟩⟩⟩ (((z2167f x1 u2 z2167p).2 z2169).2 z2173))⟩⟩⟩)⟩⟩⟩)
set_option maxRecDepth 100000 in
theorem b_MO_told_0 {d : Nat} {σ : fg_St} {Q : Int32 → fg_St → Prop} {a0 : Int32} (H : ((a0 = 0 → Q (fg_F σ 187 0) σ) ∧ (¬ a0 = 0 → ((a0 = 1 → Q (fg_F σ 187 1) σ) ∧ (¬ a0 = 1 → ((a0 = 2 → Q (fg_F σ 187 2) σ) ∧ (¬ a0 = 2 → ((a0 = 3 → Q (fg_F σ 187 4) σ) ∧ (¬ a0 = 3 → ((a0 = 4 → Q (fg_F σ 187 10) σ) ∧ (¬ a0 = 4 → ((a0 = 5 → Q (fg_R σ 191 60) σ) ∧ (¬ a0 = 5 → ((a0 = 6 → Q (fg_R σ 191 58) σ) ∧ (¬ a0 = 6 → ((a0 = 7 → Q (fg_R σ 191 59) σ) ∧ (¬ a0 = 7 → ((a0 = 8 → (∃ P, fg_Run d 128 0 [some (.ref 187), none, none] [] σ P ∧ ∀ x1 u2, P x1 u2 → Q x1 u2)) ∧ (¬ a0 = 8 → ((a0 = 9 → (∃ P, fg_Run d 129 0 [some (.ref 187), none, none] [] σ P ∧ ∀ x3 u4, P x3 u4 → Q x3 u4)) ∧ (¬ a0 = 9 → ((a0 = 10 → (∃ P, fg_Run d 135 0 [some (.ref 187), none, none] [] σ P ∧ ∀ x5 u6, P x5 u6 → Q x5 u6)) ∧ (¬ a0 = 10 → ((a0 = 11 → (∃ P, fg_Run d 142 0 [some (.ref 187)] [] σ P ∧ ∀ x7 u8, P x7 u8 → Q x7 u8)) ∧ (¬ a0 = 11 → ((a0 = 12 → (∃ P, fg_Run d 143 0 [some (.ref 187), none, none, none, none] [] σ P ∧ ∀ x9 u10, P x9 u10 → Q x9 u10)) ∧ (¬ a0 = 12 → ((a0 = 13 → (∃ P, fg_Run d 150 0 [some (.ref 187), none, none] [] σ P ∧ ∀ x11 u12, P x11 u12 → Q x11 u12)) ∧ (¬ a0 = 13 → ((a0 = 14 → (∃ P, fg_Run d 145 0 [some (.ref 187), none, none, none, none, none] [] σ P ∧ ∀ x13 u14, P x13 u14 → Q x13 u14)) ∧ (¬ a0 = 14 → ((a0 = 15 → (∃ P, fg_Run d 146 0 [some (.ref 187), none, none, none, none, none, none, none] [] σ P ∧ ∀ x15 u16, P x15 u16 → Q x15 u16)) ∧ (¬ a0 = 15 → ((a0 = 16 → Q (fg_F σ 187 26) σ) ∧ (¬ a0 = 16 → ((a0 = 17 → (∃ P, fg_Run d 155 0 [some (.ref 187), none, none, none, none] [] σ P ∧ ∀ x17 u18, P x17 u18 → (∃ P, fg_Run d 112 0 [some (.int x17), none, none] [] u18 P ∧ ∀ x19 u20, P x19 u20 → Q x19 u20))) ∧ (¬ a0 = 17 → ((a0 = 18 → (∃ P, fg_Run d 155 0 [some (.ref 187), none, none, none, none] [] σ P ∧ ∀ x21 u22, P x21 u22 → Q x21 u22)) ∧ (¬ a0 = 18 → ((a0 = 19 → (∃ P, fg_Run d 158 0 [some (.ref 187), none, none, none, none, none] [] σ P ∧ ∀ x23 u24, P x23 u24 → Q x23 u24)) ∧ (¬ a0 = 19 → ((a0 = 20 → Q (fg_F σ 187 32) σ) ∧ (¬ a0 = 20 → ((a0 = 21 → Q (fg_F σ 187 30) σ) ∧ (¬ a0 = 21 → Q (-1000000002) σ))))))))))))))))))))))))))))))))))))))))))))) : fg_Run (d + 1) 159 0 [some (.ref 187), some (.int a0)] [] σ Q := fg_blk [0] 7 (⟨fun z2174 => ⟨rfl, (H.1 z2174)⟩, fun z2175 => ⟨fun z2176 => ⟨rfl, ((H.2 z2175).1 z2176)⟩, fun z2177 => ⟨fun z2178 => ⟨rfl, (((H.2 z2175).2 z2177).1 z2178)⟩, fun z2179 => ⟨fun z2180 => ⟨rfl, ((((H.2 z2175).2 z2177).2 z2179).1 z2180)⟩, fun z2181 => ⟨fun z2182 => ⟨rfl, (((((H.2 z2175).2 z2177).2 z2179).2 z2181).1 z2182)⟩, fun z2183 => ⟨fun z2184 => ⟨rfl, ⟨rfl, ⟨fg_vin rfl rfl, ((((((H.2 z2175).2 z2177).2 z2179).2 z2181).2 z2183).1 z2184)⟩⟩⟩, fun z2185 => ⟨fun z2186 => ⟨rfl, ⟨rfl, ⟨fg_vin rfl rfl, (((((((H.2 z2175).2 z2177).2 z2179).2 z2181).2 z2183).2 z2185).1 z2186)⟩⟩⟩, fun z2187 => ⟨fun z2188 => ⟨rfl, ⟨rfl, ⟨fg_vin rfl rfl, ((((((((H.2 z2175).2 z2177).2 z2179).2 z2181).2 z2183).2 z2185).2 z2187).1 z2188)⟩⟩⟩, fun z2189 => ⟨fun z2190 => ⟨rfl, (match (((((((((H.2 z2175).2 z2177).2 z2179).2 z2181).2 z2183).2 z2185).2 z2187).2 z2189).1 z2190) with | ⟨z2192, z2193, z2194f⟩ => ⟨z2192, z2193, fun x1 u2 z2194p => (z2194f x1 u2 z2194p)⟩)⟩, fun z2191 => ⟨fun z2195 => ⟨rfl, (match ((((((((((H.2 z2175).2 z2177).2 z2179).2 z2181).2 z2183).2 z2185).2 z2187).2 z2189).2 z2191).1 z2195) with | ⟨z2197, z2198, z2199f⟩ => ⟨z2197, z2198, fun x3 u4 z2199p => (z2199f x3 u4 z2199p)⟩)⟩, fun z2196 => ⟨fun z2200 => ⟨rfl, (match (((((((((((H.2 z2175).2 z2177).2 z2179).2 z2181).2 z2183).2 z2185).2 z2187).2 z2189).2 z2191).2 z2196).1 z2200) with | ⟨z2202, z2203, z2204f⟩ => ⟨z2202, z2203, fun x5 u6 z2204p => (z2204f x5 u6 z2204p)⟩)⟩, fun z2201 => ⟨fun z2205 => ⟨rfl, (match ((((((((((((H.2 z2175).2 z2177).2 z2179).2 z2181).2 z2183).2 z2185).2 z2187).2 z2189).2 z2191).2 z2196).2 z2201).1 z2205) with | ⟨z2207, z2208, z2209f⟩ => ⟨z2207, z2208, fun x7 u8 z2209p => (z2209f x7 u8 z2209p)⟩)⟩, fun z2206 => ⟨fun z2210 => ⟨rfl, (match (((((((((((((H.2 z2175).2 z2177).2 z2179).2 z2181).2 z2183).2 z2185).2 z2187).2 z2189).2 z2191).2 z2196).2 z2201).2 z2206).1 z2210) with | ⟨z2212, z2213, z2214f⟩ => ⟨z2212, z2213, fun x9 u10 z2214p => (z2214f x9 u10 z2214p)⟩)⟩, fun z2211 => ⟨fun z2215 => ⟨rfl, (match ((((((((((((((H.2 z2175).2 z2177).2 z2179).2 z2181).2 z2183).2 z2185).2 z2187).2 z2189).2 z2191).2 z2196).2 z2201).2 z2206).2 z2211).1 z2215) with | ⟨z2217, z2218, z2219f⟩ => ⟨z2217, z2218, fun x11 u12 z2219p => (z2219f x11 u12 z2219p)⟩)⟩, fun z2216 => ⟨fun z2220 => ⟨rfl, (match (((((((((((((((H.2 z2175).2 z2177).2 z2179).2 z2181).2 z2183).2 z2185).2 z2187).2 z2189).2 z2191).2 z2196).2 z2201).2 z2206).2 z2211).2 z2216).1 z2220) with | ⟨z2222, z2223, z2224f⟩ => ⟨z2222, z2223, fun x13 u14 z2224p => (z2224f x13 u14 z2224p)⟩)⟩, fun z2221 => ⟨fun z2225 => ⟨rfl, (match ((((((((((((((((H.2 z2175).2 z2177).2 z2179).2 z2181).2 z2183).2 z2185).2 z2187).2 z2189).2 z2191).2 z2196).2 z2201).2 z2206).2 z2211).2 z2216).2 z2221).1 z2225) with | ⟨z2227, z2228, z2229f⟩ => ⟨z2227, z2228, fun x15 u16 z2229p => (z2229f x15 u16 z2229p)⟩)⟩, fun z2226 => ⟨fun z2230 => ⟨rfl, (((((((((((((((((H.2 z2175).2 z2177).2 z2179).2 z2181).2 z2183).2 z2185).2 z2187).2 z2189).2 z2191).2 z2196).2 z2201).2 z2206).2 z2211).2 z2216).2 z2221).2 z2226).1 z2230)⟩, fun z2231 => ⟨fun z2232 => ⟨rfl, (match ((((((((((((((((((H.2 z2175).2 z2177).2 z2179).2 z2181).2 z2183).2 z2185).2 z2187).2 z2189).2 z2191).2 z2196).2 z2201).2 z2206).2 z2211).2 z2216).2 z2221).2 z2226).2 z2231).1 z2232) with | ⟨z2234, z2235, z2236f⟩ => ⟨z2234, z2235, fun x17 u18 z2236p => (match (z2236f x17 u18 z2236p) with | ⟨z2237, z2238, z2239f⟩ => ⟨z2237, z2238, fun x19 u20 z2239p => (z2239f x19 u20 z2239p)⟩)⟩)⟩, fun z2233 => ⟨fun z2240 => ⟨rfl, (match (((((((((((((((((((H.2 z2175).2 z2177).2 z2179).2 z2181).2 z2183).2 z2185).2 z2187).2 z2189).2 z2191).2 z2196).2 z2201).2 z2206).2 z2211).2 z2216).2 z2221).2 z2226).2 z2231).2 z2233).1 z2240) with | ⟨z2242, z2243, z2244f⟩ => ⟨z2242, z2243, fun x21 u22 z2244p => (z2244f x21 u22 z2244p)⟩)⟩, fun z2241 => ⟨fun z2245 => ⟨rfl, (match ((((((((((((((((((((H.2 z2175).2 z2177).2 z2179).2 z2181).2 z2183).2 z2185).2 z2187).2 z2189).2 z2191).2 z2196).2 z2201).2 z2206).2 z2211).2 z2216).2 z2221).2 z2226).2 z2231).2 z2233).2 z2241).1 z2245) with | ⟨z2247, z2248, z2249f⟩ => ⟨z2247, z2248, fun x23 u24 z2249p => (z2249f x23 u24 z2249p)⟩)⟩, fun z2246 => ⟨fun z2250 => ⟨rfl, (((((((((((((((((((((H.2 z2175).2 z2177).2 z2179).2 z2181).2 z2183).2 z2185).2 z2187).2 z2189).2 z2191).2 z2196).2 z2201).2 z2206).2 z2211).2 z2216).2 z2221).2 z2226).2 z2231).2 z2233).2 z2241).2 z2246).1 z2250)⟩, fun z2251 => ⟨fun z2252 => ⟨rfl, ((((((((((((((((((((((H.2 z2175).2 z2177).2 z2179).2 z2181).2 z2183).2 z2185).2 z2187).2 z2189).2 z2191).2 z2196).2 z2201).2 z2206).2 z2211).2 z2216).2 z2221).2 z2226).2 z2231).2 z2233).2 z2241).2 z2246).2 z2251).1 z2252)⟩, fun z2253 => ((((((((((((((((((((((H.2 z2175).2 z2177).2 z2179).2 z2181).2 z2183).2 z2185).2 z2187).2 z2189).2 z2191).2 z2196).2 z2201).2 z2206).2 z2211).2 z2216).2 z2221).2 z2226).2 z2231).2 z2233).2 z2241).2 z2246).2 z2251).2 z2253)⟩⟩⟩⟩⟩⟩⟩⟩⟩⟩⟩⟩⟩⟩⟩⟩⟩⟩⟩⟩⟩⟩)
set_option maxRecDepth 100000 in
theorem b_MO_flag_0 {d : Nat} {σ : fg_St} {Q : Int32 → fg_St → Prop} {a0 : Int32} {a1 : Int32} (H : (∃ P, fg_Run d 114 0 [some (.ref 187), some (.int a0)] [] σ P ∧ ∀ x1 u2, P x1 u2 → ((¬ x1 = 0 → ((a1 = 0 → (vp_in a0 61 ∧ Q ((fg_R u2 191 a0.toNatClampNeg) / 100) u2)) ∧ (¬ a1 = 0 → ((a1 = 1 → (vp_in a0 61 ∧ Q (((fg_R u2 191 a0.toNatClampNeg) / 10) - ((fg_R u2 191 a0.toNatClampNeg) / 10) / 10 * 10) u2)) ∧ (¬ a1 = 1 → ((a1 = 2 → (vp_in a0 61 ∧ Q ((fg_R u2 191 a0.toNatClampNeg) - (fg_R u2 191 a0.toNatClampNeg) / 10 * 10) u2)) ∧ (¬ a1 = 2 → ((a1 = 3 → (vp_in (10 + a0) 61 ∧ Q (fg_R u2 191 ((10 + a0).toNatClampNeg)) u2)) ∧ (¬ a1 = 3 → ((a1 = 4 → (vp_in (20 + a0) 61 ∧ Q (fg_R u2 191 ((20 + a0).toNatClampNeg)) u2)) ∧ (¬ a1 = 4 → ((a1 = 5 → (vp_in (30 + a0) 61 ∧ Q (fg_R u2 191 ((30 + a0).toNatClampNeg)) u2)) ∧ (¬ a1 = 5 → ((a1 = 6 → (vp_in a0 61 ∧ (∃ P, fg_Run d 137 0 [some (.int (fg_R u2 191 a0.toNatClampNeg)), some (.int (fg_R u2 191 58)), some (.int (fg_R u2 191 59)), none, none, none, none] [] u2 P ∧ ∀ x3 u4, P x3 u4 → Q x3 u4))) ∧ (¬ a1 = 6 → Q (-1000000002) u2))))))))))))))) ∧ (x1 = 0 → Q (-1000000001) u2)))) : fg_Run (d + 1) 160 0 [some (.ref 187), some (.int a0), some (.int a1)] [] σ Q := fg_blk [0] 20 (⟨rfl, (match H with | ⟨z2254, z2255, z2256f⟩ => ⟨z2254, z2255, fun x1 u2 z2256p => ⟨fun z2257 => ⟨fun z2259 => ⟨rfl, ⟨rfl, ⟨(((z2256f x1 u2 z2256p).1 z2257).1 z2259).1, ⟨(by decide), (((z2256f x1 u2 z2256p).1 z2257).1 z2259).2⟩⟩⟩⟩, fun z2260 => ⟨fun z2261 => ⟨rfl, ⟨rfl, ⟨((((z2256f x1 u2 z2256p).1 z2257).2 z2260).1 z2261).1, ⟨(by decide), ⟨(by decide), ((((z2256f x1 u2 z2256p).1 z2257).2 z2260).1 z2261).2⟩⟩⟩⟩⟩, fun z2262 => ⟨fun z2263 => ⟨rfl, ⟨rfl, ⟨(((((z2256f x1 u2 z2256p).1 z2257).2 z2260).2 z2262).1 z2263).1, ⟨(by decide), (((((z2256f x1 u2 z2256p).1 z2257).2 z2260).2 z2262).1 z2263).2⟩⟩⟩⟩, fun z2264 => ⟨fun z2265 => ⟨rfl, ⟨rfl, ⟨((((((z2256f x1 u2 z2256p).1 z2257).2 z2260).2 z2262).2 z2264).1 z2265).1, ((((((z2256f x1 u2 z2256p).1 z2257).2 z2260).2 z2262).2 z2264).1 z2265).2⟩⟩⟩, fun z2266 => ⟨fun z2267 => ⟨rfl, ⟨rfl, ⟨(((((((z2256f x1 u2 z2256p).1 z2257).2 z2260).2 z2262).2 z2264).2 z2266).1 z2267).1, (((((((z2256f x1 u2 z2256p).1 z2257).2 z2260).2 z2262).2 z2264).2 z2266).1 z2267).2⟩⟩⟩, fun z2268 => ⟨fun z2269 => ⟨rfl, ⟨rfl, ⟨((((((((z2256f x1 u2 z2256p).1 z2257).2 z2260).2 z2262).2 z2264).2 z2266).2 z2268).1 z2269).1, ((((((((z2256f x1 u2 z2256p).1 z2257).2 z2260).2 z2262).2 z2264).2 z2266).2 z2268).1 z2269).2⟩⟩⟩, fun z2270 => ⟨fun z2271 => ⟨rfl, ⟨rfl, ⟨(((((((((z2256f x1 u2 z2256p).1 z2257).2 z2260).2 z2262).2 z2264).2 z2266).2 z2268).2 z2270).1 z2271).1, ⟨rfl, ⟨rfl, ⟨fg_vin rfl rfl, ⟨rfl, ⟨rfl, ⟨fg_vin rfl rfl, (match (((((((((z2256f x1 u2 z2256p).1 z2257).2 z2260).2 z2262).2 z2264).2 z2266).2 z2268).2 z2270).1 z2271).2 with | ⟨z2273, z2274, z2275f⟩ => ⟨z2273, z2274, fun x3 u4 z2275p => (z2275f x3 u4 z2275p)⟩)⟩⟩⟩⟩⟩⟩⟩⟩⟩, fun z2272 => (((((((((z2256f x1 u2 z2256p).1 z2257).2 z2260).2 z2262).2 z2264).2 z2266).2 z2268).2 z2270).2 z2272)⟩⟩⟩⟩⟩⟩⟩, fun z2258 => ((z2256f x1 u2 z2256p).2 (Classical.not_not.mp z2258))⟩⟩)⟩)
set_option maxRecDepth 100000 in
theorem b_MO_lineOf_0 {d : Nat} {σ : fg_St} {Q : Int32 → fg_St → Prop} {a0 : Int32} (H : fg_Run d 161 9 [some (.ref 187), some (.int a0), some (.int (-1)), some (.int ((fg_F σ 187 0) - 1))] [] σ Q) : fg_Run d 161 0 [some (.ref 187), some (.int a0), none, none] [] σ Q := fg_blk [0, 9] 8 (⟨rfl, H⟩)
set_option maxRecDepth 100000 in
theorem b_MO_lineOf_9 {d : Nat} {σ : fg_St} {Q : Int32 → fg_St → Prop} {y1 : Int32} {y2 : Int32} {y3 : Int32} (H : ((y3 < 0 → Q y2 σ) ∧ (¬ (y3 < 0) → (vp_in (43 + y3) 61 ∧ ((¬ (fg_R σ 191 ((43 + y3).toNatClampNeg)) = y1 → fg_Run d 161 9 [some (.ref 187), some (.int y1), some (.int y2), some (.int (y3 + (-1)))] [] σ Q) ∧ ((fg_R σ 191 ((43 + y3).toNatClampNeg)) = y1 → fg_Run d 161 9 [some (.ref 187), some (.int y1), some (.int y3), some (.int (y3 + (-1)))] [] σ Q)))))) : fg_Run d 161 9 [some (.ref 187), some (.int y1), some (.int y2), some (.int y3)] [] σ Q := fg_blk [0, 9] 16 (⟨fun z2276 => (H.1 z2276), fun z2277 => ⟨rfl, ⟨rfl, ⟨(H.2 z2277).1, ⟨fun z2278 => ((H.2 z2277).2.1 z2278), fun z2279 => ((H.2 z2277).2.2 (Classical.not_not.mp z2279))⟩⟩⟩⟩⟩)
set_option maxRecDepth 100000 in
theorem b_MO_likeNow_0 {d : Nat} {σ : fg_St} {Q : Int32 → fg_St → Prop} {a0 : Int32} (H : (∃ P, fg_Run d 138 0 [some (.ref 187), some (.int (fg_R σ 191 58)), some (.int (fg_R σ 191 59)), none, none, none] [] σ P ∧ ∀ x1 u2, P x1 u2 → (∃ P, fg_Run d 140 0 [some (.ref 187), some (.int a0), none, none] [] u2 P ∧ ∀ x3 u4, P x3 u4 → Q x3 u4))) : fg_Run (d + 1) 162 0 [some (.ref 187), some (.int a0)] [] σ Q := fg_blk [0] 14 (⟨rfl, ⟨rfl, ⟨fg_vin rfl rfl, ⟨rfl, ⟨rfl, ⟨fg_vin rfl rfl, ⟨rfl, (match H with | ⟨z2280, z2281, z2282f⟩ => ⟨z2280, z2281, fun x1 u2 z2282p => ⟨rfl, (match (z2282f x1 u2 z2282p) with | ⟨z2283, z2284, z2285f⟩ => ⟨z2283, z2284, fun x3 u4 z2285p => (z2285f x3 u4 z2285p)⟩)⟩⟩)⟩⟩⟩⟩⟩⟩⟩)
set_option maxRecDepth 100000 in
theorem b_MO_signal_0 {d : Nat} {σ : fg_St} {Q : Int32 → fg_St → Prop} {a0 : Int32} {a1 : Int32} (H : (∃ P, fg_Run d 115 0 [some (.ref 187), some (.int a0)] [] σ P ∧ ∀ x1 u2, P x1 u2 → ((¬ x1 = 0 → (∃ P, fg_Run d 110 0 [some (.long a1.toInt64), none, some (.long 0), none, some (.long 6), none] [] u2 P ∧ ∀ x3 u4, P x3 u4 → ((¬ x3 = 0 → (∃ P, fg_Run d 110 0 [some (.long a1.toInt64), none, some (.long 1), none, some (.long 4), none] [] u4 P ∧ ∀ x5 u6, P x5 u6 → ((x5 = 0 → ((¬ a1 = 0 → ((¬ a1 = 5 → (∃ P, fg_Run d 161 0 [some (.ref 187), some (.int a0), none, none] [] u6 P ∧ ∀ x7 u8, P x7 u8 → Q x7 u8)) ∧ (a1 = 5 → (∃ P, fg_Run d 162 0 [some (.ref 187), some (.int a0)] [] u6 P ∧ ∀ x9 u10, P x9 u10 → Q x9 u10)))) ∧ (a1 = 0 → (vp_in a0 10 ∧ Q (fg_R u6 189 a0.toNatClampNeg) u6)))) ∧ (¬ (x5 = 0) → (vp_in a0 10 ∧ (((fg_R u6 189 a0.toNatClampNeg) < a1 → Q (-1) u6) ∧ (¬ ((fg_R u6 189 a0.toNatClampNeg) < a1) → (vp_in (((4 * a0) + a1) - 1) 40 ∧ Q (fg_R u6 190 ((((4 * a0) + a1) - 1).toNatClampNeg)) u6)))))))) ∧ (x3 = 0 → Q (-1000000002) u4)))) ∧ (x1 = 0 → Q (-1000000001) u2)))) : fg_Run (d + 1) 163 0 [some (.ref 187), some (.int a0), some (.int a1)] [] σ Q := fg_blk [0] 34 (⟨rfl, (match H with | ⟨z2286, z2287, z2288f⟩ => ⟨z2286, z2287, fun x1 u2 z2288p => ⟨fun z2289 => (match ((z2288f x1 u2 z2288p).1 z2289) with | ⟨z2291, z2292, z2293f⟩ => ⟨z2291, z2292, fun x3 u4 z2293p => ⟨fun z2294 => (match ((z2293f x3 u4 z2293p).1 z2294) with | ⟨z2296, z2297, z2298f⟩ => ⟨z2296, z2297, fun x5 u6 z2298p => ⟨fun z2299 => ⟨fun z2301 => ⟨fun z2303 => ⟨rfl, (match ((((z2298f x5 u6 z2298p).1 z2299).1 z2301).1 z2303) with | ⟨z2305, z2306, z2307f⟩ => ⟨z2305, z2306, fun x7 u8 z2307p => (z2307f x7 u8 z2307p)⟩)⟩, fun z2304 => ⟨rfl, (match ((((z2298f x5 u6 z2298p).1 z2299).1 z2301).2 (Classical.not_not.mp z2304)) with | ⟨z2308, z2309, z2310f⟩ => ⟨z2308, z2309, fun x9 u10 z2310p => (z2310f x9 u10 z2310p)⟩)⟩⟩, fun z2302 => ⟨rfl, ⟨rfl, ⟨(((z2298f x5 u6 z2298p).1 z2299).2 (Classical.not_not.mp z2302)).1, (((z2298f x5 u6 z2298p).1 z2299).2 (Classical.not_not.mp z2302)).2⟩⟩⟩⟩, fun z2300 => ⟨rfl, ⟨rfl, ⟨((z2298f x5 u6 z2298p).2 z2300).1, ⟨fun z2311 => (((z2298f x5 u6 z2298p).2 z2300).2.1 z2311), fun z2312 => ⟨rfl, ⟨rfl, ⟨(((z2298f x5 u6 z2298p).2 z2300).2.2 z2312).1, (((z2298f x5 u6 z2298p).2 z2300).2.2 z2312).2⟩⟩⟩⟩⟩⟩⟩⟩⟩), fun z2295 => ((z2293f x3 u4 z2293p).2 (Classical.not_not.mp z2295))⟩⟩), fun z2290 => ((z2288f x1 u2 z2288p).2 (Classical.not_not.mp z2290))⟩⟩)⟩)
set_option maxRecDepth 100000 in
theorem b_MO_line_0 {d : Nat} {σ : fg_St} {Q : Int32 → fg_St → Prop} {a0 : Int32} {a1 : Int32} (H : (∃ P, fg_Run d 113 0 [some (.ref 187), some (.int a0)] [] σ P ∧ ∀ x1 u2, P x1 u2 → ((¬ x1 = 0 → (∃ P, fg_Run d 110 0 [some (.long a1.toInt64), none, some (.long 0), none, some (.long 4), none] [] u2 P ∧ ∀ x3 u4, P x3 u4 → ((¬ x3 = 0 → ((¬ a1 = 0 → (vp_in (((46 + (4 * a0)) + a1) - 1) 61 ∧ Q (fg_R u4 191 ((((46 + (4 * a0)) + a1) - 1).toNatClampNeg)) u4)) ∧ (a1 = 0 → (vp_in (43 + a0) 61 ∧ Q (fg_R u4 191 ((43 + a0).toNatClampNeg)) u4)))) ∧ (x3 = 0 → Q (-1000000002) u4)))) ∧ (x1 = 0 → Q (-1000000001) u2)))) : fg_Run (d + 1) 164 0 [some (.ref 187), some (.int a0), some (.int a1)] [] σ Q := fg_blk [0] 25 (⟨rfl, (match H with | ⟨z2313, z2314, z2315f⟩ => ⟨z2313, z2314, fun x1 u2 z2315p => ⟨fun z2316 => (match ((z2315f x1 u2 z2315p).1 z2316) with | ⟨z2318, z2319, z2320f⟩ => ⟨z2318, z2319, fun x3 u4 z2320p => ⟨fun z2321 => ⟨fun z2323 => ⟨rfl, ⟨rfl, ⟨(((z2320f x3 u4 z2320p).1 z2321).1 z2323).1, (((z2320f x3 u4 z2320p).1 z2321).1 z2323).2⟩⟩⟩, fun z2324 => ⟨rfl, ⟨rfl, ⟨(((z2320f x3 u4 z2320p).1 z2321).2 (Classical.not_not.mp z2324)).1, (((z2320f x3 u4 z2320p).1 z2321).2 (Classical.not_not.mp z2324)).2⟩⟩⟩⟩, fun z2322 => ((z2320f x3 u4 z2320p).2 (Classical.not_not.mp z2322))⟩⟩), fun z2317 => ((z2315f x1 u2 z2315p).2 (Classical.not_not.mp z2317))⟩⟩)⟩)
set_option maxRecDepth 100000 in
theorem b_MO_needs_0 {d : Nat} {σ : fg_St} {Q : Int32 → fg_St → Prop} {a0 : Int32} {a1 : Int32} (H : (∃ P, fg_Run d 115 0 [some (.ref 187), some (.int a0)] [] σ P ∧ ∀ x1 u2, P x1 u2 → ((¬ x1 = 0 → (∃ P, fg_Run d 110 0 [some (.long a1.toInt64), none, some (.long 1), none, some (.long 4), none] [] u2 P ∧ ∀ x3 u4, P x3 u4 → ((¬ x3 = 0 → (∃ P, fg_Run d 128 0 [some (.ref 187), none, none] [] u4 P ∧ ∀ x5 u6, P x5 u6 → (∃ P, fg_Run d 130 0 [some (.ref 187), none, none] [] u6 P ∧ ∀ x7 u8, P x7 u8 → (∃ P, fg_Run d 134 0 [some (.ref 187), some (.int a0), some (.int x5), some (.int x7), none] [] u8 P ∧ ∀ x9 u10, P x9 u10 → ((x9 = 0 → Q (-1) u10) ∧ (¬ (x9 = 0) → (vp_in (a1 - 1) 4 ∧ Q (fg_R u10 196 ((a1 - 1).toNatClampNeg)) u10))))))) ∧ (x3 = 0 → Q (-1000000002) u4)))) ∧ (x1 = 0 → Q (-1000000001) u2)))) : fg_Run (d + 1) 165 0 [some (.ref 187), some (.int a0), some (.int a1)] [] σ Q := fg_blk [0] 26 (⟨rfl, (match H with | ⟨z2325, z2326, z2327f⟩ => ⟨z2325, z2326, fun x1 u2 z2327p => ⟨fun z2328 => (match ((z2327f x1 u2 z2327p).1 z2328) with | ⟨z2330, z2331, z2332f⟩ => ⟨z2330, z2331, fun x3 u4 z2332p => ⟨fun z2333 => ⟨rfl, (match ((z2332f x3 u4 z2332p).1 z2333) with | ⟨z2335, z2336, z2337f⟩ => ⟨z2335, z2336, fun x5 u6 z2337p => ⟨rfl, (match (z2337f x5 u6 z2337p) with | ⟨z2338, z2339, z2340f⟩ => ⟨z2338, z2339, fun x7 u8 z2340p => ⟨rfl, (match (z2340f x7 u8 z2340p) with | ⟨z2341, z2342, z2343f⟩ => ⟨z2341, z2342, fun x9 u10 z2343p => ⟨fun z2344 => ((z2343f x9 u10 z2343p).1 z2344), fun z2345 => ⟨rfl, ⟨rfl, ⟨((z2343f x9 u10 z2343p).2 z2345).1, ((z2343f x9 u10 z2343p).2 z2345).2⟩⟩⟩⟩⟩)⟩⟩)⟩⟩)⟩, fun z2334 => ((z2332f x3 u4 z2332p).2 (Classical.not_not.mp z2334))⟩⟩), fun z2329 => ((z2327f x1 u2 z2327p).2 (Classical.not_not.mp z2329))⟩⟩)⟩)
set_option maxRecDepth 100000 in
theorem b_MO_remember_0 {d : Nat} {σ : fg_St} {Q : Int32 → fg_St → Prop} (H : ((¬ (fg_F σ 187 30) = 16 → fg_Run d 166 52 [some (.ref 187), some (.int 0)] [] σ Q) ∧ ((fg_F σ 187 30) = 16 → fg_Run d 166 12 [some (.ref 187), some (.int 61)] [] σ Q))) : fg_Run d 166 0 [some (.ref 187), none] [] σ Q := fg_blk [0, 12, 52] 7 (⟨rfl, ⟨fun z2346 => (H.1 z2346), fun z2347 => (H.2 (Classical.not_not.mp z2347))⟩⟩)
set_option maxRecDepth 100000 in
theorem b_MO_remember_12 {d : Nat} {σ : fg_St} {Q : Int32 → fg_St → Prop} {y1 : Int32} (H : ((976 ≤ y1 → fg_Run d 166 52 [some (.ref 187), some (.int 0)] [] (fg_sF σ 187 30 ((fg_F σ 187 30) - 1)) Q) ∧ (¬ (976 ≤ y1) → (vp_in y1 976 ∧ (vp_in (y1 - 61) 976 ∧ fg_Run d 166 12 [some (.ref 187), some (.int (y1 + 1))] [] (fg_sR σ 204 ((y1 - 61).toNatClampNeg) (fg_R σ 204 y1.toNatClampNeg)) Q))))) : fg_Run d 166 12 [some (.ref 187), some (.int y1)] [] σ Q := fg_blk [0, 12, 52] 16 (⟨fun z2350 => ⟨rfl, ⟨rfl, (H.1 z2350)⟩⟩, fun z2351 => ⟨rfl, ⟨rfl, ⟨rfl, ⟨(H.2 z2351).1, ⟨rfl, ⟨(H.2 z2351).2.1, (H.2 z2351).2.2⟩⟩⟩⟩⟩⟩⟩)
set_option maxRecDepth 100000 in
theorem b_MO_remember_52 {d : Nat} {σ : fg_St} {Q : Int32 → fg_St → Prop} {y1 : Int32} (H : ((61 ≤ y1 → Q 0 (fg_sF σ 187 30 ((fg_F σ 187 30) + 1))) ∧ (¬ (61 ≤ y1) → (vp_in y1 61 ∧ (vp_in ((61 * (fg_F σ 187 30)) + y1) 976 ∧ fg_Run d 166 52 [some (.ref 187), some (.int (y1 + 1))] [] (fg_sR σ 204 (((61 * (fg_F σ 187 30)) + y1).toNatClampNeg) (fg_R σ 191 y1.toNatClampNeg)) Q))))) : fg_Run d 166 52 [some (.ref 187), some (.int y1)] [] σ Q := fg_blk [0, 12, 52] 19 (⟨fun z2348 => ⟨rfl, ⟨rfl, (H.1 z2348)⟩⟩, fun z2349 => ⟨rfl, ⟨rfl, ⟨rfl, ⟨rfl, ⟨(H.2 z2349).1, ⟨rfl, ⟨(H.2 z2349).2.1, (H.2 z2349).2.2⟩⟩⟩⟩⟩⟩⟩⟩)
set_option maxRecDepth 100000 in
theorem b_MO_canHoist_0 {d : Nat} {σ : fg_St} {Q : Int32 → fg_St → Prop} {a0 : Int32} {a1 : Int32} (H : (vp_in (43 + a0) 61 ∧ ((¬ (fg_R σ 191 ((43 + a0).toNatClampNeg)) = (-1) → Q 0 σ) ∧ ((fg_R σ 191 ((43 + a0).toNatClampNeg)) = (-1) → (∃ P, fg_Run d 128 0 [some (.ref 187), none, none] [] σ P ∧ ∀ x1 u2, P x1 u2 → (∃ P, fg_Run d 130 0 [some (.ref 187), none, none] [] u2 P ∧ ∀ x3 u4, P x3 u4 → (∃ P, fg_Run d 134 0 [some (.ref 187), some (.int a1), some (.int x1), some (.int x3), none] [] u4 P ∧ ∀ x5 u6, P x5 u6 → ((x5 = 0 → Q 0 u6) ∧ (¬ (x5 = 0) → Q 1 u6))))))))) : fg_Run (d + 1) 167 0 [some (.ref 187), some (.int a0), some (.int a1)] [] σ Q := fg_blk [0] 19 (⟨rfl, ⟨rfl, ⟨H.1, ⟨fun z2352 => ⟨(by decide), (H.2.1 z2352)⟩, fun z2353 => ⟨rfl, (match (H.2.2 (Classical.not_not.mp z2353)) with | ⟨z2354, z2355, z2356f⟩ => ⟨z2354, z2355, fun x1 u2 z2356p => ⟨rfl, (match (z2356f x1 u2 z2356p) with | ⟨z2357, z2358, z2359f⟩ => ⟨z2357, z2358, fun x3 u4 z2359p => ⟨rfl, (match (z2359f x3 u4 z2359p) with | ⟨z2360, z2361, z2362f⟩ => ⟨z2360, z2361, fun x5 u6 z2362p => ⟨fun z2363 => ⟨(by decide), ((z2362f x5 u6 z2362p).1 z2363)⟩, fun z2364 => ⟨(by decide), ((z2362f x5 u6 z2362p).2 z2364)⟩⟩⟩)⟩⟩)⟩⟩)⟩⟩⟩⟩⟩)
set_option maxRecDepth 100000 in
theorem b_MO_hoistRow_0 {d : Nat} {σ : fg_St} {Q : Int32 → fg_St → Prop} {a0 : Int32} {a1 : Int32} (H : fg_Run d 168 5 [some (.ref 187), some (.int a0), some (.int a1), some (.int 0), some (.int 0)] [] σ Q) : fg_Run d 168 0 [some (.ref 187), some (.int a0), some (.int a1), none, none] [] σ Q := fg_blk [0, 5] 5 (H)
set_option maxRecDepth 100000 in
theorem b_MO_hoistRow_5 {d : Nat} {σ : fg_St} {Q : Int32 → fg_St → Prop} {y1 : Int32} {y2 : Int32} {y3 : Int32} {y4 : Int32} (H : ((4 ≤ y4 → (vp_in (43 + y1) 61 ∧ Q y3 (fg_sR σ 191 ((43 + y1).toNatClampNeg) y2))) ∧ (¬ (4 ≤ y4) → (vp_in y4 4 ∧ (vp_in ((46 + (4 * y1)) + y4) 61 ∧ (vp_in y4 4 ∧ (((fg_R σ 196 y4.toNatClampNeg) ≤ 20 → (vp_in y4 4 ∧ (((fg_R σ 196 y4.toNatClampNeg) = (-1) → fg_Run d 168 5 [some (.ref 187), some (.int y1), some (.int y2), some (.int y3), some (.int (y4 + 1))] [] (fg_sR σ 191 (((46 + (4 * y1)) + y4).toNatClampNeg) (fg_R σ 196 y4.toNatClampNeg)) Q) ∧ (¬ ((fg_R σ 196 y4.toNatClampNeg) = (-1)) → (vp_in y4 4 ∧ (vp_in (20 + (fg_R σ 196 y4.toNatClampNeg)) 61 ∧ fg_Run d 168 5 [some (.ref 187), some (.int y1), some (.int y2), some (.int y3), some (.int (y4 + 1))] [] (fg_sR (fg_sR σ 191 (((46 + (4 * y1)) + y4).toNatClampNeg) (fg_R σ 196 y4.toNatClampNeg)) 191 ((20 + (fg_R σ 196 y4.toNatClampNeg)).toNatClampNeg) y1) Q)))))) ∧ (¬ ((fg_R σ 196 y4.toNatClampNeg) ≤ 20) → (vp_in y4 4 ∧ (vp_in (((40 + (fg_R σ 196 y4.toNatClampNeg)) - 20) - 1) 61 ∧ fg_Run d 168 5 [some (.ref 187), some (.int y1), some (.int y2), some (.int (y3 + 1)), some (.int (y4 + 1))] [] (fg_sR (fg_sR σ 191 (((46 + (4 * y1)) + y4).toNatClampNeg) (fg_R σ 196 y4.toNatClampNeg)) 191 ((((40 + (fg_R σ 196 y4.toNatClampNeg)) - 20) - 1).toNatClampNeg) y1) Q)))))))))) : fg_Run d 168 5 [some (.ref 187), some (.int y1), some (.int y2), some (.int y3), some (.int y4)] [] σ Q := fg_blk [0, 5] 42 (⟨fun z2365 => ⟨rfl, ⟨rfl, ⟨(H.1 z2365).1, (H.1 z2365).2⟩⟩⟩, fun z2366 => ⟨rfl, ⟨rfl, ⟨rfl, ⟨(H.2 z2366).1, ⟨rfl, ⟨(H.2 z2366).2.1, ⟨rfl, ⟨rfl, ⟨(H.2 z2366).2.2.1, ⟨fun z2367 => ⟨rfl, ⟨rfl, ⟨((H.2 z2366).2.2.2.1 z2367).1, ⟨fun z2369 => (((H.2 z2366).2.2.2.1 z2367).2.1 z2369), fun z2370 => ⟨rfl, ⟨rfl, ⟨rfl, ⟨(((H.2 z2366).2.2.2.1 z2367).2.2 z2370).1, ⟨rfl, ⟨(((H.2 z2366).2.2.2.1 z2367).2.2 z2370).2.1, (((H.2 z2366).2.2.2.1 z2367).2.2 z2370).2.2⟩⟩⟩⟩⟩⟩⟩⟩⟩⟩, fun z2368 => ⟨rfl, ⟨rfl, ⟨rfl, ⟨((H.2 z2366).2.2.2.2 z2368).1, ⟨rfl, ⟨((H.2 z2366).2.2.2.2 z2368).2.1, ((H.2 z2366).2.2.2.2 z2368).2.2⟩⟩⟩⟩⟩⟩⟩⟩⟩⟩⟩⟩⟩⟩⟩⟩⟩)
set_option maxRecDepth 100000 in
theorem b_MO_hoist_0 {d : Nat} {σ : fg_St} {Q : Int32 → fg_St → Prop} {a0 : Int32} {a1 : Int32} (H : (∃ P, fg_Run d 113 0 [some (.ref 187), some (.int a0)] [] σ P ∧ ∀ x1 u2, P x1 u2 → ((x1 = 0 → Q (-1000000001) u2) ∧ (¬ (x1 = 0) → (∃ P, fg_Run d 115 0 [some (.ref 187), some (.int a1)] [] u2 P ∧ ∀ x3 u4, P x3 u4 → ((¬ x3 = 0 → (∃ P, fg_Run d 167 0 [some (.ref 187), some (.int a0), some (.int a1)] [] u4 P ∧ ∀ x5 u6, P x5 u6 → ((¬ x5 = 0 → (∃ P, fg_Run d 166 0 [some (.ref 187), none] [] u6 P ∧ ∀ x7 u8, P x7 u8 → (∃ P, fg_Run d 168 0 [some (.ref 187), some (.int a0), some (.int a1), none, none] [] u8 P ∧ ∀ x9 u10, P x9 u10 → Q x9 u10))) ∧ (x5 = 0 → Q (-1000000003) u6)))) ∧ (x3 = 0 → Q (-1000000001) u4))))))) : fg_Run (d + 1) 169 0 [some (.ref 187), some (.int a0), some (.int a1)] [] σ Q := fg_blk [0] 20 (⟨rfl, (match H with | ⟨z2371, z2372, z2373f⟩ => ⟨z2371, z2372, fun x1 u2 z2373p => ⟨fun z2374 => ((z2373f x1 u2 z2373p).1 z2374), fun z2375 => ⟨rfl, (match ((z2373f x1 u2 z2373p).2 z2375) with | ⟨z2376, z2377, z2378f⟩ => ⟨z2376, z2377, fun x3 u4 z2378p => ⟨fun z2379 => ⟨rfl, (match ((z2378f x3 u4 z2378p).1 z2379) with | ⟨z2381, z2382, z2383f⟩ => ⟨z2381, z2382, fun x5 u6 z2383p => ⟨fun z2384 => ⟨rfl, (match ((z2383f x5 u6 z2383p).1 z2384) with | ⟨z2386, z2387, z2388f⟩ => ⟨z2386, z2387, fun x7 u8 z2388p => ⟨rfl, (match (z2388f x7 u8 z2388p) with | ⟨z2389, z2390, z2391f⟩ => ⟨z2389, z2390, fun x9 u10 z2391p => (z2391f x9 u10 z2391p)⟩)⟩⟩)⟩, fun z2385 => ((z2383f x5 u6 z2383p).2 (Classical.not_not.mp z2385))⟩⟩)⟩, fun z2380 => ((z2378f x3 u4 z2378p).2 (Classical.not_not.mp z2380))⟩⟩)⟩⟩⟩)⟩)
set_option maxRecDepth 100000 in
theorem b_MO_haulNow_0 {d : Nat} {σ : fg_St} {Q : Int32 → fg_St → Prop} {a0 : Int32} (H : (vp_in (43 + a0) 61 ∧ (vp_in (43 + a0) 61 ∧ fg_Run d 170 22 [some (.ref 187), some (.int a0), some (.int (fg_R σ 191 ((43 + a0).toNatClampNeg))), some (.int 0)] [] (fg_sR σ 191 ((43 + a0).toNatClampNeg) (-1)) Q))) : fg_Run d 170 0 [some (.ref 187), some (.int a0), none, none] [] σ Q := fg_blk [0, 22, 49, 98] 17 (⟨rfl, ⟨rfl, ⟨H.1, ⟨rfl, ⟨rfl, ⟨H.2.1, H.2.2⟩⟩⟩⟩⟩⟩)
set_option maxRecDepth 100000 in
theorem b_MO_haulNow_22 {d : Nat} {σ : fg_St} {Q : Int32 → fg_St → Prop} {y1 : Int32} {y2 : Int32} {y3 : Int32} (H : ((4 ≤ y3 → fg_Run d 170 49 [some (.ref 187), some (.int y1), some (.int y2), some (.int 0)] [] σ Q) ∧ (¬ (4 ≤ y3) → (vp_in ((46 + (4 * y1)) + y3) 61 ∧ fg_Run d 170 22 [some (.ref 187), some (.int y1), some (.int y2), some (.int (y3 + 1))] [] (fg_sR σ 191 (((46 + (4 * y1)) + y3).toNatClampNeg) (-1)) Q)))) : fg_Run d 170 22 [some (.ref 187), some (.int y1), some (.int y2), some (.int y3)] [] σ Q := fg_blk [0, 22, 49, 98] 17 (⟨fun z2392 => (H.1 z2392), fun z2393 => ⟨rfl, ⟨rfl, ⟨(H.2 z2393).1, (H.2 z2393).2⟩⟩⟩⟩)
set_option maxRecDepth 100000 in
theorem b_MO_haulNow_49 {d : Nat} {σ : fg_St} {Q : Int32 → fg_St → Prop} {y1 : Int32} {y2 : Int32} {y3 : Int32} (H : ((10 ≤ y3 → fg_Run d 170 98 [some (.ref 187), some (.int y1), some (.int y2), some (.int 0)] [] σ Q) ∧ (¬ (10 ≤ y3) → (vp_in (20 + y3) 61 ∧ ((¬ (fg_R σ 191 ((20 + y3).toNatClampNeg)) = y1 → (vp_in (20 + y3) 61 ∧ (vp_in (20 + y3) 61 ∧ fg_Run d 170 49 [some (.ref 187), some (.int y1), some (.int y2), some (.int (y3 + 1))] [] (fg_sR σ 191 ((20 + y3).toNatClampNeg) (fg_R σ 191 ((20 + y3).toNatClampNeg))) Q))) ∧ ((fg_R σ 191 ((20 + y3).toNatClampNeg)) = y1 → (vp_in (20 + y3) 61 ∧ fg_Run d 170 49 [some (.ref 187), some (.int y1), some (.int y2), some (.int (y3 + 1))] [] (fg_sR σ 191 ((20 + y3).toNatClampNeg) (-1)) Q))))))) : fg_Run d 170 49 [some (.ref 187), some (.int y1), some (.int y2), some (.int y3)] [] σ Q := fg_blk [0, 22, 49, 98] 26 (⟨fun z2394 => (H.1 z2394), fun z2395 => ⟨rfl, ⟨rfl, ⟨rfl, ⟨(H.2 z2395).1, ⟨fun z2396 => ⟨rfl, ⟨rfl, ⟨((H.2 z2395).2.1 z2396).1, ⟨rfl, ⟨((H.2 z2395).2.1 z2396).2.1, ((H.2 z2395).2.1 z2396).2.2⟩⟩⟩⟩⟩, fun z2397 => ⟨rfl, ⟨((H.2 z2395).2.2 (Classical.not_not.mp z2397)).1, ((H.2 z2395).2.2 (Classical.not_not.mp z2397)).2⟩⟩⟩⟩⟩⟩⟩⟩)
set_option maxRecDepth 100000 in
theorem b_MO_haulNow_98 {d : Nat} {σ : fg_St} {Q : Int32 → fg_St → Prop} {y1 : Int32} {y2 : Int32} {y3 : Int32} (H : ((3 ≤ y3 → Q y2 σ) ∧ (¬ (3 ≤ y3) → (vp_in (40 + y3) 61 ∧ ((¬ (fg_R σ 191 ((40 + y3).toNatClampNeg)) = y1 → (vp_in (40 + y3) 61 ∧ (vp_in (40 + y3) 61 ∧ fg_Run d 170 98 [some (.ref 187), some (.int y1), some (.int y2), some (.int (y3 + 1))] [] (fg_sR σ 191 ((40 + y3).toNatClampNeg) (fg_R σ 191 ((40 + y3).toNatClampNeg))) Q))) ∧ ((fg_R σ 191 ((40 + y3).toNatClampNeg)) = y1 → (vp_in (40 + y3) 61 ∧ fg_Run d 170 98 [some (.ref 187), some (.int y1), some (.int y2), some (.int (y3 + 1))] [] (fg_sR σ 191 ((40 + y3).toNatClampNeg) (-1)) Q))))))) : fg_Run d 170 98 [some (.ref 187), some (.int y1), some (.int y2), some (.int y3)] [] σ Q := fg_blk [0, 22, 49, 98] 26 (⟨fun z2398 => (H.1 z2398), fun z2399 => ⟨rfl, ⟨rfl, ⟨rfl, ⟨(H.2 z2399).1, ⟨fun z2400 => ⟨rfl, ⟨rfl, ⟨((H.2 z2399).2.1 z2400).1, ⟨rfl, ⟨((H.2 z2399).2.1 z2400).2.1, ((H.2 z2399).2.1 z2400).2.2⟩⟩⟩⟩⟩, fun z2401 => ⟨rfl, ⟨((H.2 z2399).2.2 (Classical.not_not.mp z2401)).1, ((H.2 z2399).2.2 (Classical.not_not.mp z2401)).2⟩⟩⟩⟩⟩⟩⟩⟩)
set_option maxRecDepth 100000 in
theorem b_MO_haul_0 {d : Nat} {σ : fg_St} {Q : Int32 → fg_St → Prop} {a0 : Int32} (H : (∃ P, fg_Run d 113 0 [some (.ref 187), some (.int a0)] [] σ P ∧ ∀ x1 u2, P x1 u2 → ((¬ x1 = 0 → (vp_in (43 + a0) 61 ∧ ((¬ (fg_R u2 191 ((43 + a0).toNatClampNeg)) = (-1) → (∃ P, fg_Run d 166 0 [some (.ref 187), none] [] u2 P ∧ ∀ x3 u4, P x3 u4 → (∃ P, fg_Run d 170 0 [some (.ref 187), some (.int a0), none, none] [] u4 P ∧ ∀ x5 u6, P x5 u6 → Q x5 u6))) ∧ ((fg_R u2 191 ((43 + a0).toNatClampNeg)) = (-1) → Q (-1000000003) u2)))) ∧ (x1 = 0 → Q (-1000000001) u2)))) : fg_Run (d + 1) 171 0 [some (.ref 187), some (.int a0)] [] σ Q := fg_blk [0] 18 (⟨rfl, (match H with | ⟨z2402, z2403, z2404f⟩ => ⟨z2402, z2403, fun x1 u2 z2404p => ⟨fun z2405 => ⟨rfl, ⟨rfl, ⟨((z2404f x1 u2 z2404p).1 z2405).1, ⟨fun z2407 => ⟨rfl, (match (((z2404f x1 u2 z2404p).1 z2405).2.1 z2407) with | ⟨z2409, z2410, z2411f⟩ => ⟨z2409, z2410, fun x3 u4 z2411p => ⟨rfl, (match (z2411f x3 u4 z2411p) with | ⟨z2412, z2413, z2414f⟩ => ⟨z2412, z2413, fun x5 u6 z2414p => (z2414f x5 u6 z2414p)⟩)⟩⟩)⟩, fun z2408 => (((z2404f x1 u2 z2404p).1 z2405).2.2 (Classical.not_not.mp z2408))⟩⟩⟩⟩, fun z2406 => ((z2404f x1 u2 z2404p).2 (Classical.not_not.mp z2406))⟩⟩)⟩)
set_option maxRecDepth 100000 in
theorem b_MO_pass_0 {d : Nat} {σ : fg_St} {Q : Int32 → fg_St → Prop} (H : fg_Run d 172 2 [some (.ref 187), some (.int 0), none] [] σ Q) : fg_Run d 172 0 [some (.ref 187), none, none] [] σ Q := fg_blk [0, 2] 3 (H)
set_option maxRecDepth 100000 in
theorem b_MO_pass_2 {d : Nat} {σ : fg_St} {Q : Int32 → fg_St → Prop} {y1 : Int32} (H : (((fg_F σ 187 2) ≤ y1 → Q 0 (fg_sR σ 191 60 ((fg_R σ 191 60) + 1))) ∧ (¬ ((fg_F σ 187 2) ≤ y1) → (vp_in (20 + y1) 61 ∧ (((fg_R σ 191 ((20 + y1).toNatClampNeg)) = (-1) → (vp_in (10 + y1) 61 ∧ (vp_in (10 + y1) 61 ∧ (vp_in (30 + y1) 61 ∧ (vp_in (30 + y1) 61 ∧ fg_Run d 172 2 [some (.ref 187), some (.int (y1 + 1)), none] [] (fg_sR (fg_sR σ 191 ((10 + y1).toNatClampNeg) ((fg_R σ 191 ((10 + y1).toNatClampNeg)) + 0)) 191 ((30 + y1).toNatClampNeg) (fg_R (fg_sR σ 191 ((10 + y1).toNatClampNeg) ((fg_R σ 191 ((10 + y1).toNatClampNeg)) + 0)) 191 ((30 + y1).toNatClampNeg))) Q))))) ∧ (¬ ((fg_R σ 191 ((20 + y1).toNatClampNeg)) = (-1)) → (vp_in (30 + y1) 61 ∧ ((¬ (fg_R σ 191 ((30 + y1).toNatClampNeg)) = 0 → (vp_in (10 + y1) 61 ∧ (vp_in (10 + y1) 61 ∧ (vp_in (30 + y1) 61 ∧ (vp_in (30 + y1) 61 ∧ fg_Run d 172 2 [some (.ref 187), some (.int (y1 + 1)), none] [] (fg_sR (fg_sR σ 191 ((10 + y1).toNatClampNeg) ((fg_R σ 191 ((10 + y1).toNatClampNeg)) + 0)) 191 ((30 + y1).toNatClampNeg) (fg_R (fg_sR σ 191 ((10 + y1).toNatClampNeg) ((fg_R σ 191 ((10 + y1).toNatClampNeg)) + 0)) 191 ((30 + y1).toNatClampNeg))) Q))))) ∧ ((fg_R σ 191 ((30 + y1).toNatClampNeg)) = 0 → (vp_in (10 + y1) 61 ∧ (vp_in (10 + y1) 61 ∧ (vp_in (10 + y1) 61 ∧ ((¬ (fg_R (fg_sR σ 191 ((10 + y1).toNatClampNeg) ((fg_R σ 191 ((10 + y1).toNatClampNeg)) + 1)) 191 ((10 + y1).toNatClampNeg)) = 5 → (vp_in (30 + y1) 61 ∧ (vp_in (30 + y1) 61 ∧ fg_Run d 172 2 [some (.ref 187), some (.int (y1 + 1)), none] [] (fg_sR (fg_sR σ 191 ((10 + y1).toNatClampNeg) ((fg_R σ 191 ((10 + y1).toNatClampNeg)) + 1)) 191 ((30 + y1).toNatClampNeg) (fg_R (fg_sR σ 191 ((10 + y1).toNatClampNeg) ((fg_R σ 191 ((10 + y1).toNatClampNeg)) + 1)) 191 ((30 + y1).toNatClampNeg))) Q))) ∧ ((fg_R (fg_sR σ 191 ((10 + y1).toNatClampNeg) ((fg_R σ 191 ((10 + y1).toNatClampNeg)) + 1)) 191 ((10 + y1).toNatClampNeg)) = 5 → (vp_in (30 + y1) 61 ∧ fg_Run d 172 2 [some (.ref 187), some (.int (y1 + 1)), none] [] (fg_sR (fg_sR σ 191 ((10 + y1).toNatClampNeg) ((fg_R σ 191 ((10 + y1).toNatClampNeg)) + 1)) 191 ((30 + y1).toNatClampNeg) 1) Q))))))))))))))) : fg_Run d 172 2 [some (.ref 187), some (.int y1), none] [] σ Q := fg_blk [0, 2] 60 (⟨rfl, ⟨fun z2415 => ⟨rfl, ⟨rfl, ⟨fg_vin rfl rfl, ⟨rfl, ⟨fg_vin rfl rfl, (H.1 z2415)⟩⟩⟩⟩⟩, fun z2416 => ⟨rfl, ⟨rfl, ⟨(H.2 z2416).1, ⟨fun z2417 => ⟨rfl, ⟨rfl, ⟨((H.2 z2416).2.1 z2417).1, ⟨fun _ => ⟨rfl, ⟨((H.2 z2416).2.1 z2417).2.1, ⟨rfl, ⟨fun _ => ⟨rfl, ⟨rfl, ⟨((H.2 z2416).2.1 z2417).2.2.1, ⟨rfl, ⟨((H.2 z2416).2.1 z2417).2.2.2.1, (fg_Run.drop (L := [some _, some _, none]) ⟨rfl, ⟨rfl, ⟨trivial, trivial⟩⟩⟩ ((H.2 z2416).2.1 z2417).2.2.2.2)⟩⟩⟩⟩⟩, fun z2420 => absurd (show (0 : Int32) = 0 from by decide) z2420⟩⟩⟩⟩, fun z2419 => absurd (show (0 : Int32) = 0 from by decide) z2419⟩⟩⟩⟩, fun z2418 => ⟨rfl, ⟨rfl, ⟨((H.2 z2416).2.2 z2418).1, ⟨fun z2421 => ⟨rfl, ⟨rfl, ⟨(((H.2 z2416).2.2 z2418).2.1 z2421).1, ⟨fun _ => ⟨rfl, ⟨(((H.2 z2416).2.2 z2418).2.1 z2421).2.1, ⟨rfl, ⟨fun _ => ⟨rfl, ⟨rfl, ⟨(((H.2 z2416).2.2 z2418).2.1 z2421).2.2.1, ⟨rfl, ⟨(((H.2 z2416).2.2 z2418).2.1 z2421).2.2.2.1, (fg_Run.drop (L := [some _, some _, none]) ⟨rfl, ⟨rfl, ⟨trivial, trivial⟩⟩⟩ (((H.2 z2416).2.2 z2418).2.1 z2421).2.2.2.2)⟩⟩⟩⟩⟩, fun z2424 => absurd (show (0 : Int32) = 0 from by decide) z2424⟩⟩⟩⟩, fun z2423 => absurd (show (0 : Int32) = 0 from by decide) z2423⟩⟩⟩⟩, fun z2422 => ⟨rfl, ⟨rfl, ⟨(((H.2 z2416).2.2 z2418).2.2 (Classical.not_not.mp z2422)).1, ⟨fun z2425 => absurd z2425 (show ¬ ((1 : Int32) = 0) from by decide), fun _ => ⟨rfl, ⟨(((H.2 z2416).2.2 z2418).2.2 (Classical.not_not.mp z2422)).2.1, ⟨rfl, ⟨fun z2426 => absurd z2426 (show ¬ ((1 : Int32) = 0) from by decide), fun _ => ⟨rfl, ⟨rfl, ⟨(((H.2 z2416).2.2 z2418).2.2 (Classical.not_not.mp z2422)).2.2.1, ⟨fun z2427 => ⟨rfl, ⟨rfl, ⟨((((H.2 z2416).2.2 z2418).2.2 (Classical.not_not.mp z2422)).2.2.2.1 z2427).1, ⟨rfl, ⟨((((H.2 z2416).2.2 z2418).2.2 (Classical.not_not.mp z2422)).2.2.2.1 z2427).2.1, (fg_Run.drop (L := [some _, some _, none]) ⟨rfl, ⟨rfl, ⟨trivial, trivial⟩⟩⟩ ((((H.2 z2416).2.2 z2418).2.2 (Classical.not_not.mp z2422)).2.2.2.1 z2427).2.2)⟩⟩⟩⟩⟩, fun z2428 => ⟨rfl, ⟨((((H.2 z2416).2.2 z2418).2.2 (Classical.not_not.mp z2422)).2.2.2.2 (Classical.not_not.mp z2428)).1, (fg_Run.drop (L := [some _, some _, none]) ⟨rfl, ⟨rfl, ⟨trivial, trivial⟩⟩⟩ ((((H.2 z2416).2.2 z2418).2.2 (Classical.not_not.mp z2422)).2.2.2.2 (Classical.not_not.mp z2428)).2)⟩⟩⟩⟩⟩⟩⟩⟩⟩⟩⟩⟩⟩⟩⟩⟩⟩⟩⟩⟩⟩⟩⟩⟩)
set_option maxRecDepth 100000 in
theorem b_MO_daysRefused_0 {d : Nat} {σ : fg_St} {Q : Int32 → fg_St → Prop} {a0 : Int32} (H : (∃ P, fg_Run d 110 0 [some (.long a0.toInt64), none, some (.long 1), none, some (.long 60), none] [] σ P ∧ ∀ x1 u2, P x1 u2 → ((¬ x1 = 0 → ((¬ (fg_F u2 187 0) = 0 → (((fg_R u2 191 60) ≤ 9000 → Q 0 u2) ∧ (¬ ((fg_R u2 191 60) ≤ 9000) → Q (-1000000004) u2))) ∧ ((fg_F u2 187 0) = 0 → Q (-1000000003) u2))) ∧ (x1 = 0 → Q (-1000000002) u2)))) : fg_Run (d + 1) 173 0 [some (.ref 187), some (.int a0)] [] σ Q := fg_blk [0] 18 ((match H with | ⟨z2429, z2430, z2431f⟩ => ⟨z2429, z2430, fun x1 u2 z2431p => ⟨fun z2432 => ⟨rfl, ⟨fun z2434 => ⟨rfl, ⟨rfl, ⟨fg_vin rfl rfl, ⟨fun z2436 => ((((z2431f x1 u2 z2431p).1 z2432).1 z2434).1 z2436), fun z2437 => ((((z2431f x1 u2 z2431p).1 z2432).1 z2434).2 z2437)⟩⟩⟩⟩, fun z2435 => (((z2431f x1 u2 z2431p).1 z2432).2 (Classical.not_not.mp z2435))⟩⟩, fun z2433 => ((z2431f x1 u2 z2431p).2 (Classical.not_not.mp z2433))⟩⟩))
set_option maxRecDepth 100000 in
theorem b_MO_day_0 {d : Nat} {σ : fg_St} {Q : Int32 → fg_St → Prop} {a0 : Int32} (H : (∃ P, fg_Run d 173 0 [some (.ref 187), some (.int a0)] [] σ P ∧ ∀ x1 u2, P x1 u2 → ((x1 = 0 → (∃ P, fg_Run d 166 0 [some (.ref 187), none] [] u2 P ∧ ∀ x3 u4, P x3 u4 → fg_Run (d + 1) 174 18 [some (.ref 187), some (.int a0), none, some (.int 0)] [] u4 Q)) ∧ (¬ (x1 = 0) → Q x1 u2)))) : fg_Run (d + 1) 174 0 [some (.ref 187), some (.int a0), none, none] [] σ Q := fg_blk [0, 18] 11 (⟨rfl, (match H with | ⟨z2438, z2439, z2440f⟩ => ⟨z2438, z2439, fun x1 u2 z2440p => ⟨fun z2441 => ⟨rfl, (match ((z2440f x1 u2 z2440p).1 z2441) with | ⟨z2443, z2444, z2445f⟩ => ⟨z2443, z2444, fun x3 u4 z2445p => (fg_Run.drop (L := [some _, some _, none, some _]) ⟨rfl, ⟨rfl, ⟨trivial, ⟨rfl, trivial⟩⟩⟩⟩ (z2445f x3 u4 z2445p))⟩)⟩, fun z2442 => ((z2440f x1 u2 z2440p).2 z2442)⟩⟩)⟩)
set_option maxRecDepth 100000 in
theorem b_MO_day_18 {d : Nat} {σ : fg_St} {Q : Int32 → fg_St → Prop} {y1 : Int32} {y3 : Int32} (H : ((y1 ≤ y3 → (∃ P, fg_Run d 129 0 [some (.ref 187), none, none] [] σ P ∧ ∀ x1 u2, P x1 u2 → Q x1 u2)) ∧ (¬ (y1 ≤ y3) → (∃ P, fg_Run d 172 0 [some (.ref 187), none, none] [] σ P ∧ ∀ x3 u4, P x3 u4 → fg_Run (d + 1) 174 18 [some (.ref 187), some (.int y1), none, some (.int (y3 + 1))] [] u4 Q)))) : fg_Run (d + 1) 174 18 [some (.ref 187), some (.int y1), none, some (.int y3)] [] σ Q := fg_blk [0, 18] 8 (⟨fun z2446 => ⟨rfl, (match (H.1 z2446) with | ⟨z2448, z2449, z2450f⟩ => ⟨z2448, z2449, fun x1 u2 z2450p => (z2450f x1 u2 z2450p)⟩)⟩, fun z2447 => ⟨rfl, (match (H.2 z2447) with | ⟨z2451, z2452, z2453f⟩ => ⟨z2451, z2452, fun x3 u4 z2453p => (z2453f x3 u4 z2453p)⟩)⟩⟩)
set_option maxRecDepth 100000 in
theorem b_MO_canSew_0 {d : Nat} {σ : fg_St} {Q : Int32 → fg_St → Prop} {a0 : Int32} (H : (vp_in (20 + a0) 61 ∧ ((¬ (fg_R σ 191 ((20 + a0).toNatClampNeg)) = (-1) → Q 0 σ) ∧ ((fg_R σ 191 ((20 + a0).toNatClampNeg)) = (-1) → (vp_in (30 + a0) 61 ∧ ((¬ (fg_R σ 191 ((30 + a0).toNatClampNeg)) = 1 → Q 0 σ) ∧ ((fg_R σ 191 ((30 + a0).toNatClampNeg)) = 1 → Q 1 σ))))))) : fg_Run d 175 0 [some (.ref 187), some (.int a0)] [] σ Q := fg_blk [0] 19 (⟨rfl, ⟨rfl, ⟨H.1, ⟨fun z2454 => ⟨(by decide), (H.2.1 z2454)⟩, fun z2455 => ⟨rfl, ⟨rfl, ⟨(H.2.2 (Classical.not_not.mp z2455)).1, ⟨fun z2456 => ⟨(by decide), ((H.2.2 (Classical.not_not.mp z2455)).2.1 z2456)⟩, fun z2457 => ⟨(by decide), ((H.2.2 (Classical.not_not.mp z2455)).2.2 (Classical.not_not.mp z2457))⟩⟩⟩⟩⟩⟩⟩⟩⟩)
set_option maxRecDepth 100000 in
theorem b_MO_sewNow_0 {d : Nat} {σ : fg_St} {Q : Int32 → fg_St → Prop} {a0 : Int32} (H : (vp_in (30 + a0) 61 ∧ (vp_in (10 + a0) 61 ∧ Q 0 (fg_sR (fg_sR σ 191 ((30 + a0).toNatClampNeg) 0) 191 ((10 + a0).toNatClampNeg) 0)))) : fg_Run d 176 0 [some (.ref 187), some (.int a0)] [] σ Q := fg_blk [0] 15 (⟨rfl, ⟨rfl, ⟨H.1, ⟨rfl, ⟨rfl, ⟨H.2.1, H.2.2⟩⟩⟩⟩⟩⟩)
set_option maxRecDepth 100000 in
theorem b_MO_sew_0 {d : Nat} {σ : fg_St} {Q : Int32 → fg_St → Prop} {a0 : Int32} (H : (∃ P, fg_Run d 114 0 [some (.ref 187), some (.int a0)] [] σ P ∧ ∀ x1 u2, P x1 u2 → ((¬ x1 = 0 → (∃ P, fg_Run d 175 0 [some (.ref 187), some (.int a0)] [] u2 P ∧ ∀ x3 u4, P x3 u4 → ((¬ x3 = 0 → (∃ P, fg_Run d 166 0 [some (.ref 187), none] [] u4 P ∧ ∀ x5 u6, P x5 u6 → (vp_in (10 + a0) 61 ∧ (∃ P, fg_Run d 176 0 [some (.ref 187), some (.int a0)] [] u6 P ∧ ∀ x7 u8, P x7 u8 → Q (fg_R u6 191 ((10 + a0).toNatClampNeg)) u8)))) ∧ (x3 = 0 → Q (-1000000003) u4)))) ∧ (x1 = 0 → Q (-1000000001) u2)))) : fg_Run (d + 1) 177 0 [some (.ref 187), some (.int a0), none] [] σ Q := fg_blk [0] 22 (⟨rfl, (match H with | ⟨z2458, z2459, z2460f⟩ => ⟨z2458, z2459, fun x1 u2 z2460p => ⟨fun z2461 => ⟨rfl, (match ((z2460f x1 u2 z2460p).1 z2461) with | ⟨z2463, z2464, z2465f⟩ => ⟨z2463, z2464, fun x3 u4 z2465p => ⟨fun z2466 => ⟨rfl, (match ((z2465f x3 u4 z2465p).1 z2466) with | ⟨z2468, z2469, z2470f⟩ => ⟨z2468, z2469, fun x5 u6 z2470p => ⟨rfl, ⟨rfl, ⟨(z2470f x5 u6 z2470p).1, ⟨rfl, (match (z2470f x5 u6 z2470p).2 with | ⟨z2471, z2472, z2473f⟩ => ⟨z2471, z2472, fun x7 u8 z2473p => (z2473f x7 u8 z2473p)⟩)⟩⟩⟩⟩⟩)⟩, fun z2467 => ((z2465f x3 u4 z2465p).2 (Classical.not_not.mp z2467))⟩⟩)⟩, fun z2462 => ((z2460f x1 u2 z2460p).2 (Classical.not_not.mp z2462))⟩⟩)⟩)
set_option maxRecDepth 100000 in
theorem b_MO_anew_0 {d : Nat} {σ : fg_St} {Q : Int32 → fg_St → Prop} {a0 : Int32} {a1 : Int32} {a2 : Int32} {a3 : Int32} (H : (∃ P, fg_Run d 114 0 [some (.ref 187), some (.int a0)] [] σ P ∧ ∀ x1 u2, P x1 u2 → ((¬ x1 = 0 → (∃ P, fg_Run d 110 0 [some (.long a1.toInt64), none, some (.long 0), none, some (.long 3), none] [] u2 P ∧ ∀ x3 u4, P x3 u4 → ((x3 = 0 → Q (-1000000002) u4) ∧ (¬ (x3 = 0) → (∃ P, fg_Run d 110 0 [some (.long a2.toInt64), none, some (.long 0), none, some (.long 4), none] [] u4 P ∧ ∀ x5 u6, P x5 u6 → ((x5 = 0 → Q (-1000000002) u6) ∧ (¬ (x5 = 0) → (∃ P, fg_Run d 110 0 [some (.long a3.toInt64), none, some (.long 0), none, some (.long 4), none] [] u6 P ∧ ∀ x7 u8, P x7 u8 → ((¬ x7 = 0 → (vp_in (20 + a0) 61 ∧ (((fg_R u8 191 ((20 + a0).toNatClampNeg)) = (-1) → (∃ P, fg_Run d 166 0 [some (.ref 187), none] [] u8 P ∧ ∀ x9 u10, P x9 u10 → (∃ P, fg_Run d 176 0 [some (.ref 187), some (.int a0)] [] u10 P ∧ ∀ x11 u12, P x11 u12 → (vp_in a0 61 ∧ (∃ P, fg_Run d 142 0 [some (.ref 187)] [] (fg_sR u12 191 a0.toNatClampNeg (((100 * a1) + (10 * a2)) + a3)) P ∧ ∀ x13 u14, P x13 u14 → Q x13 u14))))) ∧ (¬ ((fg_R u8 191 ((20 + a0).toNatClampNeg)) = (-1)) → Q (-1000000003) u8)))) ∧ (x7 = 0 → Q (-1000000002) u8)))))))))) ∧ (x1 = 0 → Q (-1000000001) u2)))) : fg_Run (d + 1) 178 0 [some (.ref 187), some (.int a0), some (.int a1), some (.int a2), some (.int a3)] [] σ Q := fg_blk [0] 51 (⟨rfl, (match H with | ⟨z2474, z2475, z2476f⟩ => ⟨z2474, z2475, fun x1 u2 z2476p => ⟨fun z2477 => (match ((z2476f x1 u2 z2476p).1 z2477) with | ⟨z2479, z2480, z2481f⟩ => ⟨z2479, z2480, fun x3 u4 z2481p => ⟨fun z2482 => ((z2481f x3 u4 z2481p).1 z2482), fun z2483 => (match ((z2481f x3 u4 z2481p).2 z2483) with | ⟨z2484, z2485, z2486f⟩ => ⟨z2484, z2485, fun x5 u6 z2486p => ⟨fun z2487 => ((z2486f x5 u6 z2486p).1 z2487), fun z2488 => (match ((z2486f x5 u6 z2486p).2 z2488) with | ⟨z2489, z2490, z2491f⟩ => ⟨z2489, z2490, fun x7 u8 z2491p => ⟨fun z2492 => ⟨rfl, ⟨rfl, ⟨((z2491f x7 u8 z2491p).1 z2492).1, ⟨fun z2494 => ⟨rfl, (match (((z2491f x7 u8 z2491p).1 z2492).2.1 z2494) with | ⟨z2496, z2497, z2498f⟩ => ⟨z2496, z2497, fun x9 u10 z2498p => ⟨rfl, (match (z2498f x9 u10 z2498p) with | ⟨z2499, z2500, z2501f⟩ => ⟨z2499, z2500, fun x11 u12 z2501p => ⟨rfl, ⟨rfl, ⟨(z2501f x11 u12 z2501p).1, ⟨rfl, (match (z2501f x11 u12 z2501p).2 with | ⟨z2502, z2503, z2504f⟩ => ⟨z2502, z2503, fun x13 u14 z2504p => (z2504f x13 u14 z2504p)⟩)⟩⟩⟩⟩⟩)⟩⟩)⟩, fun z2495 => (((z2491f x7 u8 z2491p).1 z2492).2.2 z2495)⟩⟩⟩⟩, fun z2493 => ((z2491f x7 u8 z2491p).2 (Classical.not_not.mp z2493))⟩⟩)⟩⟩)⟩⟩), fun z2478 => ((z2476f x1 u2 z2476p).2 (Classical.not_not.mp z2478))⟩⟩)⟩)
set_option maxRecDepth 100000 in
theorem b_MO_weather_0 {d : Nat} {σ : fg_St} {Q : Int32 → fg_St → Prop} {a0 : Int32} {a1 : Int32} (H : (∃ P, fg_Run d 110 0 [some (.long a0.toInt64), none, some (.long 0), none, some (.long 2), none] [] σ P ∧ ∀ x1 u2, P x1 u2 → ((¬ x1 = 0 → ((a1 = 0 → (((fg_F u2 187 0) = 0 → Q (-1000000003) u2) ∧ (¬ ((fg_F u2 187 0) = 0) → ((¬ (fg_R u2 191 58) = a0 → (∃ P, fg_Run d 166 0 [some (.ref 187), none] [] u2 P ∧ ∀ x3 u4, P x3 u4 → (∃ P, fg_Run d 142 0 [some (.ref 187)] [] (fg_sR (fg_sR u4 191 58 a0) 191 59 0) P ∧ ∀ x5 u6, P x5 u6 → Q x5 u6))) ∧ ((fg_R u2 191 58) = a0 → ((¬ (fg_R u2 191 59) = 0 → (∃ P, fg_Run d 166 0 [some (.ref 187), none] [] u2 P ∧ ∀ x7 u8, P x7 u8 → (∃ P, fg_Run d 142 0 [some (.ref 187)] [] (fg_sR (fg_sR u8 191 58 a0) 191 59 0) P ∧ ∀ x9 u10, P x9 u10 → Q x9 u10))) ∧ ((fg_R u2 191 59) = 0 → Q (-1000000003) u2))))))) ∧ (¬ (a1 = 0) → (((fg_F u2 187 0) = 0 → Q (-1000000003) u2) ∧ (¬ ((fg_F u2 187 0) = 0) → ((¬ (fg_R u2 191 58) = a0 → (∃ P, fg_Run d 166 0 [some (.ref 187), none] [] u2 P ∧ ∀ x11 u12, P x11 u12 → (∃ P, fg_Run d 142 0 [some (.ref 187)] [] (fg_sR (fg_sR u12 191 58 a0) 191 59 1) P ∧ ∀ x13 u14, P x13 u14 → Q x13 u14))) ∧ ((fg_R u2 191 58) = a0 → ((¬ (fg_R u2 191 59) = 1 → (∃ P, fg_Run d 166 0 [some (.ref 187), none] [] u2 P ∧ ∀ x15 u16, P x15 u16 → (∃ P, fg_Run d 142 0 [some (.ref 187)] [] (fg_sR (fg_sR u16 191 58 a0) 191 59 1) P ∧ ∀ x17 u18, P x17 u18 → Q x17 u18))) ∧ ((fg_R u2 191 59) = 1 → Q (-1000000003) u2))))))))) ∧ (x1 = 0 → Q (-1000000002) u2)))) : fg_Run (d + 1) 179 0 [some (.ref 187), some (.int a0), some (.int a1), none] [] σ Q := fg_blk [0] 41 ((match H with | ⟨z2505, z2506, z2507f⟩ => ⟨z2505, z2506, fun x1 u2 z2507p => ⟨fun z2508 => ⟨fun z2510 => ⟨rfl, ⟨fun z2512 => ((((z2507f x1 u2 z2507p).1 z2508).1 z2510).1 z2512), fun z2513 => ⟨rfl, ⟨rfl, ⟨fg_vin rfl rfl, ⟨fun z2514 => ⟨rfl, (match (((((z2507f x1 u2 z2507p).1 z2508).1 z2510).2 z2513).1 z2514) with | ⟨z2516, z2517, z2518f⟩ => ⟨z2516, z2517, fun x3 u4 z2518p => ⟨rfl, ⟨rfl, ⟨fg_vin rfl rfl, ⟨rfl, ⟨rfl, ⟨fg_vin rfl rfl, ⟨rfl, (match (z2518f x3 u4 z2518p) with | ⟨z2519, z2520, z2521f⟩ => ⟨z2519, z2520, fun x5 u6 z2521p => (z2521f x5 u6 z2521p)⟩)⟩⟩⟩⟩⟩⟩⟩⟩)⟩, fun z2515 => ⟨rfl, ⟨rfl, ⟨fg_vin rfl rfl, ⟨fun z2522 => ⟨rfl, (match ((((((z2507f x1 u2 z2507p).1 z2508).1 z2510).2 z2513).2 (Classical.not_not.mp z2515)).1 z2522) with | ⟨z2524, z2525, z2526f⟩ => ⟨z2524, z2525, fun x7 u8 z2526p => ⟨rfl, ⟨rfl, ⟨fg_vin rfl rfl, ⟨rfl, ⟨rfl, ⟨fg_vin rfl rfl, ⟨rfl, (match (z2526f x7 u8 z2526p) with | ⟨z2527, z2528, z2529f⟩ => ⟨z2527, z2528, fun x9 u10 z2529p => (z2529f x9 u10 z2529p)⟩)⟩⟩⟩⟩⟩⟩⟩⟩)⟩, fun z2523 => ((((((z2507f x1 u2 z2507p).1 z2508).1 z2510).2 z2513).2 (Classical.not_not.mp z2515)).2 (Classical.not_not.mp z2523))⟩⟩⟩⟩⟩⟩⟩⟩⟩⟩, fun z2511 => ⟨rfl, ⟨fun z2530 => ((((z2507f x1 u2 z2507p).1 z2508).2 z2511).1 z2530), fun z2531 => ⟨rfl, ⟨rfl, ⟨fg_vin rfl rfl, ⟨fun z2532 => ⟨rfl, (match (((((z2507f x1 u2 z2507p).1 z2508).2 z2511).2 z2531).1 z2532) with | ⟨z2534, z2535, z2536f⟩ => ⟨z2534, z2535, fun x11 u12 z2536p => ⟨rfl, ⟨rfl, ⟨fg_vin rfl rfl, ⟨rfl, ⟨rfl, ⟨fg_vin rfl rfl, ⟨rfl, (match (z2536f x11 u12 z2536p) with | ⟨z2537, z2538, z2539f⟩ => ⟨z2537, z2538, fun x13 u14 z2539p => (z2539f x13 u14 z2539p)⟩)⟩⟩⟩⟩⟩⟩⟩⟩)⟩, fun z2533 => ⟨rfl, ⟨rfl, ⟨fg_vin rfl rfl, ⟨fun z2540 => ⟨rfl, (match ((((((z2507f x1 u2 z2507p).1 z2508).2 z2511).2 z2531).2 (Classical.not_not.mp z2533)).1 z2540) with | ⟨z2542, z2543, z2544f⟩ => ⟨z2542, z2543, fun x15 u16 z2544p => ⟨rfl, ⟨rfl, ⟨fg_vin rfl rfl, ⟨rfl, ⟨rfl, ⟨fg_vin rfl rfl, ⟨rfl, (match (z2544f x15 u16 z2544p) with | ⟨z2545, z2546, z2547f⟩ => ⟨z2545, z2546, fun x17 u18 z2547p => (z2547f x17 u18 z2547p)⟩)⟩⟩⟩⟩⟩⟩⟩⟩)⟩, fun z2541 => ((((((z2507f x1 u2 z2507p).1 z2508).2 z2511).2 z2531).2 (Classical.not_not.mp z2533)).2 (Classical.not_not.mp z2541))⟩⟩⟩⟩⟩⟩⟩⟩⟩⟩⟩, fun z2509 => ((z2507f x1 u2 z2507p).2 (Classical.not_not.mp z2509))⟩⟩))
set_option maxRecDepth 100000 in
theorem b_MO_draw_0 {d : Nat} {σ : fg_St} {Q : Int32 → fg_St → Prop} {a0 : Int32} (H : (¬ (a0 : Int32) = 0 ∧ Q ((((((((fg_F σ 187 8).toInt64) * 1103515245) + 12345) - ((((fg_F σ 187 8).toInt64) * 1103515245) + 12345) / 2147483648 * 2147483648).toInt32) / 65536) - (((((((fg_F σ 187 8).toInt64) * 1103515245) + 12345) - ((((fg_F σ 187 8).toInt64) * 1103515245) + 12345) / 2147483648 * 2147483648).toInt32) / 65536) / a0 * a0) (fg_sF σ 187 8 ((((((fg_F σ 187 8).toInt64) * 1103515245) + 12345) - ((((fg_F σ 187 8).toInt64) * 1103515245) + 12345) / 2147483648 * 2147483648).toInt32)))) : fg_Run d 180 0 [some (.ref 187), some (.int a0)] [] σ Q := fg_blk [0] 19 (⟨rfl, ⟨(by decide), ⟨rfl, ⟨rfl, ⟨(by decide), ⟨H.1, H.2⟩⟩⟩⟩⟩⟩)
set_option maxRecDepth 100000 in
theorem b_MO_chanceHoist_0 {d : Nat} {σ : fg_St} {Q : Int32 → fg_St → Prop} {a0 : Int32} (H : (∃ P, fg_Run d 180 0 [some (.ref 187), some (.int (fg_F σ 187 4))] [] σ P ∧ ∀ x1 u2, P x1 u2 → (∃ P, fg_Run d 167 0 [some (.ref 187), some (.int a0), some (.int x1)] [] u2 P ∧ ∀ x3 u4, P x3 u4 → ((x3 = 0 → Q 0 u4) ∧ (¬ (x3 = 0) → (∃ P, fg_Run d 168 0 [some (.ref 187), some (.int a0), some (.int x1), none, none] [] u4 P ∧ ∀ x5 u6, P x5 u6 → Q 0 u6)))))) : fg_Run (d + 1) 181 0 [some (.ref 187), some (.int a0), none, none] [] σ Q := fg_blk [0] 16 (⟨rfl, ⟨rfl, (match H with | ⟨z2548, z2549, z2550f⟩ => ⟨z2548, z2549, fun x1 u2 z2550p => ⟨rfl, (match (z2550f x1 u2 z2550p) with | ⟨z2551, z2552, z2553f⟩ => ⟨z2551, z2552, fun x3 u4 z2553p => ⟨fun z2554 => ((z2553f x3 u4 z2553p).1 z2554), fun z2555 => ⟨rfl, (match ((z2553f x3 u4 z2553p).2 z2555) with | ⟨z2556, z2557, z2558f⟩ => ⟨z2556, z2557, fun x5 u6 z2558p => (z2558f x5 u6 z2558p)⟩)⟩⟩⟩)⟩⟩)⟩⟩)
set_option maxRecDepth 100000 in
theorem b_MO_chanceSew_0 {d : Nat} {σ : fg_St} {Q : Int32 → fg_St → Prop} (H : (∃ P, fg_Run d 180 0 [some (.ref 187), some (.int (fg_F σ 187 2))] [] σ P ∧ ∀ x1 u2, P x1 u2 → (∃ P, fg_Run d 175 0 [some (.ref 187), some (.int x1)] [] u2 P ∧ ∀ x3 u4, P x3 u4 → ((x3 = 0 → Q 0 u4) ∧ (¬ (x3 = 0) → (∃ P, fg_Run d 176 0 [some (.ref 187), some (.int x1)] [] u4 P ∧ ∀ x5 u6, P x5 u6 → Q 0 u6)))))) : fg_Run (d + 1) 182 0 [some (.ref 187), none] [] σ Q := fg_blk [0] 13 (⟨rfl, ⟨rfl, (match H with | ⟨z2559, z2560, z2561f⟩ => ⟨z2559, z2560, fun x1 u2 z2561p => ⟨rfl, (match (z2561f x1 u2 z2561p) with | ⟨z2562, z2563, z2564f⟩ => ⟨z2562, z2563, fun x3 u4 z2564p => ⟨fun z2565 => ((z2564f x3 u4 z2564p).1 z2565), fun z2566 => ⟨rfl, (match ((z2564f x3 u4 z2564p).2 z2566) with | ⟨z2567, z2568, z2569f⟩ => ⟨z2567, z2568, fun x5 u6 z2569p => (z2569f x5 u6 z2569p)⟩)⟩⟩⟩)⟩⟩)⟩⟩)
set_option maxRecDepth 100000 in
theorem b_MO_chance_0 {d : Nat} {σ : fg_St} {Q : Int32 → fg_St → Prop} (H : (∃ P, fg_Run d 180 0 [some (.ref 187), some (.int 5)] [] σ P ∧ ∀ x1 u2, P x1 u2 → (∃ P, fg_Run d 180 0 [some (.ref 187), some (.int (fg_F u2 187 0))] [] u2 P ∧ ∀ x3 u4, P x3 u4 → ((2 ≤ x1 → ((¬ x1 = 2 → ((¬ x1 = 3 → ((¬ x1 = 4 → Q 0 u4) ∧ (x1 = 4 → (((fg_F u4 187 2) ≤ 0 → Q 0 u4) ∧ (¬ ((fg_F u4 187 2) ≤ 0) → (∃ P, fg_Run d 182 0 [some (.ref 187), none] [] u4 P ∧ ∀ x5 u6, P x5 u6 → Q 0 u6)))))) ∧ (x1 = 3 → (∃ P, fg_Run d 180 0 [some (.ref 187), some (.int 3)] [] u4 P ∧ ∀ x7 u8, P x7 u8 → (∃ P, fg_Run d 180 0 [some (.ref 187), some (.int 2)] [] (fg_sR u8 191 58 x7) P ∧ ∀ x9 u10, P x9 u10 → Q 0 (fg_sR u10 191 59 x9)))))) ∧ (x1 = 2 → (vp_in (43 + x3) 61 ∧ (((fg_R u4 191 ((43 + x3).toNatClampNeg)) = (-1) → ((¬ x1 = 3 → ((¬ x1 = 4 → Q 0 u4) ∧ (x1 = 4 → (((fg_F u4 187 2) ≤ 0 → Q 0 u4) ∧ (¬ ((fg_F u4 187 2) ≤ 0) → (∃ P, fg_Run d 182 0 [some (.ref 187), none] [] u4 P ∧ ∀ x11 u12, P x11 u12 → Q 0 u12)))))) ∧ (x1 = 3 → (∃ P, fg_Run d 180 0 [some (.ref 187), some (.int 3)] [] u4 P ∧ ∀ x13 u14, P x13 u14 → (∃ P, fg_Run d 180 0 [some (.ref 187), some (.int 2)] [] (fg_sR u14 191 58 x13) P ∧ ∀ x15 u16, P x15 u16 → Q 0 (fg_sR u16 191 59 x15)))))) ∧ (¬ ((fg_R u4 191 ((43 + x3).toNatClampNeg)) = (-1)) → (∃ P, fg_Run d 170 0 [some (.ref 187), some (.int x3), none, none] [] u4 P ∧ ∀ x17 u18, P x17 u18 → Q 0 u18))))))) ∧ (¬ (2 ≤ x1) → (((fg_F u4 187 4) ≤ 0 → ((¬ x1 = 2 → ((¬ x1 = 3 → ((¬ x1 = 4 → Q 0 u4) ∧ (x1 = 4 → (((fg_F u4 187 2) ≤ 0 → Q 0 u4) ∧ (¬ ((fg_F u4 187 2) ≤ 0) → (∃ P, fg_Run d 182 0 [some (.ref 187), none] [] u4 P ∧ ∀ x19 u20, P x19 u20 → Q 0 u20)))))) ∧ (x1 = 3 → (∃ P, fg_Run d 180 0 [some (.ref 187), some (.int 3)] [] u4 P ∧ ∀ x21 u22, P x21 u22 → (∃ P, fg_Run d 180 0 [some (.ref 187), some (.int 2)] [] (fg_sR u22 191 58 x21) P ∧ ∀ x23 u24, P x23 u24 → Q 0 (fg_sR u24 191 59 x23)))))) ∧ (x1 = 2 → (vp_in (43 + x3) 61 ∧ (((fg_R u4 191 ((43 + x3).toNatClampNeg)) = (-1) → ((¬ x1 = 3 → ((¬ x1 = 4 → Q 0 u4) ∧ (x1 = 4 → (((fg_F u4 187 2) ≤ 0 → Q 0 u4) ∧ (¬ ((fg_F u4 187 2) ≤ 0) → (∃ P, fg_Run d 182 0 [some (.ref 187), none] [] u4 P ∧ ∀ x25 u26, P x25 u26 → Q 0 u26)))))) ∧ (x1 = 3 → (∃ P, fg_Run d 180 0 [some (.ref 187), some (.int 3)] [] u4 P ∧ ∀ x27 u28, P x27 u28 → (∃ P, fg_Run d 180 0 [some (.ref 187), some (.int 2)] [] (fg_sR u28 191 58 x27) P ∧ ∀ x29 u30, P x29 u30 → Q 0 (fg_sR u30 191 59 x29)))))) ∧ (¬ ((fg_R u4 191 ((43 + x3).toNatClampNeg)) = (-1)) → (∃ P, fg_Run d 170 0 [some (.ref 187), some (.int x3), none, none] [] u4 P ∧ ∀ x31 u32, P x31 u32 → Q 0 u32))))))) ∧ (¬ ((fg_F u4 187 4) ≤ 0) → (∃ P, fg_Run d 181 0 [some (.ref 187), some (.int x3), none, none] [] u4 P ∧ ∀ x33 u34, P x33 u34 → Q 0 u34)))))))) : fg_Run (d + 1) 183 0 [some (.ref 187), none, none, none] [] σ Q := fg_blk [0] 45 (⟨rfl, (match H with | ⟨z2570, z2571, z2572f⟩ => ⟨z2570, z2571, fun x1 u2 z2572p => ⟨rfl, ⟨rfl, (match (z2572f x1 u2 z2572p) with | ⟨z2573, z2574, z2575f⟩ => ⟨z2573, z2574, fun x3 u4 z2575p => ⟨fun z2576 => ⟨fun z2578 => ⟨fun z2580 => ⟨fun z2582 => (((((z2575f x3 u4 z2575p).1 z2576).1 z2578).1 z2580).1 z2582), fun z2583 => ⟨rfl, ⟨fun z2584 => ((((((z2575f x3 u4 z2575p).1 z2576).1 z2578).1 z2580).2 (Classical.not_not.mp z2583)).1 z2584), fun z2585 => ⟨rfl, (match ((((((z2575f x3 u4 z2575p).1 z2576).1 z2578).1 z2580).2 (Classical.not_not.mp z2583)).2 z2585) with | ⟨z2586, z2587, z2588f⟩ => ⟨z2586, z2587, fun x5 u6 z2588p => (z2588f x5 u6 z2588p)⟩)⟩⟩⟩⟩, fun z2581 => ⟨rfl, ⟨rfl, (match ((((z2575f x3 u4 z2575p).1 z2576).1 z2578).2 (Classical.not_not.mp z2581)) with | ⟨z2589, z2590, z2591f⟩ => ⟨z2589, z2590, fun x7 u8 z2591p => ⟨rfl, ⟨fg_vin rfl rfl, ⟨rfl, ⟨rfl, (match (z2591f x7 u8 z2591p) with | ⟨z2592, z2593, z2594f⟩ => ⟨z2592, z2593, fun x9 u10 z2594p => ⟨rfl, ⟨fg_vin rfl rfl, (z2594f x9 u10 z2594p)⟩⟩⟩)⟩⟩⟩⟩⟩)⟩⟩⟩, fun z2579 => ⟨rfl, ⟨rfl, ⟨(((z2575f x3 u4 z2575p).1 z2576).2 (Classical.not_not.mp z2579)).1, ⟨fun z2595 => ⟨fun z2597 => ⟨fun z2599 => ((((((z2575f x3 u4 z2575p).1 z2576).2 (Classical.not_not.mp z2579)).2.1 z2595).1 z2597).1 z2599), fun z2600 => ⟨rfl, ⟨fun z2601 => (((((((z2575f x3 u4 z2575p).1 z2576).2 (Classical.not_not.mp z2579)).2.1 z2595).1 z2597).2 (Classical.not_not.mp z2600)).1 z2601), fun z2602 => ⟨rfl, (match (((((((z2575f x3 u4 z2575p).1 z2576).2 (Classical.not_not.mp z2579)).2.1 z2595).1 z2597).2 (Classical.not_not.mp z2600)).2 z2602) with | ⟨z2603, z2604, z2605f⟩ => ⟨z2603, z2604, fun x11 u12 z2605p => (z2605f x11 u12 z2605p)⟩)⟩⟩⟩⟩, fun z2598 => ⟨rfl, ⟨rfl, (match (((((z2575f x3 u4 z2575p).1 z2576).2 (Classical.not_not.mp z2579)).2.1 z2595).2 (Classical.not_not.mp z2598)) with | ⟨z2606, z2607, z2608f⟩ => ⟨z2606, z2607, fun x13 u14 z2608p => ⟨rfl, ⟨fg_vin rfl rfl, ⟨rfl, ⟨rfl, (match (z2608f x13 u14 z2608p) with | ⟨z2609, z2610, z2611f⟩ => ⟨z2609, z2610, fun x15 u16 z2611p => ⟨rfl, ⟨fg_vin rfl rfl, (z2611f x15 u16 z2611p)⟩⟩⟩)⟩⟩⟩⟩⟩)⟩⟩⟩, fun z2596 => ⟨rfl, (match ((((z2575f x3 u4 z2575p).1 z2576).2 (Classical.not_not.mp z2579)).2.2 z2596) with | ⟨z2612, z2613, z2614f⟩ => ⟨z2612, z2613, fun x17 u18 z2614p => (z2614f x17 u18 z2614p)⟩)⟩⟩⟩⟩⟩⟩, fun z2577 => ⟨rfl, ⟨fun z2615 => ⟨fun z2617 => ⟨fun z2619 => ⟨fun z2621 => ((((((z2575f x3 u4 z2575p).2 z2577).1 z2615).1 z2617).1 z2619).1 z2621), fun z2622 => ⟨rfl, ⟨fun z2623 => (((((((z2575f x3 u4 z2575p).2 z2577).1 z2615).1 z2617).1 z2619).2 (Classical.not_not.mp z2622)).1 z2623), fun z2624 => ⟨rfl, (match (((((((z2575f x3 u4 z2575p).2 z2577).1 z2615).1 z2617).1 z2619).2 (Classical.not_not.mp z2622)).2 z2624) with | ⟨z2625, z2626, z2627f⟩ => ⟨z2625, z2626, fun x19 u20 z2627p => (z2627f x19 u20 z2627p)⟩)⟩⟩⟩⟩, fun z2620 => ⟨rfl, ⟨rfl, (match (((((z2575f x3 u4 z2575p).2 z2577).1 z2615).1 z2617).2 (Classical.not_not.mp z2620)) with | ⟨z2628, z2629, z2630f⟩ => ⟨z2628, z2629, fun x21 u22 z2630p => ⟨rfl, ⟨fg_vin rfl rfl, ⟨rfl, ⟨rfl, (match (z2630f x21 u22 z2630p) with | ⟨z2631, z2632, z2633f⟩ => ⟨z2631, z2632, fun x23 u24 z2633p => ⟨rfl, ⟨fg_vin rfl rfl, (z2633f x23 u24 z2633p)⟩⟩⟩)⟩⟩⟩⟩⟩)⟩⟩⟩, fun z2618 => ⟨rfl, ⟨rfl, ⟨((((z2575f x3 u4 z2575p).2 z2577).1 z2615).2 (Classical.not_not.mp z2618)).1, ⟨fun z2634 => ⟨fun z2636 => ⟨fun z2638 => (((((((z2575f x3 u4 z2575p).2 z2577).1 z2615).2 (Classical.not_not.mp z2618)).2.1 z2634).1 z2636).1 z2638), fun z2639 => ⟨rfl, ⟨fun z2640 => ((((((((z2575f x3 u4 z2575p).2 z2577).1 z2615).2 (Classical.not_not.mp z2618)).2.1 z2634).1 z2636).2 (Classical.not_not.mp z2639)).1 z2640), fun z2641 => ⟨rfl, (match ((((((((z2575f x3 u4 z2575p).2 z2577).1 z2615).2 (Classical.not_not.mp z2618)).2.1 z2634).1 z2636).2 (Classical.not_not.mp z2639)).2 z2641) with | ⟨z2642, z2643, z2644f⟩ => ⟨z2642, z2643, fun x25 u26 z2644p => (z2644f x25 u26 z2644p)⟩)⟩⟩⟩⟩, fun z2637 => ⟨rfl, ⟨rfl, (match ((((((z2575f x3 u4 z2575p).2 z2577).1 z2615).2 (Classical.not_not.mp z2618)).2.1 z2634).2 (Classical.not_not.mp z2637)) with | ⟨z2645, z2646, z2647f⟩ => ⟨z2645, z2646, fun x27 u28 z2647p => ⟨rfl, ⟨fg_vin rfl rfl, ⟨rfl, ⟨rfl, (match (z2647f x27 u28 z2647p) with | ⟨z2648, z2649, z2650f⟩ => ⟨z2648, z2649, fun x29 u30 z2650p => ⟨rfl, ⟨fg_vin rfl rfl, (z2650f x29 u30 z2650p)⟩⟩⟩)⟩⟩⟩⟩⟩)⟩⟩⟩, fun z2635 => ⟨rfl, (match (((((z2575f x3 u4 z2575p).2 z2577).1 z2615).2 (Classical.not_not.mp z2618)).2.2 z2635) with | ⟨z2651, z2652, z2653f⟩ => ⟨z2651, z2652, fun x31 u32 z2653p => (z2653f x31 u32 z2653p)⟩)⟩⟩⟩⟩⟩⟩, fun z2616 => ⟨rfl, (match (((z2575f x3 u4 z2575p).2 z2577).2 z2616) with | ⟨z2654, z2655, z2656f⟩ => ⟨z2654, z2655, fun x33 u34 z2656p => (z2656f x33 u34 z2656p)⟩)⟩⟩⟩⟩⟩)⟩⟩⟩)⟩)
set_option maxRecDepth 100000 in
theorem b_MO_drift_0 {d : Nat} {σ : fg_St} {Q : Int32 → fg_St → Prop} {a0 : Int32} (H : (∃ P, fg_Run d 173 0 [some (.ref 187), some (.int a0)] [] σ P ∧ ∀ x1 u2, P x1 u2 → ((x1 = 0 → (∃ P, fg_Run d 166 0 [some (.ref 187), none] [] u2 P ∧ ∀ x3 u4, P x3 u4 → fg_Run (d + 1) 184 18 [some (.ref 187), some (.int a0), none, some (.int 0)] [] u4 Q)) ∧ (¬ (x1 = 0) → Q x1 u2)))) : fg_Run (d + 1) 184 0 [some (.ref 187), some (.int a0), none, none] [] σ Q := fg_blk [0, 18] 11 (⟨rfl, (match H with | ⟨z2657, z2658, z2659f⟩ => ⟨z2657, z2658, fun x1 u2 z2659p => ⟨fun z2660 => ⟨rfl, (match ((z2659f x1 u2 z2659p).1 z2660) with | ⟨z2662, z2663, z2664f⟩ => ⟨z2662, z2663, fun x3 u4 z2664p => (fg_Run.drop (L := [some _, some _, none, some _]) ⟨rfl, ⟨rfl, ⟨trivial, ⟨rfl, trivial⟩⟩⟩⟩ (z2664f x3 u4 z2664p))⟩)⟩, fun z2661 => ((z2659f x1 u2 z2659p).2 z2661)⟩⟩)⟩)
set_option maxRecDepth 100000 in
theorem b_MO_drift_18 {d : Nat} {σ : fg_St} {Q : Int32 → fg_St → Prop} {y1 : Int32} {y3 : Int32} (H : ((y1 ≤ y3 → (∃ P, fg_Run d 129 0 [some (.ref 187), none, none] [] σ P ∧ ∀ x1 u2, P x1 u2 → Q x1 u2)) ∧ (¬ (y1 ≤ y3) → (∃ P, fg_Run d 183 0 [some (.ref 187), none, none, none] [] σ P ∧ ∀ x3 u4, P x3 u4 → (∃ P, fg_Run d 172 0 [some (.ref 187), none, none] [] u4 P ∧ ∀ x5 u6, P x5 u6 → fg_Run (d + 1) 184 18 [some (.ref 187), some (.int y1), none, some (.int (y3 + 1))] [] u6 Q))))) : fg_Run (d + 1) 184 18 [some (.ref 187), some (.int y1), none, some (.int y3)] [] σ Q := fg_blk [0, 18] 10 (⟨fun z2665 => ⟨rfl, (match (H.1 z2665) with | ⟨z2667, z2668, z2669f⟩ => ⟨z2667, z2668, fun x1 u2 z2669p => (z2669f x1 u2 z2669p)⟩)⟩, fun z2666 => ⟨rfl, (match (H.2 z2666) with | ⟨z2670, z2671, z2672f⟩ => ⟨z2670, z2671, fun x3 u4 z2672p => ⟨rfl, (match (z2672f x3 u4 z2672p) with | ⟨z2673, z2674, z2675f⟩ => ⟨z2673, z2674, fun x5 u6 z2675p => (z2675f x5 u6 z2675p)⟩)⟩⟩)⟩⟩)
set_option maxRecDepth 100000 in
theorem b_MO_undo_0 {d : Nat} {σ : fg_St} {Q : Int32 → fg_St → Prop} (H : ((¬ (fg_F σ 187 30) = 0 → fg_Run d 185 23 [some (.ref 187), some (.int 0)] [] (fg_sF σ 187 30 ((fg_F σ 187 30) - 1)) Q) ∧ ((fg_F σ 187 30) = 0 → Q (-1000000003) σ))) : fg_Run d 185 0 [some (.ref 187), none] [] σ Q := fg_blk [0, 23] 12 (⟨rfl, ⟨fun z2676 => ⟨rfl, ⟨rfl, (H.1 z2676)⟩⟩, fun z2677 => (H.2 (Classical.not_not.mp z2677))⟩⟩)
set_option maxRecDepth 100000 in
theorem b_MO_undo_23 {d : Nat} {σ : fg_St} {Q : Int32 → fg_St → Prop} {y1 : Int32} (H : ((61 ≤ y1 → Q (fg_F σ 187 30) σ) ∧ (¬ (61 ≤ y1) → (vp_in ((61 * (fg_F σ 187 30)) + y1) 976 ∧ (vp_in y1 61 ∧ fg_Run d 185 23 [some (.ref 187), some (.int (y1 + 1))] [] (fg_sR σ 191 y1.toNatClampNeg (fg_R σ 204 (((61 * (fg_F σ 187 30)) + y1).toNatClampNeg))) Q))))) : fg_Run d 185 23 [some (.ref 187), some (.int y1)] [] σ Q := fg_blk [0, 23] 19 (⟨fun z2678 => ⟨rfl, (H.1 z2678)⟩, fun z2679 => ⟨rfl, ⟨rfl, ⟨rfl, ⟨rfl, ⟨(H.2 z2679).1, ⟨rfl, ⟨(H.2 z2679).2.1, (H.2 z2679).2.2⟩⟩⟩⟩⟩⟩⟩⟩)
set_option maxRecDepth 100000 in
theorem b_MO_look_0 {d : Nat} {σ : fg_St} {Q : Int32 → fg_St → Prop} {a0 : Int32} {a1 : Int32} {a2 : Int32} (H : (∃ P, fg_Run d 114 0 [some (.ref 187), some (.int a0)] [] σ P ∧ ∀ x1 u2, P x1 u2 → ((¬ x1 = 0 → (∃ P, fg_Run d 110 0 [some (.long a1.toInt64), none, some (.long 0), none, some (.long 2), none] [] u2 P ∧ ∀ x3 u4, P x3 u4 → ((x3 = 0 → Q (-1000000002) u4) ∧ (¬ (x3 = 0) → (vp_in a0 61 ∧ ((a2 = 0 → (∃ P, fg_Run d 137 0 [some (.int (fg_R u4 191 a0.toNatClampNeg)), some (.int a1), some (.int 0), none, none, none, none] [] u4 P ∧ ∀ x5 u6, P x5 u6 → Q x5 u6)) ∧ (¬ (a2 = 0) → (∃ P, fg_Run d 137 0 [some (.int (fg_R u4 191 a0.toNatClampNeg)), some (.int a1), some (.int 1), none, none, none, none] [] u4 P ∧ ∀ x7 u8, P x7 u8 → Q x7 u8)))))))) ∧ (x1 = 0 → Q (-1000000001) u2)))) : fg_Run (d + 1) 186 0 [some (.ref 187), some (.int a0), some (.int a1), some (.int a2)] [] σ Q := fg_blk [0] 22 (⟨rfl, (match H with | ⟨z2680, z2681, z2682f⟩ => ⟨z2680, z2681, fun x1 u2 z2682p => ⟨fun z2683 => (match ((z2682f x1 u2 z2682p).1 z2683) with | ⟨z2685, z2686, z2687f⟩ => ⟨z2685, z2686, fun x3 u4 z2687p => ⟨fun z2688 => ((z2687f x3 u4 z2687p).1 z2688), fun z2689 => ⟨rfl, ⟨rfl, ⟨((z2687f x3 u4 z2687p).2 z2689).1, ⟨fun z2690 => (match (((z2687f x3 u4 z2687p).2 z2689).2.1 z2690) with | ⟨z2692, z2693, z2694f⟩ => ⟨z2692, z2693, fun x5 u6 z2694p => (z2694f x5 u6 z2694p)⟩), fun z2691 => (match (((z2687f x3 u4 z2687p).2 z2689).2.2 z2691) with | ⟨z2695, z2696, z2697f⟩ => ⟨z2695, z2696, fun x7 u8 z2697p => (z2697f x7 u8 z2697p)⟩)⟩⟩⟩⟩⟩⟩), fun z2684 => ((z2682f x1 u2 z2682p).2 (Classical.not_not.mp z2684))⟩⟩)⟩)
set_option maxRecDepth 100000 in
theorem b_MO_clear_0 {d : Nat} {σ : fg_St} {Q : Int32 → fg_St → Prop} {a0 : Int32} {a1 : Int32} (H : (∃ P, fg_Run d 110 0 [some (.long a0.toInt64), none, some (.long 0), none, some (.long 60), none] [] σ P ∧ ∀ x1 u2, P x1 u2 → ((x1 = 0 → Q (-1000000002) u2) ∧ (¬ (x1 = 0) → (∃ P, fg_Run d 110 0 [some (.long a1.toInt64), none, some (.long 0), none, some (.long 100), none] [] u2 P ∧ ∀ x3 u4, P x3 u4 → ((¬ x3 = 0 → fg_Run (d + 1) 187 34 [none, some (.int a0), some (.int a1), some (.long 1000000000), none, some (.int 0)] [] u4 Q) ∧ (x3 = 0 → Q (-1000000002) u4))))))) : fg_Run (d + 1) 187 0 [some (.ref 187), some (.int a0), some (.int a1), none, none, none] [] σ Q := fg_blk [0, 34] 17 ((match H with | ⟨z2698, z2699, z2700f⟩ => ⟨z2698, z2699, fun x1 u2 z2700p => ⟨fun z2701 => ((z2700f x1 u2 z2700p).1 z2701), fun z2702 => (match ((z2700f x1 u2 z2700p).2 z2702) with | ⟨z2703, z2704, z2705f⟩ => ⟨z2703, z2704, fun x3 u4 z2705p => ⟨fun z2706 => (fg_Run.drop (L := [none, some _, some _, some _, none, some _]) ⟨trivial, ⟨rfl, ⟨rfl, ⟨rfl, ⟨trivial, ⟨rfl, trivial⟩⟩⟩⟩⟩⟩ ((z2705f x3 u4 z2705p).1 z2706)), fun z2707 => ((z2705f x3 u4 z2705p).2 (Classical.not_not.mp z2707))⟩⟩)⟩⟩))
set_option maxRecDepth 100000 in
theorem b_MO_clear_34 {d : Nat} {σ : fg_St} {Q : Int32 → fg_St → Prop} {y1 : Int32} {y2 : Int32} {y3 : Int64} {y5 : Int32} (H : ((y1 ≤ y5 → Q y3.toInt32 σ) ∧ (¬ (y1 ≤ y5) → fg_Run (d + 1) 187 34 [none, some (.int y1), some (.int y2), some (.long ((y3 * y2.toInt64) / 100)), none, some (.int (y5 + 1))] [] σ Q))) : fg_Run (d + 1) 187 34 [none, some (.int y1), some (.int y2), some (.long y3), none, some (.int y5)] [] σ Q := fg_blk [0, 34] 13 (⟨fun z2708 => (H.1 z2708), fun z2709 => ⟨(by decide), (H.2 z2709)⟩⟩)
set_option maxRecDepth 100000 in
theorem b_MO_read_0 {d : Nat} {σ : fg_St} {Q : Int32 → fg_St → Prop} {a0 : Int32} {a1 : Int32} (H : (∃ P, fg_Run d 115 0 [some (.ref 187), some (.int a0)] [] σ P ∧ ∀ x1 u2, P x1 u2 → ((x1 = 0 → Q (-1000000001) u2) ∧ (¬ (x1 = 0) → (∃ P, fg_Run d 115 0 [some (.ref 187), some (.int a1)] [] u2 P ∧ ∀ x3 u4, P x3 u4 → ((¬ x3 = 0 → ((¬ (fg_F u4 187 26) = 8 → (vp_in (fg_F u4 187 26) 8 ∧ (vp_in (fg_F u4 187 26) 8 ∧ Q ((fg_F u4 187 26) + 1) (fg_sF (fg_sR (fg_sR u4 201 ((fg_F u4 187 26).toNatClampNeg) a0) 202 ((fg_F u4 187 26).toNatClampNeg) a1) 187 26 ((fg_F u4 187 26) + 1))))) ∧ ((fg_F u4 187 26) = 8 → Q (-1000000004) u4))) ∧ (x3 = 0 → Q (-1000000001) u4))))))) : fg_Run (d + 1) 188 0 [some (.ref 187), some (.int a0), some (.int a1)] [] σ Q := fg_blk [0] 33 (⟨rfl, (match H with | ⟨z2710, z2711, z2712f⟩ => ⟨z2710, z2711, fun x1 u2 z2712p => ⟨fun z2713 => ((z2712f x1 u2 z2712p).1 z2713), fun z2714 => ⟨rfl, (match ((z2712f x1 u2 z2712p).2 z2714) with | ⟨z2715, z2716, z2717f⟩ => ⟨z2715, z2716, fun x3 u4 z2717p => ⟨fun z2718 => ⟨rfl, ⟨fun z2720 => ⟨rfl, ⟨rfl, ⟨rfl, ⟨(((z2717f x3 u4 z2717p).1 z2718).1 z2720).1, ⟨rfl, ⟨rfl, ⟨rfl, ⟨(((z2717f x3 u4 z2717p).1 z2718).1 z2720).2.1, ⟨rfl, ⟨rfl, ⟨rfl, (((z2717f x3 u4 z2717p).1 z2718).1 z2720).2.2⟩⟩⟩⟩⟩⟩⟩⟩⟩⟩⟩, fun z2721 => (((z2717f x3 u4 z2717p).1 z2718).2 (Classical.not_not.mp z2721))⟩⟩, fun z2719 => ((z2717f x3 u4 z2717p).2 (Classical.not_not.mp z2719))⟩⟩)⟩⟩⟩)⟩)
set_option maxRecDepth 100000 in
theorem b_MO_write_0 {d : Nat} {σ : fg_St} {Q : Int32 → fg_St → Prop} {a0 : Int32} {a1 : Int32} (H : (∃ P, fg_Run d 113 0 [some (.ref 187), some (.int a0)] [] σ P ∧ ∀ x1 u2, P x1 u2 → ((x1 = 0 → Q (-1000000001) u2) ∧ (¬ (x1 = 0) → ((a1 = (-1) → ((¬ (fg_F u2 187 32) = 15 → (vp_in (fg_F u2 187 32) 15 ∧ (vp_in (fg_F u2 187 32) 15 ∧ Q ((fg_F u2 187 32) + 1) (fg_sF (fg_sR (fg_sR u2 205 ((fg_F u2 187 32).toNatClampNeg) a0) 206 ((fg_F u2 187 32).toNatClampNeg) a1) 187 32 ((fg_F u2 187 32) + 1))))) ∧ ((fg_F u2 187 32) = 15 → Q (-1000000004) u2))) ∧ (¬ (a1 = (-1)) → (∃ P, fg_Run d 115 0 [some (.ref 187), some (.int a1)] [] u2 P ∧ ∀ x3 u4, P x3 u4 → ((¬ x3 = 0 → ((¬ (fg_F u4 187 32) = 15 → (vp_in (fg_F u4 187 32) 15 ∧ (vp_in (fg_F u4 187 32) 15 ∧ Q ((fg_F u4 187 32) + 1) (fg_sF (fg_sR (fg_sR u4 205 ((fg_F u4 187 32).toNatClampNeg) a0) 206 ((fg_F u4 187 32).toNatClampNeg) a1) 187 32 ((fg_F u4 187 32) + 1))))) ∧ ((fg_F u4 187 32) = 15 → Q (-1000000004) u4))) ∧ (x3 = 0 → Q (-1000000001) u4))))))))) : fg_Run (d + 1) 189 0 [some (.ref 187), some (.int a0), some (.int a1)] [] σ Q := fg_blk [0] 36 (⟨rfl, (match H with | ⟨z2722, z2723, z2724f⟩ => ⟨z2722, z2723, fun x1 u2 z2724p => ⟨fun z2725 => ((z2724f x1 u2 z2724p).1 z2725), fun z2726 => ⟨fun z2727 => ⟨rfl, ⟨fun z2729 => ⟨rfl, ⟨rfl, ⟨rfl, ⟨((((z2724f x1 u2 z2724p).2 z2726).1 z2727).1 z2729).1, ⟨rfl, ⟨rfl, ⟨rfl, ⟨((((z2724f x1 u2 z2724p).2 z2726).1 z2727).1 z2729).2.1, ⟨rfl, ⟨rfl, ⟨rfl, ((((z2724f x1 u2 z2724p).2 z2726).1 z2727).1 z2729).2.2⟩⟩⟩⟩⟩⟩⟩⟩⟩⟩⟩, fun z2730 => ((((z2724f x1 u2 z2724p).2 z2726).1 z2727).2 (Classical.not_not.mp z2730))⟩⟩, fun z2728 => ⟨rfl, (match (((z2724f x1 u2 z2724p).2 z2726).2 z2728) with | ⟨z2731, z2732, z2733f⟩ => ⟨z2731, z2732, fun x3 u4 z2733p => ⟨fun z2734 => ⟨rfl, ⟨fun z2736 => ⟨rfl, ⟨rfl, ⟨rfl, ⟨(((z2733f x3 u4 z2733p).1 z2734).1 z2736).1, ⟨rfl, ⟨rfl, ⟨rfl, ⟨(((z2733f x3 u4 z2733p).1 z2734).1 z2736).2.1, ⟨rfl, ⟨rfl, ⟨rfl, (((z2733f x3 u4 z2733p).1 z2734).1 z2736).2.2⟩⟩⟩⟩⟩⟩⟩⟩⟩⟩⟩, fun z2737 => (((z2733f x3 u4 z2733p).1 z2734).2 (Classical.not_not.mp z2737))⟩⟩, fun z2735 => ((z2733f x3 u4 z2733p).2 (Classical.not_not.mp z2735))⟩⟩)⟩⟩⟩⟩)⟩)
set_option maxRecDepth 100000 in
theorem b_MO_tear_0 {d : Nat} {σ : fg_St} {Q : Int32 → fg_St → Prop} (H : Q ((fg_F σ 187 26) + (fg_F σ 187 32)) (fg_sF (fg_sF σ 187 26 0) 187 32 0)) : fg_Run d 190 0 [some (.ref 187), none] [] σ Q := fg_blk [0] 14 (⟨rfl, ⟨rfl, ⟨rfl, ⟨rfl, H⟩⟩⟩⟩)
set_option maxRecDepth 100000 in
theorem b_MO_judge_0 {d : Nat} {σ : fg_St} {Q : Int32 → fg_St → Prop} (H : fg_Run d 191 2 [some (.ref 187), some (.int 0)] [] σ Q) : fg_Run d 191 0 [some (.ref 187), none] [] σ Q := fg_blk [0, 2] 3 (H)
set_option maxRecDepth 100000 in
theorem b_MO_judge_2 {d : Nat} {σ : fg_St} {Q : Int32 → fg_St → Prop} {y1 : Int32} (H : (((fg_F σ 187 32) ≤ y1 → Q (-1) σ) ∧ (¬ ((fg_F σ 187 32) ≤ y1) → (vp_in y1 15 ∧ (vp_in (43 + (fg_R σ 205 y1.toNatClampNeg)) 61 ∧ (vp_in y1 15 ∧ (((fg_R σ 191 ((43 + (fg_R σ 205 y1.toNatClampNeg)).toNatClampNeg)) = (fg_R σ 206 y1.toNatClampNeg) → fg_Run d 191 2 [some (.ref 187), some (.int (y1 + 1))] [] σ Q) ∧ (¬ ((fg_R σ 191 ((43 + (fg_R σ 205 y1.toNatClampNeg)).toNatClampNeg)) = (fg_R σ 206 y1.toNatClampNeg)) → Q y1 σ)))))))) : fg_Run d 191 2 [some (.ref 187), some (.int y1)] [] σ Q := fg_blk [0, 2] 21 (⟨rfl, ⟨fun z2738 => (H.1 z2738), fun z2739 => ⟨rfl, ⟨rfl, ⟨rfl, ⟨(H.2 z2739).1, ⟨rfl, ⟨(H.2 z2739).2.1, ⟨rfl, ⟨rfl, ⟨(H.2 z2739).2.2.1, ⟨fun z2740 => ((H.2 z2739).2.2.2.1 z2740), fun z2741 => ((H.2 z2739).2.2.2.2 z2741)⟩⟩⟩⟩⟩⟩⟩⟩⟩⟩⟩⟩)
set_option maxRecDepth 100000 in
theorem b_MO_seed_0 {d : Nat} {σ : fg_St} {Q : Int32 → fg_St → Prop} {a0 : Int32} (H : ((0 ≤ a0 → Q (fg_F σ 187 8) (fg_sF σ 187 8 a0)) ∧ (¬ (0 ≤ a0) → Q (-1000000002) σ))) : fg_Run d 192 0 [some (.ref 187), some (.int a0), none] [] σ Q := fg_blk [0] 10 (⟨fun z2742 => ⟨rfl, ⟨rfl, (H.1 z2742)⟩⟩, fun z2743 => (H.2 z2743)⟩)
set_option maxRecDepth 100000 in
theorem b_MO_keep_0 {d : Nat} {σ : fg_St} {Q : Int32 → fg_St → Prop} {a0 : Int32} (H : (∃ P, fg_Run d 110 0 [some (.long a0.toInt64), none, some (.long 0), none, some (.long 1), none] [] σ P ∧ ∀ x1 u2, P x1 u2 → ((¬ x1 = 0 → fg_Run (d + 1) 193 15 [some (.ref 187), some (.int a0), some (.int 0)] [] u2 Q) ∧ (x1 = 0 → Q (-1000000001) u2)))) : fg_Run (d + 1) 193 0 [some (.ref 187), some (.int a0), none] [] σ Q := fg_blk [0, 15] 9 ((match H with | ⟨z2744, z2745, z2746f⟩ => ⟨z2744, z2745, fun x1 u2 z2746p => ⟨fun z2747 => ((z2746f x1 u2 z2746p).1 z2747), fun z2748 => ((z2746f x1 u2 z2746p).2 (Classical.not_not.mp z2748))⟩⟩))
set_option maxRecDepth 100000 in
theorem b_MO_keep_15 {d : Nat} {σ : fg_St} {Q : Int32 → fg_St → Prop} {y1 : Int32} {y2 : Int32} (H : ((61 ≤ y2 → (vp_in ((62 * y1) + 61) 124 ∧ (vp_in y1 2 ∧ Q 1 (fg_sF (fg_sR (fg_sR σ 207 (((62 * y1) + 61).toNatClampNeg) (fg_F σ 187 8)) 208 y1.toNatClampNeg 1) 187 30 0)))) ∧ (¬ (61 ≤ y2) → (vp_in y2 61 ∧ (vp_in ((62 * y1) + y2) 124 ∧ fg_Run (d + 1) 193 15 [some (.ref 187), some (.int y1), some (.int (y2 + 1))] [] (fg_sR σ 207 (((62 * y1) + y2).toNatClampNeg) (fg_R σ 191 y2.toNatClampNeg)) Q))))) : fg_Run (d + 1) 193 15 [some (.ref 187), some (.int y1), some (.int y2)] [] σ Q := fg_blk [0, 15] 23 (⟨fun z2749 => ⟨rfl, ⟨rfl, ⟨rfl, ⟨(H.1 z2749).1, ⟨rfl, ⟨rfl, ⟨(H.1 z2749).2.1, ⟨(by decide), ⟨rfl, (H.1 z2749).2.2⟩⟩⟩⟩⟩⟩⟩⟩⟩, fun z2750 => ⟨rfl, ⟨rfl, ⟨rfl, ⟨(H.2 z2750).1, ⟨rfl, ⟨(H.2 z2750).2.1, (H.2 z2750).2.2⟩⟩⟩⟩⟩⟩⟩)
set_option maxRecDepth 100000 in
theorem b_MO_goBack_0 {d : Nat} {σ : fg_St} {Q : Int32 → fg_St → Prop} {a0 : Int32} (H : (∃ P, fg_Run d 110 0 [some (.long a0.toInt64), none, some (.long 0), none, some (.long 1), none] [] σ P ∧ ∀ x1 u2, P x1 u2 → ((¬ x1 = 0 → (vp_in a0 2 ∧ ((¬ (fg_R u2 208 a0.toNatClampNeg) = 0 → fg_Run (d + 1) 194 28 [some (.ref 187), some (.int a0), some (.int 0)] [] u2 Q) ∧ ((fg_R u2 208 a0.toNatClampNeg) = 0 → Q (-1000000003) u2)))) ∧ (x1 = 0 → Q (-1000000001) u2)))) : fg_Run (d + 1) 194 0 [some (.ref 187), some (.int a0), none] [] σ Q := fg_blk [0, 28] 14 ((match H with | ⟨z2751, z2752, z2753f⟩ => ⟨z2751, z2752, fun x1 u2 z2753p => ⟨fun z2754 => ⟨rfl, ⟨rfl, ⟨((z2753f x1 u2 z2753p).1 z2754).1, ⟨fun z2756 => (((z2753f x1 u2 z2753p).1 z2754).2.1 z2756), fun z2757 => (((z2753f x1 u2 z2753p).1 z2754).2.2 (Classical.not_not.mp z2757))⟩⟩⟩⟩, fun z2755 => ((z2753f x1 u2 z2753p).2 (Classical.not_not.mp z2755))⟩⟩))
set_option maxRecDepth 100000 in
theorem b_MO_goBack_28 {d : Nat} {σ : fg_St} {Q : Int32 → fg_St → Prop} {y1 : Int32} {y2 : Int32} (H : ((61 ≤ y2 → (vp_in ((62 * y1) + 61) 124 ∧ Q 1 (fg_sF (fg_sF σ 187 8 (fg_R σ 207 (((62 * y1) + 61).toNatClampNeg))) 187 30 0))) ∧ (¬ (61 ≤ y2) → (vp_in ((62 * y1) + y2) 124 ∧ (vp_in y2 61 ∧ fg_Run (d + 1) 194 28 [some (.ref 187), some (.int y1), some (.int (y2 + 1))] [] (fg_sR σ 191 y2.toNatClampNeg (fg_R σ 207 (((62 * y1) + y2).toNatClampNeg))) Q))))) : fg_Run (d + 1) 194 28 [some (.ref 187), some (.int y1), some (.int y2)] [] σ Q := fg_blk [0, 28] 18 (⟨fun z2758 => ⟨rfl, ⟨rfl, ⟨(H.1 z2758).1, ⟨rfl, ⟨rfl, (H.1 z2758).2⟩⟩⟩⟩⟩, fun z2759 => ⟨rfl, ⟨rfl, ⟨rfl, ⟨(H.2 z2759).1, ⟨rfl, ⟨(H.2 z2759).2.1, (H.2 z2759).2.2⟩⟩⟩⟩⟩⟩⟩)
end
section
def fg_mw : List (Nat × Nat × Nat × Nat) := [(351, 349, 350, 76), (712, 710, 711, 76), (541, 539, 540, 76), (489, 487, 488, 76), (501, 499, 500, 76), (561, 559, 560, 76), (683, 681, 682, 76), (749, 747, 748, 76), (753, 751, 752, 76), (719, 717, 718, 76), (727, 725, 726, 76), (355, 353, 354, 76), (740, 738, 739, 76), (509, 507, 508, 79), (513, 511, 512, 79), (525, 523, 524, 79), (517, 515, 516, 79), (839, 837, 838, 78), (847, 845, 846, 78), (477, 475, 476, 78), (641, 639, 640, 78), (859, 857, 858, 78), (708, 706, 707, 77), (793, 791, 792, 77), (473, 471, 472, 77), (613, 611, 612, 81), (814, 812, 813, 81), (818, 816, 817, 81), (825, 823, 824, 81), (421, 419, 420, 75), (359, 357, 358, 75), (691, 689, 690, 75), (671, 669, 670, 75), (521, 519, 520, 75), (805, 803, 804, 75), (598, 596, 597, 75), (493, 491, 492, 75), (505, 503, 504, 75), (453, 451, 452, 75), (461, 459, 460, 75), (465, 463, 464, 75), (469, 467, 468, 75), (529, 527, 528, 75), (622, 620, 621, 75), (408, 406, 407, 74), (417, 415, 416, 74), (425, 423, 424, 74), (437, 435, 436, 74), (429, 427, 428, 74), (445, 443, 444, 74), (449, 447, 448, 74), (457, 455, 456, 74), (433, 431, 432, 74), (441, 439, 440, 74), (549, 547, 548, 80), (557, 555, 556, 80), (571, 569, 570, 80), (576, 574, 575, 80), (645, 643, 644, 80), (580, 578, 579, 80), (403, 401, 402, 73), (413, 411, 412, 73), (481, 479, 480, 73), (485, 483, 484, 73), (667, 665, 666, 73), (677, 675, 676, 73), (687, 685, 686, 73), (695, 693, 694, 73), (699, 697, 698, 73), (723, 721, 722, 73), (731, 729, 730, 73), (745, 743, 744, 73), (757, 755, 756, 73), (761, 759, 760, 73), (765, 763, 764, 73), (789, 787, 788, 73), (797, 795, 796, 73), (801, 799, 800, 73), (810, 808, 809, 73), (829, 827, 828, 73), (835, 833, 834, 73), (843, 841, 842, 73), (851, 849, 850, 73), (855, 853, 854, 73), (863, 861, 862, 73), (867, 865, 866, 73), (872, 870, 871, 73), (532, 531, 0, 73), (703, 702, 14, 73), (735, 734, 15, 73), (773, 772, 17, 73), (769, 768, 16, 73), (781, 780, 18, 73), (785, 784, 19, 73), (497, 496, 0, 73), (545, 544, 2, 73), (537, 536, 1, 73), (584, 583, 3, 73), (606, 605, 6, 73), (602, 601, 5, 73), (594, 593, 4, 73), (618, 617, 7, 73), (627, 626, 8, 73), (631, 630, 9, 73), (637, 636, 10, 73), (651, 650, 11, 73), (655, 654, 12, 73), (660, 659, 13, 73), (564, 563, 0, 73), (567, 566, 0, 73), (998, 997, 0, 83), (1075, 1074, 0, 83), (1072, 1071, 0, 83), (1216, 1215, 59, 83), (1190, 1189, 55, 83), (1198, 1197, 56, 83), (994, 992, 993, 83), (1008, 1007, 20, 83), (1016, 1015, 22, 83), (1024, 1023, 24, 83), (1020, 1019, 23, 83), (1030, 1029, 25, 83), (1034, 1033, 26, 83), (1012, 1011, 21, 83), (1037, 1036, 0, 83), (1041, 1040, 27, 83), (1004, 1002, 1003, 83), (1048, 1046, 1047, 83), (1112, 1111, 38, 83), (1065, 1064, 30, 83), (1120, 1119, 40, 83), (1069, 1068, 31, 83), (1087, 1086, 34, 83), (1083, 1082, 33, 83), (1079, 1078, 32, 83), (1116, 1115, 39, 83), (1138, 1137, 0, 83), (1135, 1134, 0, 83), (1132, 1131, 43, 83), (1146, 1145, 45, 83), (1142, 1141, 44, 83), (1128, 1127, 42, 83), (1124, 1123, 41, 83), (1150, 1149, 46, 83), (1162, 1161, 49, 83), (1158, 1157, 48, 83), (1166, 1165, 50, 83), (1091, 1090, 35, 83), (1095, 1094, 36, 83), (1061, 1060, 29, 83), (1154, 1153, 47, 83), (1056, 1055, 28, 83), (1052, 1050, 1051, 83), (1103, 1102, 37, 83), (1099, 1097, 1098, 83), (1170, 1169, 51, 83), (1178, 1177, 53, 83), (1182, 1181, 54, 83), (1174, 1173, 52, 83), (1108, 1106, 1107, 83), (1186, 1184, 1185, 83), (1208, 1207, 58, 83), (1204, 1203, 57, 83), (1194, 1192, 1193, 83), (1212, 1210, 1211, 83), (1220, 1218, 1219, 83), (1233, 1232, 61, 83), (1228, 1227, 60, 83), (1237, 1236, 62, 83), (1224, 1222, 1223, 83), (1245, 1244, 63, 83), (1241, 1239, 1240, 83), (1258, 1257, 65, 83), (1253, 1252, 64, 83), (1249, 1247, 1248, 83), (1266, 1265, 66, 83), (1270, 1269, 67, 83), (1262, 1260, 1261, 83), (1274, 1272, 1273, 83), (1279, 1277, 1278, 83), (1292, 1291, 69, 83), (1300, 1299, 70, 83), (1304, 1303, 71, 83), (1288, 1287, 68, 83), (1284, 1282, 1283, 83), (1308, 1306, 1307, 83), (1312, 1310, 1311, 83), (1316, 1314, 1315, 83), (1322, 1320, 1321, 83), (1326, 1324, 1325, 83), (1330, 1328, 1329, 83), (1334, 1332, 1333, 83), (1338, 1336, 1337, 83), (1342, 1340, 1341, 83), (1346, 1344, 1345, 83), (587, 586, 0, 84)]
def fg_sta : List Bool := [false, false, false, false, false, false, false, false, false, false, false, false, false, false, false, false, false, false, false, false, false, false, false, false, false, false, false, false, false, false, false, false, false, false, false, false, false, false, false, false, false, false, false, false, false, false, false, false, false, false, false, false, false, false, false, false, false, false, false, false, false, false, false, false, false, false, false, false, false, false, false, false, false, false, false, false, false, false, false, false, false, false, false, false, false, false, false, true, false, false, false, false, false, false, false, false, false, false, false, false, false, false, false, false, false, false, false, false, true, true, true, true, true, false, false, false, false, false, false, false, false, false, false, false, true, false, false, false, false, false, false, false, false, false, false, false, true, true, false, false, false, false, false, false, false, false, false, false, false, false, false, false, false, false, false, false, false, false, false, false, false, false, false, false, false, false, false, false, false, false, false, false, false, false, false, false, false, false, false, false, false, false, false, false, false, false, false, false, false, false, false, false, false, false, false, true]
/-! THE TABLES HELD AGAINST THE CLASS FILES -/
def fg_w (w : Nat) (c : Jvm.Cond) : Bool := decide (lw_tbl[w]? = some c)
def fg_cq : ClassFile.Cond → Nat
  | .eq => 0
  | .ne => 1
  | .lt => 2
  | .ge => 3
  | .gt => 4
  | .le => 5
/-- what a field's instruction must be -/
def fg_fk (own : String) (x a b w : Nat) : Bool := match vwCl[a]? with
  | some q => decide (b < q.2.2) && fg_w w (.fieldLink own x (q.2.1 b).1 (q.2.1 b).2.1 (q.2.1 b).2.2.1)
  | none => false
def fg_fp (a b : Nat) (ty : FieldType) : Bool := match vwCl[a]? with
  | some q => decide ((q.2.1 b).2.2.2 = false) && decide (parseFieldDescriptor (q.2.1 b).2.2.1 = some ty)
  | none => false
def fg_np (d : String) (n : Nat) : Bool := decide ((parseMethodDescriptor d).map (fun d => d.parameters.length) = some n)
def fg_ri : Option FieldType → Bool
  | some .int => true
  | some .boolean => true
  | _ => false
def fg_rz : Option FieldType → Bool
  | none => true
  | _ => false
/-- what a call's instruction must be -/
def fg_ckc (own : String) (x a b w : Nat) (v : Bool) : Bool := match fg_mt[a]? with
  | some y => fg_w w (.methodLink own x y.1) && (fg_np y.1.desc b && (match v with
    | true => fg_rz y.2.2.2
    | false => fg_ri y.2.2.2))
  | none => false
def fg_cki (own : String) (ret : Option FieldType) (pc len : Nat) (ins : Instr) (op a b : Nat) (v : Int32) (w : Nat) : Bool := match op with
  | 0 => (match ins with
    | .iconst n => Nat.beq len 1 && decide (Int32.ofInt n = v)
    | .bipush n => Nat.beq len 2 && decide ((Int8.ofInt n).toInt32 = v)
    | .sipush n => Nat.beq len 3 && decide ((Int16.ofInt n).toInt32 = v)
    | .ldc x => Nat.beq len 2 && fg_w w (.constant own x v)
    | .ldc_w x => Nat.beq len 3 && fg_w w (.constant own x v)
    | _ => false)
  | 1 => (match ins with
    | .lconst n => Nat.beq len 1 && Nat.beq n.val a
    | .ldc2_w x => Nat.beq len 3 && fg_w w (.constantLong own x (Int64.ofNat a))
    | _ => false)
  | 2 => (match ins with
    | .iload_n k => Nat.beq len 1 && Nat.beq k.val a
    | .iload k => Nat.beq len 2 && Nat.beq k a
    | _ => false)
  | 3 => (match ins with
    | .aload_n k => Nat.beq len 1 && Nat.beq k.val a
    | .aload k => Nat.beq len 2 && Nat.beq k a
    | _ => false)
  | 4 => (match ins with
    | .lload_n k => Nat.beq len 1 && Nat.beq k.val a
    | .lload k => Nat.beq len 2 && Nat.beq k a
    | _ => false)
  | 5 => (match ins with
    | .istore_n k => Nat.beq len 1 && Nat.beq k.val a
    | .istore k => Nat.beq len 2 && Nat.beq k a
    | _ => false)
  | 6 => (match ins with
    | .astore_n k => Nat.beq len 1 && Nat.beq k.val a
    | .astore k => Nat.beq len 2 && Nat.beq k a
    | _ => false)
  | 7 => (match ins with
    | .lstore_n k => Nat.beq len 1 && Nat.beq k.val a
    | .lstore k => Nat.beq len 2 && Nat.beq k a
    | _ => false)
  | 8 => (match ins with
    | .iinc k n => Nat.beq len 3 && (Nat.beq k a && decide (Int32.ofInt n = v))
    | _ => false)
  | 9 => (match b with
    | 0 => Nat.beq len 1 && decide (ins = .iadd)
    | 1 => Nat.beq len 1 && decide (ins = .isub)
    | 2 => Nat.beq len 1 && decide (ins = .imul)
    | 3 => Nat.beq len 1 && decide (ins = .iand)
    | 4 => Nat.beq len 1 && decide (ins = .ior)
    | 5 => Nat.beq len 1 && decide (ins = .ixor)
    | 6 => Nat.beq len 1 && decide (ins = .ishl)
    | 7 => Nat.beq len 1 && decide (ins = .ishr)
    | _ => Nat.beq len 1 && decide (ins = .iushr))
  | 10 => Nat.beq len 1 && decide (ins = .idiv)
  | 11 => Nat.beq len 1 && decide (ins = .irem)
  | 12 => Nat.beq len 1 && decide (ins = .ineg)
  | 13 => Nat.beq len 1 && decide (ins = .i2l)
  | 14 => Nat.beq len 1 && decide (ins = .l2i)
  | 15 => (match b with
    | 0 => Nat.beq len 1 && decide (ins = .ladd)
    | 1 => Nat.beq len 1 && decide (ins = .lmul)
    | _ => Nat.beq len 1 && decide (ins = .land))
  | 16 => Nat.beq len 1 && decide (ins = .ldiv)
  | 17 => Nat.beq len 1 && decide (ins = .lrem)
  | 18 => Nat.beq len 1 && decide (ins = .lcmp)
  | 19 => Nat.beq len 1 && decide (ins = .dup)
  | 20 => Nat.beq len 1 && decide (ins = .pop)
  | 21 => Nat.beq len 1 && decide (ins = .dup2)
  | 22 => (match ins with
    | .goto off => Nat.beq len 3 && decide ((pc : Int) + off = (a : Int))
    | _ => false)
  | 23 => (match ins with
    | .ifCond o off => Nat.beq len 3 && (Nat.beq (fg_cq o) b && decide ((pc : Int) + off = (a : Int)))
    | _ => false)
  | 24 => (match ins with
    | .if_icmp o off => Nat.beq len 3 && (Nat.beq (fg_cq o) b && decide ((pc : Int) + off = (a : Int)))
    | _ => false)
  | 25 => (match ins with
    | .tableswitch df lo hi offs => (match fg_swt[a]? with
      | some q => decide (lo = 0) && (decide (hi = (q.1.length : Int) - 1) && (Nat.ble q.1.length 1000 && (decide ((pc : Int) + df = (q.2 : Int)) && decide (offs.toList.map (fun o => (pc : Int) + o) = q.1.map (fun t : Nat => (t : Int))))))
      | none => false)
    | _ => false)
  | 26 => (match ins with
    | .getfield x => Nat.beq len 3 && (fg_fk own x a b w && !(fg_rf a b))
    | _ => false)
  | 27 => (match ins with
    | .getfield x => Nat.beq len 3 && (fg_fk own x a b w && fg_rf a b)
    | _ => false)
  | 28 => (match ins with
    | .putfield x => Nat.beq len 3 && (fg_fk own x a b w && (!(fg_rf a b) && fg_fp a b .int))
    | _ => false)
  | 29 => (match ins with
    | .putfield x => Nat.beq len 3 && (fg_fk own x a b w && (!(fg_rf a b) && fg_fp a b .boolean))
    | _ => false)
  | 30 => (match ins with
    | .putfield x => Nat.beq len 3 && (fg_fk own x a b w && (Nat.beq a 9 && ((Nat.beq b 1 || Nat.beq b 2) && fg_fp a b (.object "FlagSignals$Ship"))))
    | _ => false)
  | 31 => Nat.beq len 1 && decide (ins = .iaload)
  | 32 => Nat.beq len 1 && decide (ins = .iastore)
  | 33 => Nat.beq len 1 && decide (ins = .baload)
  | 34 => Nat.beq len 1 && decide (ins = .bastore)
  | 35 => Nat.beq len 1 && decide (ins = .aaload)
  | 36 => Nat.beq len 1 && decide (ins = .arraylength)
  | 37 => (match ins with
    | .invokevirtual x => Nat.beq len 3 && (fg_ckc own x a b w false && !(fg_sta.getD a false))
    | _ => false)
  | 38 => (match ins with
    | .invokevirtual x => Nat.beq len 3 && (fg_ckc own x a b w true && !(fg_sta.getD a false))
    | _ => false)
  | 39 => (match ins with
    | .invokestatic x => Nat.beq len 3 && (fg_ckc own x a b w false && fg_sta.getD a false)
    | _ => false)
  | 40 => (match ins with
    | .invokestatic x => Nat.beq len 3 && (fg_ckc own x a b w true && fg_sta.getD a false)
    | _ => false)
  | 41 => (match ins with
    | .invokestatic x => Nat.beq len 3 && ((match fg_mt[a]? with
      | some y => decide (fg_nest[w]? = some (.methodLinkNest own x y.1 "FlagSignals")) && (fg_np y.1.desc b && fg_ri y.2.2.2)
      | none => false) && fg_sta.getD a false)
    | _ => false)
  | 42 => (match ins with
    | .invokestatic x => Nat.beq len 3 && fg_w w (.methodLink own x arraycopyName)
    | _ => false)
  | 46 => (match ins with
    | .invokestatic x => Nat.beq len 3 && fg_w w (.methodLink own x Lib.Math.min.name)
    | _ => false)
  | 47 => (match ins with
    | .invokestatic x => Nat.beq len 3 && fg_w w (.methodLink own x Lib.Math.max.name)
    | _ => false)
  | 43 => Nat.beq len 1 && (decide (ins = .ireturn) && decide (ret = some .int))
  | 44 => Nat.beq len 1 && (decide (ins = .ireturn) && decide (ret = some .boolean))
  | 45 => Nat.beq len 1 && (decide (ins = .return_) && decide (ret = none))
  | _ => false
def fg_ckI (own : String) (cc : ByteArray) (ret : Option FieldType) (q : fg_I) : Bool := match decode cc q.1 with
  | .ok r => Nat.beq q.2.1 (q.1 + r.2) && fg_cki own ret q.1 r.2 r.1 q.2.2.1 q.2.2.2.1 q.2.2.2.2.1 q.2.2.2.2.2.1 q.2.2.2.2.2.2
  | .error _ => false
/-- a method's own words -/
def fg_mck (i : Nat) : Bool := match fg_mt[i]?, fg_mw[i]? with
  | some y, some p => ((match fg_sta.getD i false with
    | true => fg_w p.2.1 (.static y.1)
    | false => fg_w p.2.1 (.instanceMethod y.1) && fg_w p.2.2.1 (.selects y.1.cls y.1 y.1)) && (fg_w p.2.2.2 (.initialized y.1.cls) && (decide (y.1.cls ≠ "java/lang/invoke/MethodHandle" ∧ y.1.cls ≠ "java/lang/invoke/VarHandle") && (plainName y.1.cls && Nat.ble y.2.2.1 11))))
  | _, _ => false
def fg_ckm (i : Nat) : Bool := match fg_mt[i]? with
  | some y => (fg_cd.getD i []).all (fg_ckI y.1.cls y.2.1 y.2.2.2)
  | none => false
theorem fg_mc_0 : Jvm.Cond.code yX0_rig cX0_rig 3 none ∈ lw_tbl := List.mem_append_right _ (List.mem_append_right _ (List.mem_append_left _ (List.mem_of_getElem? (i := 39) rfl)))
theorem fg_mc_1 : Jvm.Cond.code yX0_become cX0_become 2 none ∈ lw_tbl := List.mem_append_right _ (List.mem_append_right _ (List.mem_append_right _ (List.mem_append_left _ (List.mem_of_getElem? (i := 160) rfl))))
theorem fg_mc_2 : Jvm.Cond.code yX0_weatherNumber cX0_weatherNumber 1 (some .int) ∈ lw_tbl := List.mem_append_right _ (List.mem_append_right _ (List.mem_append_left _ (List.mem_of_getElem? (i := 229) rfl)))
theorem fg_mc_3 : Jvm.Cond.code yX0_freeFlags cX0_freeFlags 4 (some .int) ∈ lw_tbl := List.mem_append_right _ (List.mem_append_right _ (List.mem_append_left _ (List.mem_of_getElem? (i := 177) rfl)))
theorem fg_mc_4 : Jvm.Cond.code yX0_freeSubstitutes cX0_freeSubstitutes 2 (some .int) ∈ lw_tbl := List.mem_append_right _ (List.mem_append_right _ (List.mem_append_left _ (List.mem_of_getElem? (i := 189) rfl)))
theorem fg_mc_5 : Jvm.Cond.code yX0_lookIn cX0_lookIn 4 (some .int) ∈ lw_tbl := List.mem_append_right _ (List.mem_append_right _ (List.mem_append_right _ (List.mem_append_left _ (List.mem_of_getElem? (i := 9) rfl))))
theorem fg_mc_6 : Jvm.Cond.code yX0_lineOf cX0_lineOf 3 (some .int) ∈ lw_tbl := List.mem_append_right _ (List.mem_append_right _ (List.mem_append_right _ (List.mem_append_left _ (List.mem_of_getElem? (i := 131) rfl))))
theorem fg_mc_7 : Jvm.Cond.code yX0_canBeSewn cX0_canBeSewn 2 (some .boolean) ∈ lw_tbl := List.mem_append_right _ (List.mem_append_right _ (List.mem_append_right _ (List.mem_append_left _ (List.mem_of_getElem? (i := 197) rfl))))
theorem fg_mc_8 : Jvm.Cond.code yX0_mend cX0_mend 2 none ∈ lw_tbl := List.mem_append_right _ (List.mem_append_right _ (List.mem_append_right _ (List.mem_append_left _ (List.mem_of_getElem? (i := 201) rfl))))
theorem fg_mc_9 : Jvm.Cond.code yX0_raise cX0_raise 7 (some .int) ∈ lw_tbl := List.mem_append_right _ (List.mem_append_right _ (List.mem_append_right _ (List.mem_append_left _ (List.mem_of_getElem? (i := 167) rfl))))
theorem fg_mc_10 : Jvm.Cond.code yX0_lower cX0_lower 5 (some .int) ∈ lw_tbl := List.mem_append_right _ (List.mem_append_right _ (List.mem_append_right _ (List.mem_append_left _ (List.mem_of_getElem? (i := 175) rfl))))
theorem fg_mc_11 : Jvm.Cond.code yX0_emptyLine cX0_emptyLine 3 none ∈ lw_tbl := List.mem_append_right _ (List.mem_append_right _ (List.mem_append_left _ (List.mem_of_getElem? (i := 43) rfl)))
theorem fg_mc_12 : Jvm.Cond.code yX0_passDay cX0_passDay 3 none ∈ lw_tbl := List.mem_append_right _ (List.mem_append_right _ (List.mem_append_right _ (List.mem_append_left _ (List.mem_of_getElem? (i := 188) rfl))))
theorem fg_mc_13 : Jvm.Cond.code yX2_open cX2_open 3 none ∈ lw_tbl := List.mem_append_right _ (List.mem_append_right _ (List.mem_append_left _ (List.mem_of_getElem? (i := 197) rfl)))
theorem fg_mc_14 : Jvm.Cond.code yX2_take cX2_take 7 (some .boolean) ∈ lw_tbl := List.mem_append_right _ (List.mem_append_right _ (List.mem_append_left _ (List.mem_of_getElem? (i := 201) rfl)))
theorem fg_mc_15 : Jvm.Cond.code yX2_pieceFor cX2_pieceFor 6 (some .int) ∈ lw_tbl := List.mem_append_right _ (List.mem_append_right _ (List.mem_append_left _ (List.mem_of_getElem? (i := 213) rfl)))
theorem fg_mc_16 : Jvm.Cond.code yX2_emptyRow cX2_emptyRow 2 none ∈ lw_tbl := List.mem_append_right _ (List.mem_append_right _ (List.mem_append_left _ (List.mem_of_getElem? (i := 205) rfl)))
theorem fg_mc_17 : Jvm.Cond.code yX3_addRead cX3_addRead 3 (some .boolean) ∈ lw_tbl := List.mem_append_right _ (List.mem_append_right _ (List.mem_append_right _ (List.mem_append_right _ (List.mem_append_left _ (List.mem_of_getElem? (i := 47) rfl)))))
theorem fg_mc_18 : Jvm.Cond.code yX3_addEntry cX3_addEntry 3 (some .boolean) ∈ lw_tbl := List.mem_append_right _ (List.mem_append_right _ (List.mem_append_right _ (List.mem_append_right _ (List.mem_append_left _ (List.mem_of_getElem? (i := 55) rfl)))))
theorem fg_mc_19 : Jvm.Cond.code yX3_wipe cX3_wipe 1 none ∈ lw_tbl := List.mem_append_right _ (List.mem_append_right _ (List.mem_append_left _ (List.mem_of_getElem? (i := 165) rfl)))
theorem fg_mc_20 : Jvm.Cond.code yX3_fits cX3_fits 4 (some .boolean) ∈ lw_tbl := List.mem_append_right _ (List.mem_append_right _ (List.mem_append_right _ (List.mem_append_left _ (List.mem_of_getElem? (i := 89) rfl))))
theorem fg_mc_21 : Jvm.Cond.code yX3_firstFalse cX3_firstFalse 4 (some .int) ∈ lw_tbl := List.mem_append_right _ (List.mem_append_right _ (List.mem_append_right _ (List.mem_append_right _ (List.mem_append_left _ (List.mem_of_getElem? (i := 67) rfl)))))
theorem fg_mc_22 : Jvm.Cond.code yX4_remember cX4_remember 2 none ∈ lw_tbl := List.mem_append_right _ (List.mem_append_right _ (List.mem_append_right _ (List.mem_append_left _ (List.mem_of_getElem? (i := 156) rfl))))
theorem fg_mc_23 : Jvm.Cond.code yX4_giveBack cX4_giveBack 2 none ∈ lw_tbl := List.mem_append_right _ (List.mem_append_right _ (List.mem_append_right _ (List.mem_append_right _ (List.mem_append_left _ (List.mem_of_getElem? (i := 1) rfl)))))
theorem fg_mc_24 : Jvm.Cond.code yX4_forget cX4_forget 1 none ∈ lw_tbl := List.mem_append_right _ (List.mem_append_right _ (List.mem_append_left _ (List.mem_of_getElem? (i := 161) rfl)))
theorem fg_mc_25 : Jvm.Cond.code yX5_largestGroup cX5_largestGroup 3 (some .int) ∈ lw_tbl := List.mem_append_right _ (List.mem_append_right _ (List.mem_append_right _ (List.mem_append_left _ (List.mem_of_getElem? (i := 61) rfl))))
theorem fg_mc_26 : Jvm.Cond.code yX5_plan cX5_plan 3 none ∈ lw_tbl := List.mem_append_right _ (List.mem_append_right _ (List.mem_append_right _ (List.mem_append_right _ (List.mem_append_left _ (List.mem_of_getElem? (i := 22) rfl)))))
theorem fg_mc_27 : Jvm.Cond.code yX5_fewestOf cX5_fewestOf 6 (some .int) ∈ lw_tbl := List.mem_append_right _ (List.mem_append_right _ (List.mem_append_right _ (List.mem_append_right _ (List.mem_append_left _ (List.mem_of_getElem? (i := 26) rfl)))))
theorem fg_mc_28 : Jvm.Cond.code yX5_firstGroup cX5_firstGroup 3 (some .int) ∈ lw_tbl := List.mem_append_right _ (List.mem_append_right _ (List.mem_append_right _ (List.mem_append_right _ (List.mem_append_left _ (List.mem_of_getElem? (i := 33) rfl)))))
theorem fg_mc_29 : Jvm.Cond.code yX6_strike cX6_strike 1 none ∈ lw_tbl := List.mem_append_right _ (List.mem_append_right _ (List.mem_append_left _ (List.mem_of_getElem? (i := 109) rfl)))
theorem fg_mc_30 : Jvm.Cond.code yX6_stands cX6_stands 1 (some .boolean) ∈ lw_tbl := List.mem_append_right _ (List.mem_append_right _ (List.mem_append_left _ (List.mem_of_getElem? (i := 47) rfl)))
theorem fg_mc_31 : Jvm.Cond.code yX6_hasLine cX6_hasLine 2 (some .boolean) ∈ lw_tbl := List.mem_append_right _ (List.mem_append_right _ (List.mem_append_right _ (List.mem_append_left _ (List.mem_of_getElem? (i := 139) rfl))))
theorem fg_mc_32 : Jvm.Cond.code yX6_hasFlag cX6_hasFlag 2 (some .boolean) ∈ lw_tbl := List.mem_append_right _ (List.mem_append_right _ (List.mem_append_right _ (List.mem_append_left _ (List.mem_of_getElem? (i := 119) rfl))))
theorem fg_mc_33 : Jvm.Cond.code yX6_hasSignal cX6_hasSignal 2 (some .boolean) ∈ lw_tbl := List.mem_append_right _ (List.mem_append_right _ (List.mem_append_left _ (List.mem_of_getElem? (i := 209) rfl)))
theorem fg_mc_34 : Jvm.Cond.code yX6_hasAll cX6_hasAll 2 (some .boolean) ∈ lw_tbl := List.mem_append_right _ (List.mem_append_right _ (List.mem_append_right _ (List.mem_append_right _ (List.mem_append_left _ (List.mem_of_getElem? (i := 13) rfl)))))
theorem fg_mc_35 : Jvm.Cond.code yX6_allSignals cX6_allSignals 1 (some .int) ∈ lw_tbl := List.mem_append_right _ (List.mem_append_right _ (List.mem_append_right _ (List.mem_append_left _ (List.mem_of_getElem? (i := 46) rfl))))
theorem fg_mc_36 : Jvm.Cond.code yX6_allFlags cX6_allFlags 1 (some .int) ∈ lw_tbl := List.mem_append_right _ (List.mem_append_right _ (List.mem_append_left _ (List.mem_of_getElem? (i := 181) rfl)))
theorem fg_mc_37 : Jvm.Cond.code yX6_allSubstitutes cX6_allSubstitutes 1 (some .int) ∈ lw_tbl := List.mem_append_right _ (List.mem_append_right _ (List.mem_append_left _ (List.mem_of_getElem? (i := 193) rfl)))
theorem fg_mc_38 : Jvm.Cond.code yX6_addFlag cX6_addFlag 4 none ∈ lw_tbl := List.mem_append_right _ (List.mem_append_right _ (List.mem_append_left _ (List.mem_of_getElem? (i := 141) rfl)))
theorem fg_mc_39 : Jvm.Cond.code yX6_startSignal cX6_startSignal 2 none ∈ lw_tbl := List.mem_append_right _ (List.mem_append_right _ (List.mem_append_left _ (List.mem_of_getElem? (i := 149) rfl)))
theorem fg_mc_40 : Jvm.Cond.code yX6_addToSignal cX6_addToSignal 2 none ∈ lw_tbl := List.mem_append_right _ (List.mem_append_right _ (List.mem_append_left _ (List.mem_of_getElem? (i := 153) rfl)))
theorem fg_mc_41 : Jvm.Cond.code yX6_endSignal cX6_endSignal 1 none ∈ lw_tbl := List.mem_append_right _ (List.mem_append_right _ (List.mem_append_left _ (List.mem_of_getElem? (i := 157) rfl)))
theorem fg_mc_42 : Jvm.Cond.code yX6_flagAt cX6_flagAt 4 (some .int) ∈ lw_tbl := List.mem_append_right _ (List.mem_append_right _ (List.mem_append_left _ (List.mem_of_getElem? (i := 217) rfl)))
theorem fg_mc_43 : Jvm.Cond.code yX6_signalsWith cX6_signalsWith 5 (some .int) ∈ lw_tbl := List.mem_append_right _ (List.mem_append_right _ (List.mem_append_right _ (List.mem_append_left _ (List.mem_of_getElem? (i := 70) rfl))))
theorem fg_mc_44 : Jvm.Cond.code yX7_append cX7_append 2 (some .boolean) ∈ lw_tbl := List.mem_append_right _ (List.mem_append_right _ (List.mem_append_left _ (List.mem_of_getElem? (i := 96) rfl)))
theorem fg_mc_45 : Jvm.Cond.code yX7_parseInto cX7_parseInto 3 (some .int) ∈ lw_tbl := List.mem_append_right _ (List.mem_append_right _ (List.mem_append_left _ (List.mem_of_getElem? (i := 105) rfl)))
theorem fg_mc_46 : Jvm.Cond.code yX7_nextLetter cX7_nextLetter 1 (some .int) ∈ lw_tbl := List.mem_append_right _ (List.mem_append_right _ (List.mem_append_left _ (List.mem_of_getElem? (i := 113) rfl)))
theorem fg_mc_47 : Jvm.Cond.code yX7_blame cX7_blame 3 none ∈ lw_tbl := List.mem_append_right _ (List.mem_append_right _ (List.mem_append_left _ (List.mem_of_getElem? (i := 125) rfl)))
theorem fg_mc_48 : Jvm.Cond.code yX7_parseLines cX7_parseLines 4 none ∈ lw_tbl := List.mem_append_right _ (List.mem_append_right _ (List.mem_append_left _ (List.mem_of_getElem? (i := 117) rfl)))
theorem fg_mc_49 : Jvm.Cond.code yX7_parseClause cX7_parseClause 3 none ∈ lw_tbl := List.mem_append_right _ (List.mem_append_right _ (List.mem_append_left _ (List.mem_of_getElem? (i := 133) rfl)))
theorem fg_mc_50 : Jvm.Cond.code yX7_parseFlag cX7_parseFlag 5 none ∈ lw_tbl := List.mem_append_right _ (List.mem_append_right _ (List.mem_append_left _ (List.mem_of_getElem? (i := 137) rfl)))
theorem fg_mc_51 : Jvm.Cond.code yX7_parseSignal cX7_parseSignal 3 none ∈ lw_tbl := List.mem_append_right _ (List.mem_append_right _ (List.mem_append_left _ (List.mem_of_getElem? (i := 145) rfl)))
theorem fg_mc_52 : Jvm.Cond.code yX7_pass cX7_pass 2 none ∈ lw_tbl := List.mem_append_right _ (List.mem_append_right _ (List.mem_append_left _ (List.mem_of_getElem? (i := 121) rfl)))
theorem fg_mc_53 : Jvm.Cond.code yX7_parseNumber cX7_parseNumber 5 (some .int) ∈ lw_tbl := List.mem_append_right _ (List.mem_append_right _ (List.mem_append_left _ (List.mem_of_getElem? (i := 129) rfl)))
theorem fg_mc_54 : Jvm.Cond.code yX8_raiseAll cX8_raiseAll 6 none ∈ lw_tbl := List.mem_append_right _ (List.mem_append_right _ (List.mem_append_left _ (List.mem_of_getElem? (i := 237) rfl)))
theorem fg_mc_55 : Jvm.Cond.code yX8_see cX8_see 5 none ∈ lw_tbl := List.mem_append_right _ (List.mem_append_right _ (List.mem_append_right _ (List.mem_append_left _ (List.mem_of_getElem? (i := 5) rfl))))
theorem fg_mc_56 : Jvm.Cond.code yX8_sign cX8_sign 6 none ∈ lw_tbl := List.mem_append_right _ (List.mem_append_right _ (List.mem_append_right _ (List.mem_append_left _ (List.mem_of_getElem? (i := 19) rfl))))
theorem fg_mc_57 : Jvm.Cond.code yX8_lookOfPiece cX8_lookOfPiece 2 (some .int) ∈ lw_tbl := List.mem_append_right _ (List.mem_append_right _ (List.mem_append_right _ (List.mem_append_left _ (List.mem_of_getElem? (i := 24) rfl))))
theorem fg_mc_58 : Jvm.Cond.code yX8_likeOf cX8_likeOf 5 (some .int) ∈ lw_tbl := List.mem_append_right _ (List.mem_append_right _ (List.mem_append_right _ (List.mem_append_left _ (List.mem_of_getElem? (i := 93) rfl))))
theorem fg_mc_59 : Jvm.Cond.code yX8_clearOnes cX8_clearOnes 5 (some .int) ∈ lw_tbl := List.mem_append_right _ (List.mem_append_right _ (List.mem_append_right _ (List.mem_append_left _ (List.mem_of_getElem? (i := 28) rfl))))
theorem fg_mc_60 : Jvm.Cond.code yX9_feed cX9_feed 2 (some .int) ∈ lw_tbl := List.mem_append_right _ (List.mem_append_right _ (List.mem_append_left _ (List.mem_of_getElem? (i := 91) rfl)))
theorem fg_mc_61 : Jvm.Cond.code yX9_ship cX9_ship 4 (some .int) ∈ lw_tbl := List.mem_append_right _ (List.mem_append_right _ (List.mem_append_left _ (List.mem_of_getElem? (i := 101) rfl)))
theorem fg_mc_62 : Jvm.Cond.code yX9_fault cX9_fault 1 (some .int) ∈ lw_tbl := List.mem_append_right _ (List.mem_append_right _ (List.mem_append_left _ (List.mem_of_getElem? (i := 169) rfl)))
theorem fg_mc_63 : Jvm.Cond.code yX9_told cX9_told 2 (some .int) ∈ lw_tbl := List.mem_append_right _ (List.mem_append_right _ (List.mem_append_left _ (List.mem_of_getElem? (i := 173) rfl)))
theorem fg_mc_64 : Jvm.Cond.code yX9_flag cX9_flag 3 (some .int) ∈ lw_tbl := List.mem_append_right _ (List.mem_append_right _ (List.mem_append_right _ (List.mem_append_left _ (List.mem_of_getElem? (i := 115) rfl))))
theorem fg_mc_65 : Jvm.Cond.code yX9_signal cX9_signal 3 (some .int) ∈ lw_tbl := List.mem_append_right _ (List.mem_append_right _ (List.mem_append_right _ (List.mem_append_left _ (List.mem_of_getElem? (i := 125) rfl))))
theorem fg_mc_66 : Jvm.Cond.code yX9_line cX9_line 3 (some .int) ∈ lw_tbl := List.mem_append_right _ (List.mem_append_right _ (List.mem_append_right _ (List.mem_append_left _ (List.mem_of_getElem? (i := 135) rfl))))
theorem fg_mc_67 : Jvm.Cond.code yX9_needs cX9_needs 3 (some .int) ∈ lw_tbl := List.mem_append_right _ (List.mem_append_right _ (List.mem_append_right _ (List.mem_append_left _ (List.mem_of_getElem? (i := 143) rfl))))
theorem fg_mc_68 : Jvm.Cond.code yX9_hoist cX9_hoist 3 (some .int) ∈ lw_tbl := List.mem_append_right _ (List.mem_append_right _ (List.mem_append_right _ (List.mem_append_left _ (List.mem_of_getElem? (i := 147) rfl))))
theorem fg_mc_69 : Jvm.Cond.code yX9_haul cX9_haul 2 (some .int) ∈ lw_tbl := List.mem_append_right _ (List.mem_append_right _ (List.mem_append_right _ (List.mem_append_left _ (List.mem_of_getElem? (i := 171) rfl))))
theorem fg_mc_70 : Jvm.Cond.code yX9_day cX9_day 4 (some .int) ∈ lw_tbl := List.mem_append_right _ (List.mem_append_right _ (List.mem_append_right _ (List.mem_append_left _ (List.mem_of_getElem? (i := 179) rfl))))
theorem fg_mc_71 : Jvm.Cond.code yX9_sew cX9_sew 3 (some .int) ∈ lw_tbl := List.mem_append_right _ (List.mem_append_right _ (List.mem_append_right _ (List.mem_append_left _ (List.mem_of_getElem? (i := 193) rfl))))
theorem fg_mc_72 : Jvm.Cond.code yX9_anew cX9_anew 5 (some .int) ∈ lw_tbl := List.mem_append_right _ (List.mem_append_right _ (List.mem_append_right _ (List.mem_append_left _ (List.mem_of_getElem? (i := 205) rfl))))
theorem fg_mc_73 : Jvm.Cond.code yX9_weather cX9_weather 4 (some .int) ∈ lw_tbl := List.mem_append_right _ (List.mem_append_right _ (List.mem_append_right _ (List.mem_append_left _ (List.mem_of_getElem? (i := 209) rfl))))
theorem fg_mc_74 : Jvm.Cond.code yX9_drift cX9_drift 4 (some .int) ∈ lw_tbl := List.mem_append_right _ (List.mem_append_right _ (List.mem_append_right _ (List.mem_append_left _ (List.mem_of_getElem? (i := 213) rfl))))
theorem fg_mc_75 : Jvm.Cond.code yX9_undo cX9_undo 1 (some .int) ∈ lw_tbl := List.mem_append_right _ (List.mem_append_right _ (List.mem_append_right _ (List.mem_append_left _ (List.mem_of_getElem? (i := 237) rfl))))
theorem fg_mc_76 : Jvm.Cond.code yX9_look cX9_look 4 (some .int) ∈ lw_tbl := List.mem_append_right _ (List.mem_append_right _ (List.mem_append_right _ (List.mem_append_right _ (List.mem_append_left _ (List.mem_of_getElem? (i := 5) rfl)))))
theorem fg_mc_77 : Jvm.Cond.code yX9_together cX9_together 2 (some .int) ∈ lw_tbl := List.mem_append_right _ (List.mem_append_right _ (List.mem_append_right _ (List.mem_append_right _ (List.mem_append_left _ (List.mem_of_getElem? (i := 9) rfl)))))
theorem fg_mc_78 : Jvm.Cond.code yX9_turns cX9_turns 3 (some .int) ∈ lw_tbl := List.mem_append_right _ (List.mem_append_right _ (List.mem_append_right _ (List.mem_append_right _ (List.mem_append_left _ (List.mem_of_getElem? (i := 18) rfl)))))
theorem fg_mc_79 : Jvm.Cond.code yX9_clear cX9_clear 6 (some .int) ∈ lw_tbl := List.mem_append_right _ (List.mem_append_right _ (List.mem_append_right _ (List.mem_append_right _ (List.mem_append_left _ (List.mem_of_getElem? (i := 37) rfl)))))
theorem fg_mc_80 : Jvm.Cond.code yX9_read cX9_read 3 (some .int) ∈ lw_tbl := List.mem_append_right _ (List.mem_append_right _ (List.mem_append_right _ (List.mem_append_right _ (List.mem_append_left _ (List.mem_of_getElem? (i := 43) rfl)))))
theorem fg_mc_81 : Jvm.Cond.code yX9_write cX9_write 3 (some .int) ∈ lw_tbl := List.mem_append_right _ (List.mem_append_right _ (List.mem_append_right _ (List.mem_append_right _ (List.mem_append_left _ (List.mem_of_getElem? (i := 51) rfl)))))
theorem fg_mc_82 : Jvm.Cond.code yX9_tear cX9_tear 2 (some .int) ∈ lw_tbl := List.mem_append_right _ (List.mem_append_right _ (List.mem_append_right _ (List.mem_append_right _ (List.mem_append_left _ (List.mem_of_getElem? (i := 59) rfl)))))
theorem fg_mc_83 : Jvm.Cond.code yX9_judge cX9_judge 1 (some .int) ∈ lw_tbl := List.mem_append_right _ (List.mem_append_right _ (List.mem_append_right _ (List.mem_append_right _ (List.mem_append_left _ (List.mem_of_getElem? (i := 63) rfl)))))
theorem fg_mc_84 : Jvm.Cond.code yX9_seed cX9_seed 3 (some .int) ∈ lw_tbl := List.mem_append_right _ (List.mem_append_right _ (List.mem_append_right _ (List.mem_append_right _ (List.mem_append_left _ (List.mem_of_getElem? (i := 71) rfl)))))
theorem fg_mc_85 : Jvm.Cond.code yX9_keep cX9_keep 2 (some .int) ∈ lw_tbl := List.mem_append_right _ (List.mem_append_right _ (List.mem_append_right _ (List.mem_append_right _ (List.mem_append_left _ (List.mem_of_getElem? (i := 75) rfl)))))
theorem fg_mc_86 : Jvm.Cond.code yX9_goBack cX9_goBack 2 (some .int) ∈ lw_tbl := List.mem_append_right _ (List.mem_append_right _ (List.mem_append_right _ (List.mem_append_right _ (List.mem_append_left _ (List.mem_of_getElem? (i := 80) rfl)))))
theorem fg_mc_87 : Jvm.Cond.code yX9_has cX9_has 2 (some .boolean) ∈ lw_tbl := List.mem_append_right _ (List.mem_append_right _ (List.mem_append_left _ (List.mem_of_getElem? (i := 220) rfl)))
theorem fg_mc_88 : Jvm.Cond.code yX9_canHoist cX9_canHoist 3 (some .boolean) ∈ lw_tbl := List.mem_append_right _ (List.mem_append_right _ (List.mem_append_right _ (List.mem_append_left _ (List.mem_of_getElem? (i := 151) rfl))))
theorem fg_mc_89 : Jvm.Cond.code yX9_refusedDays cX9_refusedDays 2 (some .int) ∈ lw_tbl := List.mem_append_right _ (List.mem_append_right _ (List.mem_append_right _ (List.mem_append_left _ (List.mem_of_getElem? (i := 183) rfl))))
theorem fg_mc_90 : Jvm.Cond.code yX9_draw cX9_draw 2 (some .int) ∈ lw_tbl := List.mem_append_right _ (List.mem_append_right _ (List.mem_append_right _ (List.mem_append_left _ (List.mem_of_getElem? (i := 221) rfl))))
theorem fg_mc_91 : Jvm.Cond.code yX9_actByDraws cX9_actByDraws 3 none ∈ lw_tbl := List.mem_append_right _ (List.mem_append_right _ (List.mem_append_right _ (List.mem_append_left _ (List.mem_of_getElem? (i := 217) rfl))))
theorem fg_mc_92 : Jvm.Cond.code yX9_hoistDrawn cX9_hoistDrawn 3 none ∈ lw_tbl := List.mem_append_right _ (List.mem_append_right _ (List.mem_append_right _ (List.mem_append_left _ (List.mem_of_getElem? (i := 229) rfl))))
theorem fg_mc_93 : Jvm.Cond.code yX9_sewDrawn cX9_sewDrawn 2 none ∈ lw_tbl := List.mem_append_right _ (List.mem_append_right _ (List.mem_append_right _ (List.mem_append_left _ (List.mem_of_getElem? (i := 233) rfl))))
theorem fg_mc_94 : Jvm.Cond.code yX9_readySignals cX9_readySignals 3 (some .int) ∈ lw_tbl := List.mem_append_right _ (List.mem_append_right _ (List.mem_append_left _ (List.mem_of_getElem? (i := 185) rfl)))
theorem fg_mc_95 : Jvm.Cond.code yX9_watchIn cX9_watchIn 2 none ∈ lw_tbl := List.mem_append_right _ (List.mem_append_right _ (List.mem_append_left _ (List.mem_of_getElem? (i := 233) rfl)))
theorem fg_mc_96 : Jvm.Cond.code yX9_clearNow cX9_clearNow 1 (some .int) ∈ lw_tbl := List.mem_append_right _ (List.mem_append_right _ (List.mem_append_left _ (List.mem_of_getElem? (i := 225) rfl)))
theorem fg_mc_97 : Jvm.Cond.code yX9_clearest cX9_clearest 5 (some .int) ∈ lw_tbl := List.mem_append_right _ (List.mem_append_right _ (List.mem_append_right _ (List.mem_append_left _ (List.mem_of_getElem? (i := 32) rfl))))
theorem fg_mc_98 : Jvm.Cond.code yX9_flyTogether cX9_flyTogether 3 (some .boolean) ∈ lw_tbl := List.mem_append_right _ (List.mem_append_right _ (List.mem_append_right _ (List.mem_append_left _ (List.mem_of_getElem? (i := 54) rfl))))
theorem fg_mc_99 : Jvm.Cond.code yX9_groupWithin cX9_groupWithin 3 none ∈ lw_tbl := List.mem_append_right _ (List.mem_append_right _ (List.mem_append_right _ (List.mem_append_left _ (List.mem_of_getElem? (i := 50) rfl))))
theorem fg_mc_100 : Jvm.Cond.code yX9_mostTogether cX9_mostTogether 1 (some .int) ∈ lw_tbl := List.mem_append_right _ (List.mem_append_right _ (List.mem_append_right _ (List.mem_append_left _ (List.mem_of_getElem? (i := 42) rfl))))
theorem fg_mc_101 : Jvm.Cond.code yX9_neededFlag cX9_neededFlag 5 (some .int) ∈ lw_tbl := List.mem_append_right _ (List.mem_append_right _ (List.mem_append_right _ (List.mem_append_left _ (List.mem_of_getElem? (i := 66) rfl))))
theorem fg_mc_102 : Jvm.Cond.code yX9_betterFlag cX9_betterFlag 7 (some .int) ∈ lw_tbl := List.mem_append_right _ (List.mem_append_right _ (List.mem_append_right _ (List.mem_append_left _ (List.mem_of_getElem? (i := 75) rfl))))
theorem fg_mc_103 : Jvm.Cond.code yX9_countClearWith cX9_countClearWith 4 (some .int) ∈ lw_tbl := List.mem_append_right _ (List.mem_append_right _ (List.mem_append_right _ (List.mem_append_left _ (List.mem_of_getElem? (i := 79) rfl))))
theorem fg_mc_104 : Jvm.Cond.code yX9_possibleWeathers cX9_possibleWeathers 3 (some .int) ∈ lw_tbl := List.mem_append_right _ (List.mem_append_right _ (List.mem_append_right _ (List.mem_append_left _ (List.mem_of_getElem? (i := 85) rfl))))
theorem fg_mc_105 : Jvm.Cond.code yX9_askedSignal cX9_askedSignal 6 (some .int) ∈ lw_tbl := List.mem_append_right _ (List.mem_append_right _ (List.mem_append_right _ (List.mem_append_left _ (List.mem_of_getElem? (i := 99) rfl))))
theorem fg_mc_106 : Jvm.Cond.code yX9_fillLikes cX9_fillLikes 3 none ∈ lw_tbl := List.mem_append_right _ (List.mem_append_right _ (List.mem_append_right _ (List.mem_append_left _ (List.mem_of_getElem? (i := 103) rfl))))
theorem fg_mc_107 : Jvm.Cond.code yX9_greatestPart cX9_greatestPart 7 (some .int) ∈ lw_tbl := List.mem_append_right _ (List.mem_append_right _ (List.mem_append_right _ (List.mem_append_left _ (List.mem_of_getElem? (i := 108) rfl))))
theorem fg_mc_108 : Jvm.Cond.code yX9_seenPattern cX9_seenPattern 8 (some .int) ∈ lw_tbl := List.mem_append_right _ (List.mem_append_right _ (List.mem_append_right _ (List.mem_append_left _ (List.mem_of_getElem? (i := 12) rfl))))
theorem fg_mc_109 : Jvm.Cond.code yX9_seenColour cX9_seenColour 2 (some .int) ∈ lw_tbl := List.mem_append_right _ (List.mem_append_right _ (List.mem_append_right _ (List.mem_append_left _ (List.mem_of_getElem? (i := 15) rfl))))
theorem fg_mc_110 : Jvm.Cond.code yX10_in cX10_in 6 (some .boolean) ∈ lw_tbl := List.mem_append_right _ (List.mem_append_right _ (List.mem_append_right _ (List.mem_append_right _ (List.mem_append_left _ (List.mem_of_getElem? (i := 206) rfl)))))
theorem fg_mc_111 : Jvm.Cond.code yX10_has cX10_has 2 (some .boolean) ∈ lw_tbl := List.mem_append_right _ (List.mem_append_right _ (List.mem_append_right _ (List.mem_append_right _ (List.mem_append_right _ (List.mem_append_left _ (List.mem_of_getElem? (i := 43) rfl))))))
theorem fg_mc_112 : Jvm.Cond.code yX10_bits cX10_bits 3 (some .int) ∈ lw_tbl := List.mem_append_right _ (List.mem_append_right _ (List.mem_append_right _ (List.mem_append_right _ (List.mem_append_right _ (List.mem_append_left _ (List.mem_of_getElem? (i := 40) rfl))))))
theorem fg_mc_113 : Jvm.Cond.code yX10_isLine cX10_isLine 2 (some .boolean) ∈ lw_tbl := List.mem_append_right _ (List.mem_append_right _ (List.mem_append_right _ (List.mem_append_right _ (List.mem_append_right _ (List.mem_append_left _ (List.mem_of_getElem? (i := 184) rfl))))))
theorem fg_mc_114 : Jvm.Cond.code yX10_isFlag cX10_isFlag 2 (some .boolean) ∈ lw_tbl := List.mem_append_right _ (List.mem_append_right _ (List.mem_append_right _ (List.mem_append_right _ (List.mem_append_right _ (List.mem_append_left _ (List.mem_of_getElem? (i := 158) rfl))))))
theorem fg_mc_115 : Jvm.Cond.code yX10_isSignal cX10_isSignal 2 (some .boolean) ∈ lw_tbl := List.mem_append_right _ (List.mem_append_right _ (List.mem_append_right _ (List.mem_append_right _ (List.mem_append_right _ (List.mem_append_left _ (List.mem_of_getElem? (i := 166) rfl))))))
theorem fg_mc_116 : Jvm.Cond.code yX10_feed cX10_feed 2 (some .int) ∈ lw_tbl := List.mem_append_right _ (List.mem_append_right _ (List.mem_append_right _ (List.mem_append_right _ (List.mem_append_left _ (List.mem_of_getElem? (i := 202) rfl)))))
theorem fg_mc_117 : Jvm.Cond.code yX10_here cX10_here 1 (some .int) ∈ lw_tbl := List.mem_append_right _ (List.mem_append_right _ (List.mem_append_right _ (List.mem_append_right _ (List.mem_append_left _ (List.mem_of_getElem? (i := 216) rfl)))))
theorem fg_mc_118 : Jvm.Cond.code yX10_fails cX10_fails 3 (some .int) ∈ lw_tbl := List.mem_append_right _ (List.mem_append_right _ (List.mem_append_right _ (List.mem_append_right _ (List.mem_append_left _ (List.mem_of_getElem? (i := 224) rfl)))))
theorem fg_mc_119 : Jvm.Cond.code yX10_takeNumber cX10_takeNumber 5 (some .int) ∈ lw_tbl := List.mem_append_right _ (List.mem_append_right _ (List.mem_append_right _ (List.mem_append_right _ (List.mem_append_left _ (List.mem_of_getElem? (i := 232) rfl)))))
theorem fg_mc_120 : Jvm.Cond.code yX10_takeLines cX10_takeLines 2 (some .int) ∈ lw_tbl := List.mem_append_right _ (List.mem_append_right _ (List.mem_append_right _ (List.mem_append_right _ (List.mem_append_left _ (List.mem_of_getElem? (i := 228) rfl)))))
theorem fg_mc_121 : Jvm.Cond.code yX10_takeFlag cX10_takeFlag 4 (some .int) ∈ lw_tbl := List.mem_append_right _ (List.mem_append_right _ (List.mem_append_right _ (List.mem_append_right _ (List.mem_append_left _ (List.mem_of_getElem? (i := 238) rfl)))))
theorem fg_mc_122 : Jvm.Cond.code yX10_takeSignal cX10_takeSignal 3 (some .int) ∈ lw_tbl := List.mem_append_right _ (List.mem_append_right _ (List.mem_append_right _ (List.mem_append_right _ (List.mem_append_right _ (List.mem_append_left _ (List.mem_of_getElem? (i := 2) rfl))))))
theorem fg_mc_123 : Jvm.Cond.code yX10_takeClause cX10_takeClause 5 (some .int) ∈ lw_tbl := List.mem_append_right _ (List.mem_append_right _ (List.mem_append_right _ (List.mem_append_right _ (List.mem_append_left _ (List.mem_of_getElem? (i := 220) rfl)))))
theorem fg_mc_124 : Jvm.Cond.code yX10_copyRow cX10_copyRow 4 none ∈ lw_tbl := List.mem_append_right _ (List.mem_append_right _ (List.mem_append_right _ (List.mem_append_right _ (List.mem_append_right _ (List.mem_append_left _ (List.mem_of_getElem? (i := 5) rfl))))))
theorem fg_mc_125 : Jvm.Cond.code yX10_beginAll cX10_beginAll 2 none ∈ lw_tbl := List.mem_append_right _ (List.mem_append_right _ (List.mem_append_right _ (List.mem_append_right _ (List.mem_append_right _ (List.mem_append_left _ (List.mem_of_getElem? (i := 9) rfl))))))
theorem fg_mc_126 : Jvm.Cond.code yX10_ship cX10_ship 2 (some .int) ∈ lw_tbl := List.mem_append_right _ (List.mem_append_right _ (List.mem_append_right _ (List.mem_append_right _ (List.mem_append_left _ (List.mem_of_getElem? (i := 212) rfl)))))
theorem fg_mc_127 : Jvm.Cond.code yX10_fault cX10_fault 1 (some .int) ∈ lw_tbl := List.mem_append_right _ (List.mem_append_right _ (List.mem_append_right _ (List.mem_append_right _ (List.mem_append_right _ (List.mem_append_left _ (List.mem_of_getElem? (i := 16) rfl))))))
theorem fg_mc_128 : Jvm.Cond.code yX10_freeFlags cX10_freeFlags 3 (some .int) ∈ lw_tbl := List.mem_append_right _ (List.mem_append_right _ (List.mem_append_right _ (List.mem_append_right _ (List.mem_append_right _ (List.mem_append_left _ (List.mem_of_getElem? (i := 80) rfl))))))
theorem fg_mc_129 : Jvm.Cond.code yX10_tornFlags cX10_tornFlags 3 (some .int) ∈ lw_tbl := List.mem_append_right _ (List.mem_append_right _ (List.mem_append_right _ (List.mem_append_right _ (List.mem_append_right _ (List.mem_append_left _ (List.mem_of_getElem? (i := 33) rfl))))))
theorem fg_mc_130 : Jvm.Cond.code yX10_freeSubs cX10_freeSubs 3 (some .int) ∈ lw_tbl := List.mem_append_right _ (List.mem_append_right _ (List.mem_append_right _ (List.mem_append_right _ (List.mem_append_right _ (List.mem_append_left _ (List.mem_of_getElem? (i := 88) rfl))))))
theorem fg_mc_131 : Jvm.Cond.code yX10_allSubs cX10_allSubs 3 (some .int) ∈ lw_tbl := List.mem_append_right _ (List.mem_append_right _ (List.mem_append_right _ (List.mem_append_right _ (List.mem_append_right _ (List.mem_append_left _ (List.mem_of_getElem? (i := 37) rfl))))))
theorem fg_mc_132 : Jvm.Cond.code yX10_isUsed cX10_isUsed 5 (some .boolean) ∈ lw_tbl := List.mem_append_right _ (List.mem_append_right _ (List.mem_append_right _ (List.mem_append_right _ (List.mem_append_right _ (List.mem_append_left _ (List.mem_of_getElem? (i := 55) rfl))))))
theorem fg_mc_133 : Jvm.Cond.code yX10_itemFor cX10_itemFor 7 (some .int) ∈ lw_tbl := List.mem_append_right _ (List.mem_append_right _ (List.mem_append_right _ (List.mem_append_right _ (List.mem_append_right _ (List.mem_append_left _ (List.mem_of_getElem? (i := 51) rfl))))))
theorem fg_mc_134 : Jvm.Cond.code yX10_goesUp cX10_goesUp 5 (some .boolean) ∈ lw_tbl := List.mem_append_right _ (List.mem_append_right _ (List.mem_append_right _ (List.mem_append_right _ (List.mem_append_right _ (List.mem_append_left _ (List.mem_of_getElem? (i := 47) rfl))))))
theorem fg_mc_135 : Jvm.Cond.code yX10_canGoUp cX10_canGoUp 3 (some .int) ∈ lw_tbl := List.mem_append_right _ (List.mem_append_right _ (List.mem_append_right _ (List.mem_append_right _ (List.mem_append_right _ (List.mem_append_left _ (List.mem_of_getElem? (i := 84) rfl))))))
theorem fg_mc_136 : Jvm.Cond.code yX10_seenColour cX10_seenColour 2 (some .int) ∈ lw_tbl := List.mem_append_right _ (List.mem_append_right _ (List.mem_append_right _ (List.mem_append_right _ (List.mem_append_right _ (List.mem_append_left _ (List.mem_of_getElem? (i := 106) rfl))))))
theorem fg_mc_137 : Jvm.Cond.code yX10_lookOf cX10_lookOf 7 (some .int) ∈ lw_tbl := List.mem_append_right _ (List.mem_append_right _ (List.mem_append_right _ (List.mem_append_right _ (List.mem_append_right _ (List.mem_append_left _ (List.mem_of_getElem? (i := 103) rfl))))))
theorem fg_mc_138 : Jvm.Cond.code yX10_layLooks cX10_layLooks 6 none ∈ lw_tbl := List.mem_append_right _ (List.mem_append_right _ (List.mem_append_right _ (List.mem_append_right _ (List.mem_append_right _ (List.mem_append_left _ (List.mem_of_getElem? (i := 100) rfl))))))
theorem fg_mc_139 : Jvm.Cond.code yX10_isLike cX10_isLike 5 (some .boolean) ∈ lw_tbl := List.mem_append_right _ (List.mem_append_right _ (List.mem_append_right _ (List.mem_append_right _ (List.mem_append_right _ (List.mem_append_left _ (List.mem_of_getElem? (i := 114) rfl))))))
theorem fg_mc_140 : Jvm.Cond.code yX10_likeOf cX10_likeOf 4 (some .int) ∈ lw_tbl := List.mem_append_right _ (List.mem_append_right _ (List.mem_append_right _ (List.mem_append_right _ (List.mem_append_right _ (List.mem_append_left _ (List.mem_of_getElem? (i := 110) rfl))))))
theorem fg_mc_141 : Jvm.Cond.code yX10_clearIn cX10_clearIn 5 (some .int) ∈ lw_tbl := List.mem_append_right _ (List.mem_append_right _ (List.mem_append_right _ (List.mem_append_right _ (List.mem_append_right _ (List.mem_append_left _ (List.mem_of_getElem? (i := 96) rfl))))))
theorem fg_mc_142 : Jvm.Cond.code yX10_clearNow cX10_clearNow 1 (some .int) ∈ lw_tbl := List.mem_append_right _ (List.mem_append_right _ (List.mem_append_right _ (List.mem_append_right _ (List.mem_append_right _ (List.mem_append_left _ (List.mem_of_getElem? (i := 92) rfl))))))
theorem fg_mc_143 : Jvm.Cond.code yX10_clearest cX10_clearest 5 (some .int) ∈ lw_tbl := List.mem_append_right _ (List.mem_append_right _ (List.mem_append_right _ (List.mem_append_right _ (List.mem_append_right _ (List.mem_append_left _ (List.mem_of_getElem? (i := 118) rfl))))))
theorem fg_mc_144 : Jvm.Cond.code yX10_isToldIn cX10_isToldIn 5 (some .boolean) ∈ lw_tbl := List.mem_append_right _ (List.mem_append_right _ (List.mem_append_right _ (List.mem_append_right _ (List.mem_append_right _ (List.mem_append_left _ (List.mem_of_getElem? (i := 130) rfl))))))
theorem fg_mc_145 : Jvm.Cond.code yX10_needed cX10_needed 6 (some .int) ∈ lw_tbl := List.mem_append_right _ (List.mem_append_right _ (List.mem_append_right _ (List.mem_append_right _ (List.mem_append_right _ (List.mem_append_left _ (List.mem_of_getElem? (i := 126) rfl))))))
theorem fg_mc_146 : Jvm.Cond.code yX10_better cX10_better 8 (some .int) ∈ lw_tbl := List.mem_append_right _ (List.mem_append_right _ (List.mem_append_right _ (List.mem_append_right _ (List.mem_append_right _ (List.mem_append_left _ (List.mem_of_getElem? (i := 134) rfl))))))
theorem fg_mc_147 : Jvm.Cond.code yX10_rowFlags cX10_rowFlags 3 (some .int) ∈ lw_tbl := List.mem_append_right _ (List.mem_append_right _ (List.mem_append_right _ (List.mem_append_right _ (List.mem_append_right _ (List.mem_append_left _ (List.mem_of_getElem? (i := 59) rfl))))))
theorem fg_mc_148 : Jvm.Cond.code yX10_rowSubs cX10_rowSubs 3 (some .int) ∈ lw_tbl := List.mem_append_right _ (List.mem_append_right _ (List.mem_append_right _ (List.mem_append_right _ (List.mem_append_right _ (List.mem_append_left _ (List.mem_of_getElem? (i := 63) rfl))))))
theorem fg_mc_149 : Jvm.Cond.code yX10_fly cX10_fly 6 (some .boolean) ∈ lw_tbl := List.mem_append_right _ (List.mem_append_right _ (List.mem_append_right _ (List.mem_append_right _ (List.mem_append_right _ (List.mem_append_left _ (List.mem_of_getElem? (i := 29) rfl))))))
theorem fg_mc_150 : Jvm.Cond.code yX10_mostTogether cX10_mostTogether 3 (some .int) ∈ lw_tbl := List.mem_append_right _ (List.mem_append_right _ (List.mem_append_right _ (List.mem_append_right _ (List.mem_append_right _ (List.mem_append_left _ (List.mem_of_getElem? (i := 122) rfl))))))
theorem fg_mc_151 : Jvm.Cond.code yX10_areSignals cX10_areSignals 2 (some .boolean) ∈ lw_tbl := List.mem_append_right _ (List.mem_append_right _ (List.mem_append_right _ (List.mem_append_right _ (List.mem_append_right _ (List.mem_append_left _ (List.mem_of_getElem? (i := 24) rfl))))))
theorem fg_mc_152 : Jvm.Cond.code yX10_together cX10_together 2 (some .int) ∈ lw_tbl := List.mem_append_right _ (List.mem_append_right _ (List.mem_append_right _ (List.mem_append_right _ (List.mem_append_right _ (List.mem_append_left _ (List.mem_of_getElem? (i := 20) rfl))))))
theorem fg_mc_153 : Jvm.Cond.code yX10_findTurns cX10_findTurns 6 none ∈ lw_tbl := List.mem_append_right _ (List.mem_append_right _ (List.mem_append_right _ (List.mem_append_right _ (List.mem_append_right _ (List.mem_append_left _ (List.mem_of_getElem? (i := 71) rfl))))))
theorem fg_mc_154 : Jvm.Cond.code yX10_turns cX10_turns 5 (some .int) ∈ lw_tbl := List.mem_append_right _ (List.mem_append_right _ (List.mem_append_right _ (List.mem_append_right _ (List.mem_append_right _ (List.mem_append_left _ (List.mem_of_getElem? (i := 67) rfl))))))
theorem fg_mc_155 : Jvm.Cond.code yX10_weathers cX10_weathers 5 (some .int) ∈ lw_tbl := List.mem_append_right _ (List.mem_append_right _ (List.mem_append_right _ (List.mem_append_right _ (List.mem_append_right _ (List.mem_append_left _ (List.mem_of_getElem? (i := 138) rfl))))))
theorem fg_mc_156 : Jvm.Cond.code yX10_layLikes cX10_layLikes 3 none ∈ lw_tbl := List.mem_append_right _ (List.mem_append_right _ (List.mem_append_right _ (List.mem_append_right _ (List.mem_append_right _ (List.mem_append_left _ (List.mem_of_getElem? (i := 146) rfl))))))
theorem fg_mc_157 : Jvm.Cond.code yX10_greatestPart cX10_greatestPart 7 (some .int) ∈ lw_tbl := List.mem_append_right _ (List.mem_append_right _ (List.mem_append_right _ (List.mem_append_right _ (List.mem_append_right _ (List.mem_append_left _ (List.mem_of_getElem? (i := 150) rfl))))))
theorem fg_mc_158 : Jvm.Cond.code yX10_askNext cX10_askNext 6 (some .int) ∈ lw_tbl := List.mem_append_right _ (List.mem_append_right _ (List.mem_append_right _ (List.mem_append_right _ (List.mem_append_right _ (List.mem_append_left _ (List.mem_of_getElem? (i := 142) rfl))))))
theorem fg_mc_159 : Jvm.Cond.code yX10_told cX10_told 2 (some .int) ∈ lw_tbl := List.mem_append_right _ (List.mem_append_right _ (List.mem_append_right _ (List.mem_append_right _ (List.mem_append_right _ (List.mem_append_left _ (List.mem_of_getElem? (i := 76) rfl))))))
theorem fg_mc_160 : Jvm.Cond.code yX10_flag cX10_flag 3 (some .int) ∈ lw_tbl := List.mem_append_right _ (List.mem_append_right _ (List.mem_append_right _ (List.mem_append_right _ (List.mem_append_right _ (List.mem_append_left _ (List.mem_of_getElem? (i := 154) rfl))))))
theorem fg_mc_161 : Jvm.Cond.code yX10_lineOf cX10_lineOf 4 (some .int) ∈ lw_tbl := List.mem_append_right _ (List.mem_append_right _ (List.mem_append_right _ (List.mem_append_right _ (List.mem_append_right _ (List.mem_append_left _ (List.mem_of_getElem? (i := 176) rfl))))))
theorem fg_mc_162 : Jvm.Cond.code yX10_likeNow cX10_likeNow 2 (some .int) ∈ lw_tbl := List.mem_append_right _ (List.mem_append_right _ (List.mem_append_right _ (List.mem_append_right _ (List.mem_append_right _ (List.mem_append_left _ (List.mem_of_getElem? (i := 172) rfl))))))
theorem fg_mc_163 : Jvm.Cond.code yX10_signal cX10_signal 3 (some .int) ∈ lw_tbl := List.mem_append_right _ (List.mem_append_right _ (List.mem_append_right _ (List.mem_append_right _ (List.mem_append_right _ (List.mem_append_left _ (List.mem_of_getElem? (i := 162) rfl))))))
theorem fg_mc_164 : Jvm.Cond.code yX10_line cX10_line 3 (some .int) ∈ lw_tbl := List.mem_append_right _ (List.mem_append_right _ (List.mem_append_right _ (List.mem_append_right _ (List.mem_append_right _ (List.mem_append_left _ (List.mem_of_getElem? (i := 180) rfl))))))
theorem fg_mc_165 : Jvm.Cond.code yX10_needs cX10_needs 3 (some .int) ∈ lw_tbl := List.mem_append_right _ (List.mem_append_right _ (List.mem_append_right _ (List.mem_append_right _ (List.mem_append_right _ (List.mem_append_left _ (List.mem_of_getElem? (i := 188) rfl))))))
theorem fg_mc_166 : Jvm.Cond.code yX10_remember cX10_remember 2 none ∈ lw_tbl := List.mem_append_right _ (List.mem_append_right _ (List.mem_append_right _ (List.mem_append_right _ (List.mem_append_right _ (List.mem_append_left _ (List.mem_of_getElem? (i := 201) rfl))))))
theorem fg_mc_167 : Jvm.Cond.code yX10_canHoist cX10_canHoist 3 (some .boolean) ∈ lw_tbl := List.mem_append_right _ (List.mem_append_right _ (List.mem_append_right _ (List.mem_append_right _ (List.mem_append_right _ (List.mem_append_left _ (List.mem_of_getElem? (i := 196) rfl))))))
theorem fg_mc_168 : Jvm.Cond.code yX10_hoistRow cX10_hoistRow 5 (some .int) ∈ lw_tbl := List.mem_append_right _ (List.mem_append_right _ (List.mem_append_right _ (List.mem_append_right _ (List.mem_append_right _ (List.mem_append_left _ (List.mem_of_getElem? (i := 205) rfl))))))
theorem fg_mc_169 : Jvm.Cond.code yX10_hoist cX10_hoist 3 (some .int) ∈ lw_tbl := List.mem_append_right _ (List.mem_append_right _ (List.mem_append_right _ (List.mem_append_right _ (List.mem_append_right _ (List.mem_append_left _ (List.mem_of_getElem? (i := 192) rfl))))))
theorem fg_mc_170 : Jvm.Cond.code yX10_haulNow cX10_haulNow 4 (some .int) ∈ lw_tbl := List.mem_append_right _ (List.mem_append_right _ (List.mem_append_right _ (List.mem_append_right _ (List.mem_append_right _ (List.mem_append_left _ (List.mem_of_getElem? (i := 213) rfl))))))
theorem fg_mc_171 : Jvm.Cond.code yX10_haul cX10_haul 2 (some .int) ∈ lw_tbl := List.mem_append_right _ (List.mem_append_right _ (List.mem_append_right _ (List.mem_append_right _ (List.mem_append_right _ (List.mem_append_left _ (List.mem_of_getElem? (i := 209) rfl))))))
theorem fg_mc_172 : Jvm.Cond.code yX10_pass cX10_pass 3 none ∈ lw_tbl := List.mem_append_right _ (List.mem_append_right _ (List.mem_append_right _ (List.mem_append_right _ (List.mem_append_right _ (List.mem_append_left _ (List.mem_of_getElem? (i := 226) rfl))))))
theorem fg_mc_173 : Jvm.Cond.code yX10_daysRefused cX10_daysRefused 2 (some .int) ∈ lw_tbl := List.mem_append_right _ (List.mem_append_right _ (List.mem_append_right _ (List.mem_append_right _ (List.mem_append_right _ (List.mem_append_left _ (List.mem_of_getElem? (i := 221) rfl))))))
theorem fg_mc_174 : Jvm.Cond.code yX10_day cX10_day 4 (some .int) ∈ lw_tbl := List.mem_append_right _ (List.mem_append_right _ (List.mem_append_right _ (List.mem_append_right _ (List.mem_append_right _ (List.mem_append_left _ (List.mem_of_getElem? (i := 217) rfl))))))
theorem fg_mc_175 : Jvm.Cond.code yX10_canSew cX10_canSew 2 (some .boolean) ∈ lw_tbl := List.mem_append_right _ (List.mem_append_right _ (List.mem_append_right _ (List.mem_append_right _ (List.mem_append_right _ (List.mem_append_left _ (List.mem_of_getElem? (i := 234) rfl))))))
theorem fg_mc_176 : Jvm.Cond.code yX10_sewNow cX10_sewNow 2 none ∈ lw_tbl := List.mem_append_right _ (List.mem_append_right _ (List.mem_append_right _ (List.mem_append_right _ (List.mem_append_right _ (List.mem_append_left _ (List.mem_of_getElem? (i := 238) rfl))))))
theorem fg_mc_177 : Jvm.Cond.code yX10_sew cX10_sew 3 (some .int) ∈ lw_tbl := List.mem_append_right _ (List.mem_append_right _ (List.mem_append_right _ (List.mem_append_right _ (List.mem_append_right _ (List.mem_append_left _ (List.mem_of_getElem? (i := 230) rfl))))))
theorem fg_mc_178 : Jvm.Cond.code yX10_anew cX10_anew 5 (some .int) ∈ lw_tbl := List.mem_append_right _ (List.mem_append_right _ (List.mem_append_right _ (List.mem_append_right _ (List.mem_append_right _ (List.mem_append_right _ (List.mem_of_getElem? (i := 2) rfl))))))
theorem fg_mc_179 : Jvm.Cond.code yX10_weather cX10_weather 4 (some .int) ∈ lw_tbl := List.mem_append_right _ (List.mem_append_right _ (List.mem_append_right _ (List.mem_append_right _ (List.mem_append_right _ (List.mem_append_right _ (List.mem_of_getElem? (i := 7) rfl))))))
theorem fg_mc_180 : Jvm.Cond.code yX10_draw cX10_draw 2 (some .int) ∈ lw_tbl := List.mem_append_right _ (List.mem_append_right _ (List.mem_append_right _ (List.mem_append_right _ (List.mem_append_right _ (List.mem_append_right _ (List.mem_of_getElem? (i := 20) rfl))))))
theorem fg_mc_181 : Jvm.Cond.code yX10_chanceHoist cX10_chanceHoist 4 none ∈ lw_tbl := List.mem_append_right _ (List.mem_append_right _ (List.mem_append_right _ (List.mem_append_right _ (List.mem_append_right _ (List.mem_append_right _ (List.mem_of_getElem? (i := 28) rfl))))))
theorem fg_mc_182 : Jvm.Cond.code yX10_chanceSew cX10_chanceSew 2 none ∈ lw_tbl := List.mem_append_right _ (List.mem_append_right _ (List.mem_append_right _ (List.mem_append_right _ (List.mem_append_right _ (List.mem_append_right _ (List.mem_of_getElem? (i := 32) rfl))))))
theorem fg_mc_183 : Jvm.Cond.code yX10_chance cX10_chance 4 none ∈ lw_tbl := List.mem_append_right _ (List.mem_append_right _ (List.mem_append_right _ (List.mem_append_right _ (List.mem_append_right _ (List.mem_append_right _ (List.mem_of_getElem? (i := 16) rfl))))))
theorem fg_mc_184 : Jvm.Cond.code yX10_drift cX10_drift 4 (some .int) ∈ lw_tbl := List.mem_append_right _ (List.mem_append_right _ (List.mem_append_right _ (List.mem_append_right _ (List.mem_append_right _ (List.mem_append_right _ (List.mem_of_getElem? (i := 12) rfl))))))
theorem fg_mc_185 : Jvm.Cond.code yX10_undo cX10_undo 2 (some .int) ∈ lw_tbl := List.mem_append_right _ (List.mem_append_right _ (List.mem_append_right _ (List.mem_append_right _ (List.mem_append_right _ (List.mem_append_right _ (List.mem_of_getElem? (i := 36) rfl))))))
theorem fg_mc_186 : Jvm.Cond.code yX10_look cX10_look 4 (some .int) ∈ lw_tbl := List.mem_append_right _ (List.mem_append_right _ (List.mem_append_right _ (List.mem_append_right _ (List.mem_append_right _ (List.mem_append_right _ (List.mem_of_getElem? (i := 40) rfl))))))
theorem fg_mc_187 : Jvm.Cond.code yX10_clear cX10_clear 6 (some .int) ∈ lw_tbl := List.mem_append_right _ (List.mem_append_right _ (List.mem_append_right _ (List.mem_append_right _ (List.mem_append_right _ (List.mem_append_right _ (List.mem_of_getElem? (i := 44) rfl))))))
theorem fg_mc_188 : Jvm.Cond.code yX10_read cX10_read 3 (some .int) ∈ lw_tbl := List.mem_append_right _ (List.mem_append_right _ (List.mem_append_right _ (List.mem_append_right _ (List.mem_append_right _ (List.mem_append_right _ (List.mem_of_getElem? (i := 50) rfl))))))
theorem fg_mc_189 : Jvm.Cond.code yX10_write cX10_write 3 (some .int) ∈ lw_tbl := List.mem_append_right _ (List.mem_append_right _ (List.mem_append_right _ (List.mem_append_right _ (List.mem_append_right _ (List.mem_append_right _ (List.mem_of_getElem? (i := 54) rfl))))))
theorem fg_mc_190 : Jvm.Cond.code yX10_tear cX10_tear 2 (some .int) ∈ lw_tbl := List.mem_append_right _ (List.mem_append_right _ (List.mem_append_right _ (List.mem_append_right _ (List.mem_append_right _ (List.mem_append_right _ (List.mem_of_getElem? (i := 58) rfl))))))
theorem fg_mc_191 : Jvm.Cond.code yX10_judge cX10_judge 2 (some .int) ∈ lw_tbl := List.mem_append_right _ (List.mem_append_right _ (List.mem_append_right _ (List.mem_append_right _ (List.mem_append_right _ (List.mem_append_right _ (List.mem_of_getElem? (i := 62) rfl))))))
theorem fg_mc_192 : Jvm.Cond.code yX10_seed cX10_seed 3 (some .int) ∈ lw_tbl := List.mem_append_right _ (List.mem_append_right _ (List.mem_append_right _ (List.mem_append_right _ (List.mem_append_right _ (List.mem_append_right _ (List.mem_of_getElem? (i := 66) rfl))))))
theorem fg_mc_193 : Jvm.Cond.code yX10_keep cX10_keep 3 (some .int) ∈ lw_tbl := List.mem_append_right _ (List.mem_append_right _ (List.mem_append_right _ (List.mem_append_right _ (List.mem_append_right _ (List.mem_append_right _ (List.mem_of_getElem? (i := 70) rfl))))))
theorem fg_mc_194 : Jvm.Cond.code yX10_goBack cX10_goBack 3 (some .int) ∈ lw_tbl := List.mem_append_right _ (List.mem_append_right _ (List.mem_append_right _ (List.mem_append_right _ (List.mem_append_right _ (List.mem_append_right _ (List.mem_of_getElem? (i := 74) rfl))))))
theorem fg_mc_195 : Jvm.Cond.code yJ6_bitCount_0f7a4 cJ6_bitCount_0f7a4 1 (some .int) ∈ lw_tbl := List.mem_append_right _ (List.mem_append_right _ (List.mem_append_right _ (List.mem_append_left _ (List.mem_of_getElem? (i := 35) rfl))))
set_option maxRecDepth 100000 in
theorem fg_mcode : ∀ m ∈ fg_mt, Jvm.Cond.code m.1 m.2.1 m.2.2.1 m.2.2.2 ∈ lw_tbl := (List.forall_mem_cons.mpr ⟨fg_mc_0, (List.forall_mem_cons.mpr ⟨fg_mc_1, (List.forall_mem_cons.mpr ⟨fg_mc_2, (List.forall_mem_cons.mpr ⟨fg_mc_3, (List.forall_mem_cons.mpr ⟨fg_mc_4, (List.forall_mem_cons.mpr ⟨fg_mc_5, (List.forall_mem_cons.mpr ⟨fg_mc_6, (List.forall_mem_cons.mpr ⟨fg_mc_7, (List.forall_mem_cons.mpr ⟨fg_mc_8, (List.forall_mem_cons.mpr ⟨fg_mc_9, (List.forall_mem_cons.mpr ⟨fg_mc_10, (List.forall_mem_cons.mpr ⟨fg_mc_11, (List.forall_mem_cons.mpr ⟨fg_mc_12, (List.forall_mem_cons.mpr ⟨fg_mc_13, (List.forall_mem_cons.mpr ⟨fg_mc_14, (List.forall_mem_cons.mpr ⟨fg_mc_15, (List.forall_mem_cons.mpr ⟨fg_mc_16, (List.forall_mem_cons.mpr ⟨fg_mc_17, (List.forall_mem_cons.mpr ⟨fg_mc_18, (List.forall_mem_cons.mpr ⟨fg_mc_19, (List.forall_mem_cons.mpr ⟨fg_mc_20, (List.forall_mem_cons.mpr ⟨fg_mc_21, (List.forall_mem_cons.mpr ⟨fg_mc_22, (List.forall_mem_cons.mpr ⟨fg_mc_23, (List.forall_mem_cons.mpr ⟨fg_mc_24, (List.forall_mem_cons.mpr ⟨fg_mc_25, (List.forall_mem_cons.mpr ⟨fg_mc_26, (List.forall_mem_cons.mpr ⟨fg_mc_27, (List.forall_mem_cons.mpr ⟨fg_mc_28, (List.forall_mem_cons.mpr ⟨fg_mc_29, (List.forall_mem_cons.mpr ⟨fg_mc_30, (List.forall_mem_cons.mpr ⟨fg_mc_31, (List.forall_mem_cons.mpr ⟨fg_mc_32, (List.forall_mem_cons.mpr ⟨fg_mc_33, (List.forall_mem_cons.mpr ⟨fg_mc_34, (List.forall_mem_cons.mpr ⟨fg_mc_35, (List.forall_mem_cons.mpr ⟨fg_mc_36, (List.forall_mem_cons.mpr ⟨fg_mc_37, (List.forall_mem_cons.mpr ⟨fg_mc_38, (List.forall_mem_cons.mpr ⟨fg_mc_39, (List.forall_mem_cons.mpr ⟨fg_mc_40, (List.forall_mem_cons.mpr ⟨fg_mc_41, (List.forall_mem_cons.mpr ⟨fg_mc_42, (List.forall_mem_cons.mpr ⟨fg_mc_43, (List.forall_mem_cons.mpr ⟨fg_mc_44, (List.forall_mem_cons.mpr ⟨fg_mc_45, (List.forall_mem_cons.mpr ⟨fg_mc_46, (List.forall_mem_cons.mpr ⟨fg_mc_47, (List.forall_mem_cons.mpr ⟨fg_mc_48, (List.forall_mem_cons.mpr ⟨fg_mc_49, (List.forall_mem_cons.mpr ⟨fg_mc_50, (List.forall_mem_cons.mpr ⟨fg_mc_51, (List.forall_mem_cons.mpr ⟨fg_mc_52, (List.forall_mem_cons.mpr ⟨fg_mc_53, (List.forall_mem_cons.mpr ⟨fg_mc_54, (List.forall_mem_cons.mpr ⟨fg_mc_55, (List.forall_mem_cons.mpr ⟨fg_mc_56, (List.forall_mem_cons.mpr ⟨fg_mc_57, (List.forall_mem_cons.mpr ⟨fg_mc_58, (List.forall_mem_cons.mpr ⟨fg_mc_59, (List.forall_mem_cons.mpr ⟨fg_mc_60, (List.forall_mem_cons.mpr ⟨fg_mc_61, (List.forall_mem_cons.mpr ⟨fg_mc_62, (List.forall_mem_cons.mpr ⟨fg_mc_63, (List.forall_mem_cons.mpr ⟨fg_mc_64, (List.forall_mem_cons.mpr ⟨fg_mc_65, (List.forall_mem_cons.mpr ⟨fg_mc_66, (List.forall_mem_cons.mpr ⟨fg_mc_67, (List.forall_mem_cons.mpr ⟨fg_mc_68, (List.forall_mem_cons.mpr ⟨fg_mc_69, (List.forall_mem_cons.mpr ⟨fg_mc_70, (List.forall_mem_cons.mpr ⟨fg_mc_71, (List.forall_mem_cons.mpr ⟨fg_mc_72, (List.forall_mem_cons.mpr ⟨fg_mc_73, (List.forall_mem_cons.mpr ⟨fg_mc_74, (List.forall_mem_cons.mpr ⟨fg_mc_75, (List.forall_mem_cons.mpr ⟨fg_mc_76, (List.forall_mem_cons.mpr ⟨fg_mc_77, (List.forall_mem_cons.mpr ⟨fg_mc_78, (List.forall_mem_cons.mpr ⟨fg_mc_79, (List.forall_mem_cons.mpr ⟨fg_mc_80, (List.forall_mem_cons.mpr ⟨fg_mc_81, (List.forall_mem_cons.mpr ⟨fg_mc_82, (List.forall_mem_cons.mpr ⟨fg_mc_83, (List.forall_mem_cons.mpr ⟨fg_mc_84, (List.forall_mem_cons.mpr ⟨fg_mc_85, (List.forall_mem_cons.mpr ⟨fg_mc_86, (List.forall_mem_cons.mpr ⟨fg_mc_87, (List.forall_mem_cons.mpr ⟨fg_mc_88, (List.forall_mem_cons.mpr ⟨fg_mc_89, (List.forall_mem_cons.mpr ⟨fg_mc_90, (List.forall_mem_cons.mpr ⟨fg_mc_91, (List.forall_mem_cons.mpr ⟨fg_mc_92, (List.forall_mem_cons.mpr ⟨fg_mc_93, (List.forall_mem_cons.mpr ⟨fg_mc_94, (List.forall_mem_cons.mpr ⟨fg_mc_95, (List.forall_mem_cons.mpr ⟨fg_mc_96, (List.forall_mem_cons.mpr ⟨fg_mc_97, (List.forall_mem_cons.mpr ⟨fg_mc_98, (List.forall_mem_cons.mpr ⟨fg_mc_99, (List.forall_mem_cons.mpr ⟨fg_mc_100, (List.forall_mem_cons.mpr ⟨fg_mc_101, (List.forall_mem_cons.mpr ⟨fg_mc_102, (List.forall_mem_cons.mpr ⟨fg_mc_103, (List.forall_mem_cons.mpr ⟨fg_mc_104, (List.forall_mem_cons.mpr ⟨fg_mc_105, (List.forall_mem_cons.mpr ⟨fg_mc_106, (List.forall_mem_cons.mpr ⟨fg_mc_107, (List.forall_mem_cons.mpr ⟨fg_mc_108, (List.forall_mem_cons.mpr ⟨fg_mc_109, (List.forall_mem_cons.mpr ⟨fg_mc_110, (List.forall_mem_cons.mpr ⟨fg_mc_111, (List.forall_mem_cons.mpr ⟨fg_mc_112, (List.forall_mem_cons.mpr ⟨fg_mc_113, (List.forall_mem_cons.mpr ⟨fg_mc_114, (List.forall_mem_cons.mpr ⟨fg_mc_115, (List.forall_mem_cons.mpr ⟨fg_mc_116, (List.forall_mem_cons.mpr ⟨fg_mc_117, (List.forall_mem_cons.mpr ⟨fg_mc_118, (List.forall_mem_cons.mpr ⟨fg_mc_119, (List.forall_mem_cons.mpr ⟨fg_mc_120, (List.forall_mem_cons.mpr ⟨fg_mc_121, (List.forall_mem_cons.mpr ⟨fg_mc_122, (List.forall_mem_cons.mpr ⟨fg_mc_123, (List.forall_mem_cons.mpr ⟨fg_mc_124, (List.forall_mem_cons.mpr ⟨fg_mc_125, (List.forall_mem_cons.mpr ⟨fg_mc_126, (List.forall_mem_cons.mpr ⟨fg_mc_127, (List.forall_mem_cons.mpr ⟨fg_mc_128, (List.forall_mem_cons.mpr ⟨fg_mc_129, (List.forall_mem_cons.mpr ⟨fg_mc_130, (List.forall_mem_cons.mpr ⟨fg_mc_131, (List.forall_mem_cons.mpr ⟨fg_mc_132, (List.forall_mem_cons.mpr ⟨fg_mc_133, (List.forall_mem_cons.mpr ⟨fg_mc_134, (List.forall_mem_cons.mpr ⟨fg_mc_135, (List.forall_mem_cons.mpr ⟨fg_mc_136, (List.forall_mem_cons.mpr ⟨fg_mc_137, (List.forall_mem_cons.mpr ⟨fg_mc_138, (List.forall_mem_cons.mpr ⟨fg_mc_139, (List.forall_mem_cons.mpr ⟨fg_mc_140, (List.forall_mem_cons.mpr ⟨fg_mc_141, (List.forall_mem_cons.mpr ⟨fg_mc_142, (List.forall_mem_cons.mpr ⟨fg_mc_143, (List.forall_mem_cons.mpr ⟨fg_mc_144, (List.forall_mem_cons.mpr ⟨fg_mc_145, (List.forall_mem_cons.mpr ⟨fg_mc_146, (List.forall_mem_cons.mpr ⟨fg_mc_147, (List.forall_mem_cons.mpr ⟨fg_mc_148, (List.forall_mem_cons.mpr ⟨fg_mc_149, (List.forall_mem_cons.mpr ⟨fg_mc_150, (List.forall_mem_cons.mpr ⟨fg_mc_151, (List.forall_mem_cons.mpr ⟨fg_mc_152, (List.forall_mem_cons.mpr ⟨fg_mc_153, (List.forall_mem_cons.mpr ⟨fg_mc_154, (List.forall_mem_cons.mpr ⟨fg_mc_155, (List.forall_mem_cons.mpr ⟨fg_mc_156, (List.forall_mem_cons.mpr ⟨fg_mc_157, (List.forall_mem_cons.mpr ⟨fg_mc_158, (List.forall_mem_cons.mpr ⟨fg_mc_159, (List.forall_mem_cons.mpr ⟨fg_mc_160, (List.forall_mem_cons.mpr ⟨fg_mc_161, (List.forall_mem_cons.mpr ⟨fg_mc_162, (List.forall_mem_cons.mpr ⟨fg_mc_163, (List.forall_mem_cons.mpr ⟨fg_mc_164, (List.forall_mem_cons.mpr ⟨fg_mc_165, (List.forall_mem_cons.mpr ⟨fg_mc_166, (List.forall_mem_cons.mpr ⟨fg_mc_167, (List.forall_mem_cons.mpr ⟨fg_mc_168, (List.forall_mem_cons.mpr ⟨fg_mc_169, (List.forall_mem_cons.mpr ⟨fg_mc_170, (List.forall_mem_cons.mpr ⟨fg_mc_171, (List.forall_mem_cons.mpr ⟨fg_mc_172, (List.forall_mem_cons.mpr ⟨fg_mc_173, (List.forall_mem_cons.mpr ⟨fg_mc_174, (List.forall_mem_cons.mpr ⟨fg_mc_175, (List.forall_mem_cons.mpr ⟨fg_mc_176, (List.forall_mem_cons.mpr ⟨fg_mc_177, (List.forall_mem_cons.mpr ⟨fg_mc_178, (List.forall_mem_cons.mpr ⟨fg_mc_179, (List.forall_mem_cons.mpr ⟨fg_mc_180, (List.forall_mem_cons.mpr ⟨fg_mc_181, (List.forall_mem_cons.mpr ⟨fg_mc_182, (List.forall_mem_cons.mpr ⟨fg_mc_183, (List.forall_mem_cons.mpr ⟨fg_mc_184, (List.forall_mem_cons.mpr ⟨fg_mc_185, (List.forall_mem_cons.mpr ⟨fg_mc_186, (List.forall_mem_cons.mpr ⟨fg_mc_187, (List.forall_mem_cons.mpr ⟨fg_mc_188, (List.forall_mem_cons.mpr ⟨fg_mc_189, (List.forall_mem_cons.mpr ⟨fg_mc_190, (List.forall_mem_cons.mpr ⟨fg_mc_191, (List.forall_mem_cons.mpr ⟨fg_mc_192, (List.forall_mem_cons.mpr ⟨fg_mc_193, (List.forall_mem_cons.mpr ⟨fg_mc_194, (List.forall_mem_cons.mpr ⟨fg_mc_195, (fun _ h => absurd h List.not_mem_nil)⟩)⟩)⟩)⟩)⟩)⟩)⟩)⟩)⟩)⟩)⟩)⟩)⟩)⟩)⟩)⟩)⟩)⟩)⟩)⟩)⟩)⟩)⟩)⟩)⟩)⟩)⟩)⟩)⟩)⟩)⟩)⟩)⟩)⟩)⟩)⟩)⟩)⟩)⟩)⟩)⟩)⟩)⟩)⟩)⟩)⟩)⟩)⟩)⟩)⟩)⟩)⟩)⟩)⟩)⟩)⟩)⟩)⟩)⟩)⟩)⟩)⟩)⟩)⟩)⟩)⟩)⟩)⟩)⟩)⟩)⟩)⟩)⟩)⟩)⟩)⟩)⟩)⟩)⟩)⟩)⟩)⟩)⟩)⟩)⟩)⟩)⟩)⟩)⟩)⟩)⟩)⟩)⟩)⟩)⟩)⟩)⟩)⟩)⟩)⟩)⟩)⟩)⟩)⟩)⟩)⟩)⟩)⟩)⟩)⟩)⟩)⟩)⟩)⟩)⟩)⟩)⟩)⟩)⟩)⟩)⟩)⟩)⟩)⟩)⟩)⟩)⟩)⟩)⟩)⟩)⟩)⟩)⟩)⟩)⟩)⟩)⟩)⟩)⟩)⟩)⟩)⟩)⟩)⟩)⟩)⟩)⟩)⟩)⟩)⟩)⟩)⟩)⟩)⟩)⟩)⟩)⟩)⟩)⟩)⟩)⟩)⟩)⟩)⟩)⟩)⟩)⟩)⟩)⟩)⟩)⟩)⟩)⟩)⟩)⟩)⟩)⟩)⟩)⟩)⟩)⟩)⟩)⟩)⟩)⟩)⟩)⟩)⟩)⟩)⟩)⟩)⟩)⟩)⟩)⟩)⟩)
set_option maxRecDepth 100000 in
theorem fg_mcks : ∀ i, i < 196 → fg_mck i = true := by decide +kernel
set_option maxRecDepth 100000 in
theorem fg_ck_0 : (List.range' 0 20).all fg_ckm = true := by decide +kernel
set_option maxRecDepth 100000 in
theorem fg_ck_20 : (List.range' 20 20).all fg_ckm = true := by decide +kernel
set_option maxRecDepth 100000 in
theorem fg_ck_40 : (List.range' 40 20).all fg_ckm = true := by decide +kernel
set_option maxRecDepth 100000 in
theorem fg_ck_60 : (List.range' 60 20).all fg_ckm = true := by decide +kernel
set_option maxRecDepth 100000 in
theorem fg_ck_80 : (List.range' 80 20).all fg_ckm = true := by decide +kernel
set_option maxRecDepth 100000 in
theorem fg_ck_100 : (List.range' 100 20).all fg_ckm = true := by decide +kernel
set_option maxRecDepth 100000 in
theorem fg_ck_120 : (List.range' 120 20).all fg_ckm = true := by decide +kernel
set_option maxRecDepth 100000 in
theorem fg_ck_140 : (List.range' 140 20).all fg_ckm = true := by decide +kernel
set_option maxRecDepth 100000 in
theorem fg_ck_160 : (List.range' 160 20).all fg_ckm = true := by decide +kernel
set_option maxRecDepth 100000 in
theorem fg_ck_180 : (List.range' 180 16).all fg_ckm = true := by decide +kernel
theorem fg_cks (i : Nat) (h : i < 196) : fg_ckm i = true := by
  by_cases h20 : i < 20
  · exact List.all_eq_true.mp fg_ck_0 i (List.mem_range'_1.mpr ⟨by omega, by omega⟩)
  by_cases h40 : i < 40
  · exact List.all_eq_true.mp fg_ck_20 i (List.mem_range'_1.mpr ⟨by omega, by omega⟩)
  by_cases h60 : i < 60
  · exact List.all_eq_true.mp fg_ck_40 i (List.mem_range'_1.mpr ⟨by omega, by omega⟩)
  by_cases h80 : i < 80
  · exact List.all_eq_true.mp fg_ck_60 i (List.mem_range'_1.mpr ⟨by omega, by omega⟩)
  by_cases h100 : i < 100
  · exact List.all_eq_true.mp fg_ck_80 i (List.mem_range'_1.mpr ⟨by omega, by omega⟩)
  by_cases h120 : i < 120
  · exact List.all_eq_true.mp fg_ck_100 i (List.mem_range'_1.mpr ⟨by omega, by omega⟩)
  by_cases h140 : i < 140
  · exact List.all_eq_true.mp fg_ck_120 i (List.mem_range'_1.mpr ⟨by omega, by omega⟩)
  by_cases h160 : i < 160
  · exact List.all_eq_true.mp fg_ck_140 i (List.mem_range'_1.mpr ⟨by omega, by omega⟩)
  by_cases h180 : i < 180
  · exact List.all_eq_true.mp fg_ck_160 i (List.mem_range'_1.mpr ⟨by omega, by omega⟩)
  exact List.all_eq_true.mp fg_ck_180 i (List.mem_range'_1.mpr ⟨by omega, by omega⟩)
end
section
/-! THE ABSTRACT MACHINE SPEAKS OF THE REAL ONE -/
def fg_cv (ad : Nat → Nat) : Value → Value
  | .ref h => .ref (ad h)
  | v => v
theorem fg_cv_cat (ad : Nat → Nat) (v : Value) : (fg_cv ad v).category = v.category := by cases v <;> rfl
def fg_fv (ad : Nat → Nat) (σ : fg_St) (h c k : Nat) : Value := match fg_rf c k with
  | true => .ref (ad (fg_pt σ h k))
  | false => .int (fg_F σ h k)
/-- where the cells lie, and the classes' numbers -/
abbrev fg_La : Type := (Nat → Nat) × ClassId × ClassId × ClassId × ClassId × (Nat → ClassId) × (Nat → Nat → Nat)
def fg_cell (Λ : fg_La) (σ : fg_St) (h : Nat) : va_E :=
  if fg_kd h = 11 then .inl (Λ.2.1, fg_ln h, .inl (σ.2.2.2 h))
  else if fg_kd h = 12 then .inl (Λ.2.2.1, fg_ln h, .inl (σ.2.2.2 h))
  else if fg_kd h = 13 then .inl (Λ.2.2.2.1, fg_ln h, .inr (.inr (.inr (.inr (fun j => some (Λ.1 (fg_ra h j)))))))
  else if fg_kd h = 14 then .inl (Λ.2.2.2.2.1, fg_ln h, .inr (.inr (.inr (.inr (fun j => some (Λ.1 (fg_ra h j)))))))
  else .inr (fg_kd h, (List.range (fg_nf.getD (fg_kd h) 0)).map (fg_fv Λ.1 σ h (fg_kd h)))
def fg_ws (Λ : fg_La) (σ : fg_St) : va_W := (List.range 209).map (fun h => (Λ.1 h, fg_cell Λ σ h))
def fg_tys (Λ : fg_La) : List (ClassId × FieldType) := [(Λ.2.1, .int), (Λ.2.2.1, .boolean), (Λ.2.2.2.1, .object RX0), (Λ.2.2.2.2.1, .object RX1)]
def fg_D (Λ : fg_La) : va_G := (Λ.2.2.2.2.2.1, Λ.2.2.2.2.2.2)
def fg_A (Λ : fg_La) (q : Nat) : Prop := ∃ h, h < 209 ∧ q = Λ.1 h
def fg_inj (Λ : fg_La) : Prop := ∀ i j, i < 209 → j < 209 → Λ.1 i = Λ.1 j → i = j
theorem fg_kd_lt {h c : Nat} (e : fg_kd h = c) (hc : c < 15) : h < 209 := by
  rcases Nat.lt_or_ge h 209 with q | q
  · exact q
  · have h2 : fg_kd h = 99 := by
      unfold fg_kd
      rw [List.getD_eq_getElem?_getD, List.getElem?_eq_none (show fg_kl.length ≤ h from q)]
      rfl
    omega
theorem fg_ws_at {Λ : fg_La} {σ : fg_St} {h : Nat} (hh : h < 209) : (fg_ws Λ σ)[h]? = some (Λ.1 h, fg_cell Λ σ h) := by
  unfold fg_ws
  rw [List.getElem?_map, List.getElem?_range hh]
  rfl
theorem fg_ws_D {Λ : fg_La} (hi : fg_inj Λ) (σ : fg_St) : va_D (fg_A Λ) (fg_ws Λ σ) := by
  have key : ∀ (i : Nat) (p : Nat × va_E), (fg_ws Λ σ)[i]? = some p → i < 209 ∧ p.1 = Λ.1 i := by
    intro i p h
    have hl : i < 209 := by
      have := (List.getElem?_eq_some_iff.mp h).1
      simpa [fg_ws] using this
    rw [fg_ws_at hl] at h
    exact ⟨hl, by rw [← Option.some.inj h]⟩
  refine ⟨fun i j p q h1 h2 e => ?_, fun k q h => ?_⟩
  · obtain ⟨a1, a2⟩ := key i p h1
    obtain ⟨b1, b2⟩ := key j q h2
    exact hi i j a1 b1 (by rw [← a2, ← b2, e])
  · obtain ⟨a1, a2⟩ := key k q h
    exact ⟨k, a1, a2⟩
theorem fg_ws_set {Λ : fg_La} {σ σ' : fg_St} {h : Nat} {e : va_E} (he : e = fg_cell Λ σ' h) (ho : ∀ g, g < 209 → g ≠ h → fg_cell Λ σ' g = fg_cell Λ σ g) : (fg_ws Λ σ).set h (Λ.1 h, e) = fg_ws Λ σ' := by
  subst he
  apply List.ext_getElem?
  intro k
  rw [List.getElem?_set]
  by_cases hk : h = k
  · subst hk
    by_cases hl : h < 209
    · rw [if_pos rfl, if_pos (by simpa [fg_ws] using hl), fg_ws_at hl]
    · rw [if_pos rfl, if_neg (by simpa [fg_ws] using hl), List.getElem?_eq_none (by simp [fg_ws]; omega)]
  · rw [if_neg hk]
    by_cases hl : k < 209
    · rw [fg_ws_at hl, fg_ws_at hl, ho k hl (fun e => hk e.symm)]
    · rw [List.getElem?_eq_none (by simp [fg_ws]; omega), List.getElem?_eq_none (by simp [fg_ws]; omega)]
theorem fg_cell_o {Λ : fg_La} {σ : fg_St} {h c : Nat} (e : fg_kd h = c) (hc : c < 11) : fg_cell Λ σ h = .inr (c, (List.range (fg_nf.getD c 0)).map (fg_fv Λ.1 σ h c)) := by
  unfold fg_cell
  rw [e, if_neg (by omega), if_neg (by omega), if_neg (by omega), if_neg (by omega)]
theorem fg_cell_i {Λ : fg_La} {σ : fg_St} {h : Nat} (e : fg_kd h = 11) : fg_cell Λ σ h = .inl (Λ.2.1, fg_ln h, .inl (σ.2.2.2 h)) := by
  unfold fg_cell
  rw [if_pos e]
theorem fg_cell_z {Λ : fg_La} {σ : fg_St} {h : Nat} (e : fg_kd h = 12) : fg_cell Λ σ h = .inl (Λ.2.2.1, fg_ln h, .inl (σ.2.2.2 h)) := by
  unfold fg_cell
  rw [if_neg (by omega), if_pos e]
theorem fg_cell_d {Λ : fg_La} {σ : fg_St} {h : Nat} (e : fg_kd h = 13) : fg_cell Λ σ h = .inl (Λ.2.2.2.1, fg_ln h, .inr (.inr (.inr (.inr (fun j => some (Λ.1 (fg_ra h j))))))) := by
  unfold fg_cell
  rw [if_neg (by omega), if_neg (by omega), if_pos e]
theorem fg_cell_m {Λ : fg_La} {σ : fg_St} {h : Nat} (e : fg_kd h = 14) : fg_cell Λ σ h = .inl (Λ.2.2.2.2.1, fg_ln h, .inr (.inr (.inr (.inr (fun j => some (Λ.1 (fg_ra h j))))))) := by
  unfold fg_cell
  rw [if_neg (by omega), if_neg (by omega), if_neg (by omega), if_pos e]
theorem fg_pt_F (σ : fg_St) (f : Nat → Nat → Int32) (r : Nat → Nat → Int32) (h k : Nat) : fg_pt (σ.1, σ.2.1, f, r) h k = fg_pt σ h k := rfl
/-- an int field written: the cells behind it -/
theorem fg_cell_sF {Λ : fg_La} {σ : fg_St} {h c k : Nat} {x : Int32} (e : fg_kd h = c) (hc : c < 11) (hr : fg_rf c k = false) : fg_cell Λ (fg_sF σ h k x) h = .inr (c, ((List.range (fg_nf.getD c 0)).map (fg_fv Λ.1 σ h c)).set k (.int x)) := by
  rw [fg_cell_o e hc]
  congr 2
  apply List.ext_getElem?
  intro j
  rw [List.getElem?_set]
  simp only [List.getElem?_map, List.length_map, List.length_range]
  by_cases hj : k = j
  · subst hj
    rw [if_pos rfl]
    by_cases hl : k < fg_nf.getD c 0
    · rw [if_pos hl, List.getElem?_range hl]
      simp only [Option.map_some, fg_fv, hr]
      show some (Value.int (fg_uf _ _ _ _ h k)) = _
      simp [fg_uf]
    · rw [if_neg hl, List.getElem?_eq_none (by rw [List.length_range]; exact Nat.le_of_not_lt hl)]
      rfl
  · rw [if_neg hj]
    cases hq : (List.range (fg_nf.getD c 0))[j]? with
    | none => rfl
    | some z =>
      have hz : z = j := by
        have := List.getElem?_eq_some_iff.mp hq
        obtain ⟨h1, h2⟩ := this
        simpa using h2.symm
      subst hz
      simp only [Option.map_some]
      congr 1
      unfold fg_fv
      cases fg_rf c z
      · show Value.int (fg_uf _ _ _ _ h z) = _
        simp [fg_uf, Ne.symm hj]
      · rfl
theorem fg_cell_sFo {Λ : fg_La} {σ : fg_St} {h k : Nat} {x : Int32} (g : Nat) (hg : g ≠ h) : fg_cell Λ (fg_sF σ h k x) g = fg_cell Λ σ g := by
  unfold fg_cell
  have : fg_fv Λ.1 (fg_sF σ h k x) g (fg_kd g) = fg_fv Λ.1 σ g (fg_kd g) := by
    funext j
    unfold fg_fv
    cases fg_rf (fg_kd g) j
    · show Value.int (fg_uf _ _ _ _ g j) = _
      simp [fg_uf, hg]
    · rfl
  rw [this]
theorem fg_cell_sRo {Λ : fg_La} {σ : fg_St} {r : Nat → Nat → Int32} {h : Nat} (hr : ∀ a, a ≠ h → r a = σ.2.2.2 a) (g : Nat) (hg : g ≠ h) : fg_cell Λ (σ.1, σ.2.1, σ.2.2.1, r) g = fg_cell Λ σ g := by
  have : fg_fv Λ.1 (σ.1, σ.2.1, σ.2.2.1, r) g (fg_kd g) = fg_fv Λ.1 σ g (fg_kd g) := by
    funext j
    unfold fg_fv
    cases fg_rf (fg_kd g) j <;> rfl
  unfold fg_cell
  rw [this]
  show (if _ then Sum.inl (_, _, Sum.inl (r g)) else if _ then Sum.inl (_, _, Sum.inl (r g)) else _) = _
  rw [hr g hg]
theorem fg_up_upd (r : Nat → Nat → Int32) (h j : Nat) (x : Int32) : fg_up r h j x h = upd (r h) j x := by
  funext b
  simp [fg_up, upd]
theorem fg_up_ne (r : Nat → Nat → Int32) (h j : Nat) (x : Int32) {a : Nat} (ha : a ≠ h) : fg_up r h j x a = r a := by
  funext b
  simp [fg_up, ha]
theorem fg_kd9 : ∀ h, h < 209 → fg_kd h = 9 → h = 0 := by decide +kernel
/-! words -/
def fg_T : List Jvm.Cond := lw_tbl.filter goodWord
theorem fg_w_in {w : Nat} {c : Jvm.Cond} (h : fg_w w c = true) (hg : goodWord c = true) : c ∈ fg_T := List.mem_filter.mpr ⟨List.mem_of_getElem? (of_decide_eq_true h), hg⟩
theorem fg_T_good : fg_T.all goodWord = true := List.all_eq_true.mpr fun w h => (List.mem_filter.mp h).2
set_option maxRecDepth 100000 in
theorem fg_lays : ∀ q ∈ vwCl, ∀ w ∈ u_ws q.1 q.2.1 q.2.2, w ∈ fg_T := by decide +kernel
theorem fg_clok : ∀ (c : Nat) (q : vw_C), vwCl[c]? = some q → c < 11 ∧ q.2.2 = fg_nf.getD c 0 := by
  intro c q h
  match c, h with
  | 0, h | 1, h | 2, h | 3, h | 4, h | 5, h | 6, h | 7, h | 8, h | 9, h | 10, h => cases h; exact ⟨by decide, rfl⟩
  | c + 11, h => simp [vwCl] at h
theorem fg_clty : ∀ (c : Nat) (q : vw_C), vwCl[c]? = some q → ∃ ty : Nat → FieldType, (∀ k, k < q.2.2 → parseFieldDescriptor (q.2.1 k).2.2.1 = some (ty k)) ∧ ∀ a, a < q.2.2 → ∀ b, b < q.2.2 → a ≠ b → (q.2.1 a).2.1 ≠ (q.2.1 b).2.1 := by
  intro c q h
  match c, h with
  | 0, h => cases h; exact ⟨tyX0, tyX0_ok, nmX0⟩
  | 1, h => cases h; exact ⟨tyX1, tyX1_ok, nmX1⟩
  | 2, h => cases h; exact ⟨tyX2, tyX2_ok, nmX2⟩
  | 3, h => cases h; exact ⟨tyX3, tyX3_ok, nmX3⟩
  | 4, h => cases h; exact ⟨tyX4, tyX4_ok, nmX4⟩
  | 5, h => cases h; exact ⟨tyX5, tyX5_ok, nmX5⟩
  | 6, h => cases h; exact ⟨tyX6, tyX6_ok, nmX6⟩
  | 7, h => cases h; exact ⟨tyX7, tyX7_ok, nmX7⟩
  | 8, h => cases h; exact ⟨tyX8, tyX8_ok, nmX8⟩
  | 9, h => cases h; exact ⟨tyX9, tyX9_ok, nmX9⟩
  | 10, h => cases h; exact ⟨tyX10, tyX10_ok, nmX10⟩
  | c + 11, h => simp [vwCl] at h
/-! locals -/
def fg_LV (ad : Nat → Nat) (ls : Array Slot) (ml : Nat) (L : List (Option Value)) : Prop := L.length = ml ∧ ls.size = ml ∧ lv_wf ls ∧ ∀ (k : Nat) (v : Value), L[k]? = some (some v) → ls[k]? = some (.val (fg_cv ad v))
def fg_as (ad : Nat → Nat) (L : List (Option Value)) : List (Nat × Value) := (List.range L.length).filterMap fun k => match L[k]? with
  | some (some v) => some (k, fg_cv ad v)
  | _ => none
theorem fg_as_mem {ad : Nat → Nat} {L : List (Option Value)} {q : Nat × Value} : q ∈ fg_as ad L ↔ ∃ v, L[q.1]? = some (some v) ∧ q.2 = fg_cv ad v := by
  unfold fg_as
  rw [List.mem_filterMap]
  constructor
  · rintro ⟨k, hk, h⟩
    split at h
    · rename_i v e
      cases h
      exact ⟨v, e, rfl⟩
    · cases h
  · rintro ⟨v, h1, h2⟩
    refine ⟨q.1, List.mem_range.mpr (List.getElem?_eq_some_iff.mp h1).1, ?_⟩
    rw [h1]
    show some (q.1, fg_cv ad v) = some q
    rw [← h2]
theorem fg_LV.has {ad : Nat → Nat} {ls : Array Slot} {ml : Nat} {L : List (Option Value)} (h : fg_LV ad ls ml L) : lv_has ls ml (fg_as ad L) := ⟨h.2.1, h.2.2.1, fun q hq => by
  obtain ⟨v, h1, h2⟩ := fg_as_mem.mp hq
  rw [h2]
  exact h.2.2.2 _ _ h1⟩
theorem fg_lgb_no {L : List (Option Value)} {k : Nat} (h : fg_lgb L (k + 1) = false) {v : Value} (e : L[k]? = some (some v)) : ¬ v.category = 2 := by
  intro e2
  unfold fg_lgb at h
  simp only [e, e2] at h
  cases h
theorem fg_LV.put1 {ad : Nat → Nat} {ls' : Array Slot} {ml : Nat} {L : List (Option Value)} (hlen : L.length = ml) {a : Nat} {v : Value} (hv : v.category = 1) (hg : fg_lgb L a = false) (h : lv_has ls' ml ((a, fg_cv ad v) :: (fg_as ad L).filter (fun q => !(q.1 == a) && !(q.1 + 1 == a && q.2.category == 2)))) : fg_LV ad ls' ml (L.set a (some v)) := by
  refine ⟨by simpa using hlen, h.1, h.2.1, fun k w hk => ?_⟩
  rw [List.getElem?_set] at hk
  by_cases e : a = k
  · subst e
    rw [if_pos rfl] at hk
    split at hk
    · cases hk
      exact h.2.2 (a, fg_cv ad v) List.mem_cons_self
    · cases hk
  · rw [if_neg e] at hk
    refine h.2.2 (k, fg_cv ad w) (List.mem_cons_of_mem _ (List.mem_filter.mpr ⟨fg_as_mem.mpr ⟨w, hk, rfl⟩, ?_⟩))
    have h1 : (k == a) = false := by simpa using Ne.symm e
    simp only [h1, Bool.not_false, Bool.true_and, fg_cv_cat]
    by_cases e2 : k + 1 = a
    · subst e2
      simp [fg_lgb_no hg hk]
    · simp [e2]
theorem fg_LV.put2 {ad : Nat → Nat} {ls' : Array Slot} {ml : Nat} {L : List (Option Value)} (hlen : L.length = ml) {a : Nat} {v : Value} (hv : v.category = 2) (hg : fg_lgb L a = false) (h : lv_has ls' ml ((a, fg_cv ad v) :: (fg_as ad L).filter (fun q => !(q.1 == a) && (!(q.1 == a + 1) && !(q.1 + 1 == a && q.2.category == 2))))) : fg_LV ad ls' ml ((L.set a (some v)).set (a + 1) none) := by
  refine ⟨by simpa using hlen, h.1, h.2.1, fun k w hk => ?_⟩
  rw [List.getElem?_set] at hk
  by_cases e0 : a + 1 = k
  · rw [if_pos e0] at hk
    split at hk <;> cases hk
  rw [if_neg e0, List.getElem?_set] at hk
  by_cases e : a = k
  · subst e
    rw [if_pos rfl] at hk
    split at hk
    · cases hk
      exact h.2.2 (a, fg_cv ad v) List.mem_cons_self
    · cases hk
  · rw [if_neg e] at hk
    refine h.2.2 (k, fg_cv ad w) (List.mem_cons_of_mem _ (List.mem_filter.mpr ⟨fg_as_mem.mpr ⟨w, hk, rfl⟩, ?_⟩))
    have h1 : (k == a) = false := by simpa using Ne.symm e
    have h2 : (k == a + 1) = false := by simpa using Ne.symm e0
    simp only [h1, h2, Bool.not_false, Bool.true_and, fg_cv_cat]
    by_cases e2 : k + 1 = a
    · subst e2
      simp [fg_lgb_no hg hk]
    · simp [e2]
end
section
/-! A RULE OF THE REAL MACHINE FOR EACH INSTRUCTION OF THE ABSTRACT ONE (laid by wip/whole/genops.py) -/
/-- a method's run on the machine: all but the launch -/
abbrev fg_Ga : Type := Program × Env × Room × State × MethodId × Array Value × List Frame × Method × Code × (Array Value → State → Outcome → State → Prop)
def fg_E (Λ : fg_La) (U : State) : Prop := va_K (fg_D Λ) vwCl (fg_tys Λ) U ∧ ∀ w ∈ fg_nest, va_Nw w U
/-- what holds all through a method's run -/
def fg_Cx (Λ : fg_La) (Γ : fg_Ga) (d : Nat) (M : fg_M) : Prop := match Γ with
  | (p, _, R, s, m, args, _, meth, c, _) => p.tables.exec = Jvm.exec ∧ c.code = M.2.1 ∧ c.maxLocals = M.2.2.1 ∧ meth.sig.returnType = M.2.2.2 ∧ meth.locks = false ∧ s.vm.findClass M.1.cls = some m.cls ∧ (∀ w ∈ fg_T, w.before args s = true) ∧ fg_E Λ s ∧ d ≤ R.frames ∧ 30 * d ≤ R.locals ∧ fg_inj Λ
/-- from here, with this picture, the method comes to its end -/
def fg_Wt (l : Launch) (Λ : fg_La) (Γ : fg_Ga) (ml pc : Nat) (L : List (Option Value)) (st : List Value) (σ : fg_St) : Prop := match Γ with
  | (p, e, R, s, m, args, below, meth, c, Qc) => ∀ (H : Heap) (locs : List Loc) (ls : Array Slot), va_P (fg_D Λ) vwCl (fg_ws Λ σ) H → va_S (fg_A Λ) s.heap H locs → fg_LV Λ.1 ls ml L → W p l e R s m args below meth c H locs 0 0 (MQ below Qc args s 0 0 (fg_A Λ)) (F0 m pc ls (st.map (fg_cv Λ.1)))
section
variable {l : Launch} {Λ : fg_La} {Γ : fg_Ga} {d pc : Nat} {M : fg_M} {L : List (Option Value)} {st : List Value} {σ : fg_St}
theorem fg_o_iconst {n : Int} {v : Int32} (C : fg_Cx Λ Γ d M) (hd : decode M.2.1 pc = .ok (.iconst n, 1)) (hv : Int32.ofInt n = v) (k : fg_Wt l Λ Γ M.2.2.1 (pc + 1) L (.int v :: st) (σ)) : fg_Wt l Λ Γ M.2.2.1 pc L (st) σ := by
  obtain ⟨p, e, R, s, m, args, below, meth, c, Qc⟩ := Γ
  obtain ⟨hx, hb, hml, hr, hlk, hown, hts, hE, hf, hlo, hin⟩ := C
  intro H locs ls hP hS hl
  exact lv_iconst hx hb hd hv (k H locs ls hP hS hl)
theorem fg_o_bipush {n : Int} {v : Int32} (C : fg_Cx Λ Γ d M) (hd : decode M.2.1 pc = .ok (.bipush n, 2)) (hv : (Int8.ofInt n).toInt32 = v) (k : fg_Wt l Λ Γ M.2.2.1 (pc + 2) L (.int v :: st) (σ)) : fg_Wt l Λ Γ M.2.2.1 pc L (st) σ := by
  obtain ⟨p, e, R, s, m, args, below, meth, c, Qc⟩ := Γ
  obtain ⟨hx, hb, hml, hr, hlk, hown, hts, hE, hf, hlo, hin⟩ := C
  intro H locs ls hP hS hl
  exact lv_bipush hx hb hd hv (k H locs ls hP hS hl)
theorem fg_o_sipush {n : Int} {v : Int32} (C : fg_Cx Λ Γ d M) (hd : decode M.2.1 pc = .ok (.sipush n, 3)) (hv : (Int16.ofInt n).toInt32 = v) (k : fg_Wt l Λ Γ M.2.2.1 (pc + 3) L (.int v :: st) (σ)) : fg_Wt l Λ Γ M.2.2.1 pc L (st) σ := by
  obtain ⟨p, e, R, s, m, args, below, meth, c, Qc⟩ := Γ
  obtain ⟨hx, hb, hml, hr, hlk, hown, hts, hE, hf, hlo, hin⟩ := C
  intro H locs ls hP hS hl
  exact lv_sipush hx hb hd hv (k H locs ls hP hS hl)
theorem fg_o_ldc {x : Nat} {v : Int32} (C : fg_Cx Λ Γ d M) (hd : decode M.2.1 pc = .ok (.ldc x, 2)) (hw : Jvm.Cond.constant M.1.cls x v ∈ fg_T) (k : fg_Wt l Λ Γ M.2.2.1 (pc + 2) L (.int v :: st) (σ)) : fg_Wt l Λ Γ M.2.2.1 pc L (st) σ := by
  obtain ⟨p, e, R, s, m, args, below, meth, c, Qc⟩ := Γ
  obtain ⟨hx, hb, hml, hr, hlk, hown, hts, hE, hf, hlo, hin⟩ := C
  intro H locs ls hP hS hl
  exact lv_ldc hx hb hown (hts _ hw) hd (k H locs ls hP hS hl)
theorem fg_o_ldcw {x : Nat} {v : Int32} (C : fg_Cx Λ Γ d M) (hd : decode M.2.1 pc = .ok (.ldc_w x, 3)) (hw : Jvm.Cond.constant M.1.cls x v ∈ fg_T) (k : fg_Wt l Λ Γ M.2.2.1 (pc + 3) L (.int v :: st) (σ)) : fg_Wt l Λ Γ M.2.2.1 pc L (st) σ := by
  obtain ⟨p, e, R, s, m, args, below, meth, c, Qc⟩ := Γ
  obtain ⟨hx, hb, hml, hr, hlk, hown, hts, hE, hf, hlo, hin⟩ := C
  intro H locs ls hP hS hl
  exact lv_ldcw hx hb hown (hts _ hw) hd (k H locs ls hP hS hl)
theorem fg_o_lconst {n : Fin 2} {v : Int64} (C : fg_Cx Λ Γ d M) (hd : decode M.2.1 pc = .ok (.lconst n, 1)) (hv : Int64.ofNat (n : Nat) = v) (k : fg_Wt l Λ Γ M.2.2.1 (pc + 1) L (.long v :: st) (σ)) : fg_Wt l Λ Γ M.2.2.1 pc L (st) σ := by
  obtain ⟨p, e, R, s, m, args, below, meth, c, Qc⟩ := Γ
  obtain ⟨hx, hb, hml, hr, hlk, hown, hts, hE, hf, hlo, hin⟩ := C
  intro H locs ls hP hS hl
  exact lv_lconst hx hb hd hv (k H locs ls hP hS hl)
theorem fg_o_ldc2 {x : Nat} {v : Int64} (C : fg_Cx Λ Γ d M) (hd : decode M.2.1 pc = .ok (.ldc2_w x, 3)) (hw : Jvm.Cond.constantLong M.1.cls x v ∈ fg_T) (k : fg_Wt l Λ Γ M.2.2.1 (pc + 3) L (.long v :: st) (σ)) : fg_Wt l Λ Γ M.2.2.1 pc L (st) σ := by
  obtain ⟨p, e, R, s, m, args, below, meth, c, Qc⟩ := Γ
  obtain ⟨hx, hb, hml, hr, hlk, hown, hts, hE, hf, hlo, hin⟩ := C
  intro H locs ls hP hS hl
  exact lv_ldc2 hx hb hown (hts _ hw) hd (k H locs ls hP hS hl)
theorem fg_o_iload_n {k0 : Fin 4} {a : Nat} {x : Int32} (C : fg_Cx Λ Γ d M) (hd : decode M.2.1 pc = .ok (.iload_n k0, 1)) (ha : (k0 : Nat) = a) (hL : L[a]? = some (some (.int x))) (k : fg_Wt l Λ Γ M.2.2.1 (pc + 1) L (.int x :: st) (σ)) : fg_Wt l Λ Γ M.2.2.1 pc L (st) σ := by
  obtain ⟨p, e, R, s, m, args, below, meth, c, Qc⟩ := Γ
  obtain ⟨hx, hb, hml, hr, hlk, hown, hts, hE, hf, hlo, hin⟩ := C
  intro H locs ls hP hS hl
  exact lv_iload_n hx hb hd ha (hl.2.2.2 _ _ hL) (k H locs ls hP hS hl)
theorem fg_o_iload {a : Nat} {x : Int32} (C : fg_Cx Λ Γ d M) (hd : decode M.2.1 pc = .ok (.iload a, 2)) (hL : L[a]? = some (some (.int x))) (k : fg_Wt l Λ Γ M.2.2.1 (pc + 2) L (.int x :: st) (σ)) : fg_Wt l Λ Γ M.2.2.1 pc L (st) σ := by
  obtain ⟨p, e, R, s, m, args, below, meth, c, Qc⟩ := Γ
  obtain ⟨hx, hb, hml, hr, hlk, hown, hts, hE, hf, hlo, hin⟩ := C
  intro H locs ls hP hS hl
  exact lv_iload hx hb hd (hl.2.2.2 _ _ hL) (k H locs ls hP hS hl)
theorem fg_o_aload_n {k0 : Fin 4} {a : Nat} {x : Nat} (C : fg_Cx Λ Γ d M) (hd : decode M.2.1 pc = .ok (.aload_n k0, 1)) (ha : (k0 : Nat) = a) (hL : L[a]? = some (some (.ref x))) (k : fg_Wt l Λ Γ M.2.2.1 (pc + 1) L (.ref x :: st) (σ)) : fg_Wt l Λ Γ M.2.2.1 pc L (st) σ := by
  obtain ⟨p, e, R, s, m, args, below, meth, c, Qc⟩ := Γ
  obtain ⟨hx, hb, hml, hr, hlk, hown, hts, hE, hf, hlo, hin⟩ := C
  intro H locs ls hP hS hl
  exact lv_aload_n hx hb hd ha (hl.2.2.2 _ _ hL) (k H locs ls hP hS hl)
theorem fg_o_aload {a : Nat} {x : Nat} (C : fg_Cx Λ Γ d M) (hd : decode M.2.1 pc = .ok (.aload a, 2)) (hL : L[a]? = some (some (.ref x))) (k : fg_Wt l Λ Γ M.2.2.1 (pc + 2) L (.ref x :: st) (σ)) : fg_Wt l Λ Γ M.2.2.1 pc L (st) σ := by
  obtain ⟨p, e, R, s, m, args, below, meth, c, Qc⟩ := Γ
  obtain ⟨hx, hb, hml, hr, hlk, hown, hts, hE, hf, hlo, hin⟩ := C
  intro H locs ls hP hS hl
  exact lv_aload hx hb hd (hl.2.2.2 _ _ hL) (k H locs ls hP hS hl)
theorem fg_o_lload_n {k0 : Fin 4} {a : Nat} {x : Int64} (C : fg_Cx Λ Γ d M) (hd : decode M.2.1 pc = .ok (.lload_n k0, 1)) (ha : (k0 : Nat) = a) (hL : L[a]? = some (some (.long x))) (k : fg_Wt l Λ Γ M.2.2.1 (pc + 1) L (.long x :: st) (σ)) : fg_Wt l Λ Γ M.2.2.1 pc L (st) σ := by
  obtain ⟨p, e, R, s, m, args, below, meth, c, Qc⟩ := Γ
  obtain ⟨hx, hb, hml, hr, hlk, hown, hts, hE, hf, hlo, hin⟩ := C
  intro H locs ls hP hS hl
  exact lv_lload_n hx hb hd ha (hl.2.2.2 _ _ hL) (k H locs ls hP hS hl)
theorem fg_o_lload {a : Nat} {x : Int64} (C : fg_Cx Λ Γ d M) (hd : decode M.2.1 pc = .ok (.lload a, 2)) (hL : L[a]? = some (some (.long x))) (k : fg_Wt l Λ Γ M.2.2.1 (pc + 2) L (.long x :: st) (σ)) : fg_Wt l Λ Γ M.2.2.1 pc L (st) σ := by
  obtain ⟨p, e, R, s, m, args, below, meth, c, Qc⟩ := Γ
  obtain ⟨hx, hb, hml, hr, hlk, hown, hts, hE, hf, hlo, hin⟩ := C
  intro H locs ls hP hS hl
  exact lv_lload hx hb hd (hl.2.2.2 _ _ hL) (k H locs ls hP hS hl)
theorem fg_o_istore_n {k0 : Fin 4} {a : Nat} {x : Int32} (C : fg_Cx Λ Γ d M) (hd : decode M.2.1 pc = .ok (.istore_n k0, 1)) (ha : (k0 : Nat) = a) (hn : a < L.length) (hg : fg_lgb L a = false) (k : fg_Wt l Λ Γ M.2.2.1 (pc + 1) (L.set a (some (.int x))) (st) (σ)) : fg_Wt l Λ Γ M.2.2.1 pc L (.int x :: st) σ := by
  obtain ⟨p, e, R, s, m, args, below, meth, c, Qc⟩ := Γ
  obtain ⟨hx, hb, hml, hr, hlk, hown, hts, hE, hf, hlo, hin⟩ := C
  intro H locs ls hP hS hl
  exact lv_istore_n hx hb hd ha hl.has (hl.1 ▸ hn) rfl (fun ls2 h2 => k H locs ls2 hP hS (fg_LV.put1 hl.1 rfl hg h2))
theorem fg_o_istore {a : Nat} {x : Int32} (C : fg_Cx Λ Γ d M) (hd : decode M.2.1 pc = .ok (.istore a, 2)) (hn : a < L.length) (hg : fg_lgb L a = false) (k : fg_Wt l Λ Γ M.2.2.1 (pc + 2) (L.set a (some (.int x))) (st) (σ)) : fg_Wt l Λ Γ M.2.2.1 pc L (.int x :: st) σ := by
  obtain ⟨p, e, R, s, m, args, below, meth, c, Qc⟩ := Γ
  obtain ⟨hx, hb, hml, hr, hlk, hown, hts, hE, hf, hlo, hin⟩ := C
  intro H locs ls hP hS hl
  exact lv_istore hx hb hd hl.has (hl.1 ▸ hn) rfl (fun ls2 h2 => k H locs ls2 hP hS (fg_LV.put1 hl.1 rfl hg h2))
theorem fg_o_astore_n {k0 : Fin 4} {a : Nat} {x : Nat} (C : fg_Cx Λ Γ d M) (hd : decode M.2.1 pc = .ok (.astore_n k0, 1)) (ha : (k0 : Nat) = a) (hn : a < L.length) (hg : fg_lgb L a = false) (k : fg_Wt l Λ Γ M.2.2.1 (pc + 1) (L.set a (some (.ref x))) (st) (σ)) : fg_Wt l Λ Γ M.2.2.1 pc L (.ref x :: st) σ := by
  obtain ⟨p, e, R, s, m, args, below, meth, c, Qc⟩ := Γ
  obtain ⟨hx, hb, hml, hr, hlk, hown, hts, hE, hf, hlo, hin⟩ := C
  intro H locs ls hP hS hl
  exact lv_astore_n hx hb hd ha hl.has (hl.1 ▸ hn) rfl (fun ls2 h2 => k H locs ls2 hP hS (fg_LV.put1 hl.1 rfl hg h2))
theorem fg_o_astore {a : Nat} {x : Nat} (C : fg_Cx Λ Γ d M) (hd : decode M.2.1 pc = .ok (.astore a, 2)) (hn : a < L.length) (hg : fg_lgb L a = false) (k : fg_Wt l Λ Γ M.2.2.1 (pc + 2) (L.set a (some (.ref x))) (st) (σ)) : fg_Wt l Λ Γ M.2.2.1 pc L (.ref x :: st) σ := by
  obtain ⟨p, e, R, s, m, args, below, meth, c, Qc⟩ := Γ
  obtain ⟨hx, hb, hml, hr, hlk, hown, hts, hE, hf, hlo, hin⟩ := C
  intro H locs ls hP hS hl
  exact lv_astore hx hb hd hl.has (hl.1 ▸ hn) rfl (fun ls2 h2 => k H locs ls2 hP hS (fg_LV.put1 hl.1 rfl hg h2))
theorem fg_o_lstore_n {k0 : Fin 4} {a : Nat} {x : Int64} (C : fg_Cx Λ Γ d M) (hd : decode M.2.1 pc = .ok (.lstore_n k0, 1)) (ha : (k0 : Nat) = a) (hn : a + 1 < L.length) (hg : fg_lgb L a = false) (k : fg_Wt l Λ Γ M.2.2.1 (pc + 1) ((L.set a (some (.long x))).set (a + 1) none) (st) (σ)) : fg_Wt l Λ Γ M.2.2.1 pc L (.long x :: st) σ := by
  obtain ⟨p, e, R, s, m, args, below, meth, c, Qc⟩ := Γ
  obtain ⟨hx, hb, hml, hr, hlk, hown, hts, hE, hf, hlo, hin⟩ := C
  intro H locs ls hP hS hl
  exact lv_lstore_n hx hb hd ha hl.has (hl.1 ▸ hn) rfl (fun ls2 h2 => k H locs ls2 hP hS (fg_LV.put2 hl.1 rfl hg h2))
theorem fg_o_lstore {a : Nat} {x : Int64} (C : fg_Cx Λ Γ d M) (hd : decode M.2.1 pc = .ok (.lstore a, 2)) (hn : a + 1 < L.length) (hg : fg_lgb L a = false) (k : fg_Wt l Λ Γ M.2.2.1 (pc + 2) ((L.set a (some (.long x))).set (a + 1) none) (st) (σ)) : fg_Wt l Λ Γ M.2.2.1 pc L (.long x :: st) σ := by
  obtain ⟨p, e, R, s, m, args, below, meth, c, Qc⟩ := Γ
  obtain ⟨hx, hb, hml, hr, hlk, hown, hts, hE, hf, hlo, hin⟩ := C
  intro H locs ls hP hS hl
  exact lv_lstore hx hb hd hl.has (hl.1 ▸ hn) rfl (fun ls2 h2 => k H locs ls2 hP hS (fg_LV.put2 hl.1 rfl hg h2))
theorem fg_o_iinc {a : Nat} {n : Int} {x v : Int32} (C : fg_Cx Λ Γ d M) (hd : decode M.2.1 pc = .ok (.iinc a n, 3)) (hv : Int32.ofInt n = v) (hL : L[a]? = some (some (.int x))) (hg : fg_lgb L a = false) (k : fg_Wt l Λ Γ M.2.2.1 (pc + 3) (L.set a (some (.int (x + v)))) st σ) : fg_Wt l Λ Γ M.2.2.1 pc L st σ := by
  obtain ⟨p, e, R, s, m, args, below, meth, c, Qc⟩ := Γ
  obtain ⟨hx, hb, hml, hr, hlk, hown, hts, hE, hf, hlo, hin⟩ := C
  intro H locs ls hP hS hl
  subst hv
  obtain ⟨j, hj⟩ := List.getElem?_of_mem (fg_as_mem.mpr ⟨.int x, hL, rfl⟩ : (a, Value.int x) ∈ fg_as Λ.1 L)
  exact lv_iinc hx hb hd hl.has hj rfl (hl.1 ▸ (List.getElem?_eq_some_iff.mp hL).1) rfl (fun ls2 h2 => k H locs ls2 hP hS (fg_LV.put1 (v := .int (x + Int32.ofInt n)) hl.1 rfl hg h2))
theorem fg_o_iadd {x y : Int32} (C : fg_Cx Λ Γ d M) (hd : decode M.2.1 pc = .ok (.iadd, 1)) (k : fg_Wt l Λ Γ M.2.2.1 (pc + 1) L (.int (x + y) :: st) (σ)) : fg_Wt l Λ Γ M.2.2.1 pc L (.int y :: .int x :: st) σ := by
  obtain ⟨p, e, R, s, m, args, below, meth, c, Qc⟩ := Γ
  obtain ⟨hx, hb, hml, hr, hlk, hown, hts, hE, hf, hlo, hin⟩ := C
  intro H locs ls hP hS hl
  exact lv_iadd hx hb hd (k H locs ls hP hS hl)
theorem fg_o_isub {x y : Int32} (C : fg_Cx Λ Γ d M) (hd : decode M.2.1 pc = .ok (.isub, 1)) (k : fg_Wt l Λ Γ M.2.2.1 (pc + 1) L (.int (x - y) :: st) (σ)) : fg_Wt l Λ Γ M.2.2.1 pc L (.int y :: .int x :: st) σ := by
  obtain ⟨p, e, R, s, m, args, below, meth, c, Qc⟩ := Γ
  obtain ⟨hx, hb, hml, hr, hlk, hown, hts, hE, hf, hlo, hin⟩ := C
  intro H locs ls hP hS hl
  exact lv_isub hx hb hd (k H locs ls hP hS hl)
theorem fg_o_imul {x y : Int32} (C : fg_Cx Λ Γ d M) (hd : decode M.2.1 pc = .ok (.imul, 1)) (k : fg_Wt l Λ Γ M.2.2.1 (pc + 1) L (.int (x * y) :: st) (σ)) : fg_Wt l Λ Γ M.2.2.1 pc L (.int y :: .int x :: st) σ := by
  obtain ⟨p, e, R, s, m, args, below, meth, c, Qc⟩ := Γ
  obtain ⟨hx, hb, hml, hr, hlk, hown, hts, hE, hf, hlo, hin⟩ := C
  intro H locs ls hP hS hl
  exact lv_imul hx hb hd (k H locs ls hP hS hl)
theorem fg_o_iand {x y : Int32} (C : fg_Cx Λ Γ d M) (hd : decode M.2.1 pc = .ok (.iand, 1)) (k : fg_Wt l Λ Γ M.2.2.1 (pc + 1) L (.int (x &&& y) :: st) (σ)) : fg_Wt l Λ Γ M.2.2.1 pc L (.int y :: .int x :: st) σ := by
  obtain ⟨p, e, R, s, m, args, below, meth, c, Qc⟩ := Γ
  obtain ⟨hx, hb, hml, hr, hlk, hown, hts, hE, hf, hlo, hin⟩ := C
  intro H locs ls hP hS hl
  exact lv_iand hx hb hd (k H locs ls hP hS hl)
theorem fg_o_ior {x y : Int32} (C : fg_Cx Λ Γ d M) (hd : decode M.2.1 pc = .ok (.ior, 1)) (k : fg_Wt l Λ Γ M.2.2.1 (pc + 1) L (.int (x ||| y) :: st) (σ)) : fg_Wt l Λ Γ M.2.2.1 pc L (.int y :: .int x :: st) σ := by
  obtain ⟨p, e, R, s, m, args, below, meth, c, Qc⟩ := Γ
  obtain ⟨hx, hb, hml, hr, hlk, hown, hts, hE, hf, hlo, hin⟩ := C
  intro H locs ls hP hS hl
  exact lv_ior hx hb hd (k H locs ls hP hS hl)
theorem fg_o_ixor {x y : Int32} (C : fg_Cx Λ Γ d M) (hd : decode M.2.1 pc = .ok (.ixor, 1)) (k : fg_Wt l Λ Γ M.2.2.1 (pc + 1) L (.int (x ^^^ y) :: st) (σ)) : fg_Wt l Λ Γ M.2.2.1 pc L (.int y :: .int x :: st) σ := by
  obtain ⟨p, e, R, s, m, args, below, meth, c, Qc⟩ := Γ
  obtain ⟨hx, hb, hml, hr, hlk, hown, hts, hE, hf, hlo, hin⟩ := C
  intro H locs ls hP hS hl
  exact lv_ixor hx hb hd (k H locs ls hP hS hl)
theorem fg_o_ishl {x y : Int32} (C : fg_Cx Λ Γ d M) (hd : decode M.2.1 pc = .ok (.ishl, 1)) (k : fg_Wt l Λ Γ M.2.2.1 (pc + 1) L (.int (x <<< (y &&& 31)) :: st) (σ)) : fg_Wt l Λ Γ M.2.2.1 pc L (.int y :: .int x :: st) σ := by
  obtain ⟨p, e, R, s, m, args, below, meth, c, Qc⟩ := Γ
  obtain ⟨hx, hb, hml, hr, hlk, hown, hts, hE, hf, hlo, hin⟩ := C
  intro H locs ls hP hS hl
  exact lv_ishl hx hb hd (k H locs ls hP hS hl)
theorem fg_o_ishr {x y : Int32} (C : fg_Cx Λ Γ d M) (hd : decode M.2.1 pc = .ok (.ishr, 1)) (k : fg_Wt l Λ Γ M.2.2.1 (pc + 1) L (.int (x >>> (y &&& 31)) :: st) (σ)) : fg_Wt l Λ Γ M.2.2.1 pc L (.int y :: .int x :: st) σ := by
  obtain ⟨p, e, R, s, m, args, below, meth, c, Qc⟩ := Γ
  obtain ⟨hx, hb, hml, hr, hlk, hown, hts, hE, hf, hlo, hin⟩ := C
  intro H locs ls hP hS hl
  exact lv_ishr hx hb hd (k H locs ls hP hS hl)
theorem fg_o_iushr {x y : Int32} (C : fg_Cx Λ Γ d M) (hd : decode M.2.1 pc = .ok (.iushr, 1)) (k : fg_Wt l Λ Γ M.2.2.1 (pc + 1) L (.int ((x.toUInt32 >>> (y.toUInt32 &&& Int32.toUInt32 31)).toInt32) :: st) (σ)) : fg_Wt l Λ Γ M.2.2.1 pc L (.int y :: .int x :: st) σ := by
  obtain ⟨p, e, R, s, m, args, below, meth, c, Qc⟩ := Γ
  obtain ⟨hx, hb, hml, hr, hlk, hown, hts, hE, hf, hlo, hin⟩ := C
  intro H locs ls hP hS hl
  exact lv_iushr hx hb hd rfl (k H locs ls hP hS hl)
theorem fg_o_idiv {x y : Int32} (C : fg_Cx Λ Γ d M) (hd : decode M.2.1 pc = .ok (.idiv, 1)) (hne : ¬ y = 0) (k : fg_Wt l Λ Γ M.2.2.1 (pc + 1) L (.int (x / y) :: st) (σ)) : fg_Wt l Λ Γ M.2.2.1 pc L (.int y :: .int x :: st) σ := by
  obtain ⟨p, e, R, s, m, args, below, meth, c, Qc⟩ := Γ
  obtain ⟨hx, hb, hml, hr, hlk, hown, hts, hE, hf, hlo, hin⟩ := C
  intro H locs ls hP hS hl
  exact lv_idiv hx hb hd hne (k H locs ls hP hS hl)
theorem fg_o_irem {x y : Int32} (C : fg_Cx Λ Γ d M) (hd : decode M.2.1 pc = .ok (.irem, 1)) (hne : ¬ y = 0) (k : fg_Wt l Λ Γ M.2.2.1 (pc + 1) L (.int (x - x / y * y) :: st) (σ)) : fg_Wt l Λ Γ M.2.2.1 pc L (.int y :: .int x :: st) σ := by
  obtain ⟨p, e, R, s, m, args, below, meth, c, Qc⟩ := Γ
  obtain ⟨hx, hb, hml, hr, hlk, hown, hts, hE, hf, hlo, hin⟩ := C
  intro H locs ls hP hS hl
  exact lv_irem hx hb hd hne (k H locs ls hP hS hl)
theorem fg_o_ldiv {x y : Int64} (C : fg_Cx Λ Γ d M) (hd : decode M.2.1 pc = .ok (.ldiv, 1)) (hne : ¬ y = 0) (k : fg_Wt l Λ Γ M.2.2.1 (pc + 1) L (.long (x / y) :: st) (σ)) : fg_Wt l Λ Γ M.2.2.1 pc L (.long y :: .long x :: st) σ := by
  obtain ⟨p, e, R, s, m, args, below, meth, c, Qc⟩ := Γ
  obtain ⟨hx, hb, hml, hr, hlk, hown, hts, hE, hf, hlo, hin⟩ := C
  intro H locs ls hP hS hl
  exact lv_ldiv hx hb hd hne (k H locs ls hP hS hl)
theorem fg_o_lrem {x y : Int64} (C : fg_Cx Λ Γ d M) (hd : decode M.2.1 pc = .ok (.lrem, 1)) (hne : ¬ y = 0) (k : fg_Wt l Λ Γ M.2.2.1 (pc + 1) L (.long (x - x / y * y) :: st) (σ)) : fg_Wt l Λ Γ M.2.2.1 pc L (.long y :: .long x :: st) σ := by
  obtain ⟨p, e, R, s, m, args, below, meth, c, Qc⟩ := Γ
  obtain ⟨hx, hb, hml, hr, hlk, hown, hts, hE, hf, hlo, hin⟩ := C
  intro H locs ls hP hS hl
  exact lv_lrem hx hb hd hne (k H locs ls hP hS hl)
theorem fg_o_ladd {x y : Int64} (C : fg_Cx Λ Γ d M) (hd : decode M.2.1 pc = .ok (.ladd, 1)) (k : fg_Wt l Λ Γ M.2.2.1 (pc + 1) L (.long (x + y) :: st) (σ)) : fg_Wt l Λ Γ M.2.2.1 pc L (.long y :: .long x :: st) σ := by
  obtain ⟨p, e, R, s, m, args, below, meth, c, Qc⟩ := Γ
  obtain ⟨hx, hb, hml, hr, hlk, hown, hts, hE, hf, hlo, hin⟩ := C
  intro H locs ls hP hS hl
  exact lv_ladd hx hb hd (k H locs ls hP hS hl)
theorem fg_o_lmul {x y : Int64} (C : fg_Cx Λ Γ d M) (hd : decode M.2.1 pc = .ok (.lmul, 1)) (k : fg_Wt l Λ Γ M.2.2.1 (pc + 1) L (.long (x * y) :: st) (σ)) : fg_Wt l Λ Γ M.2.2.1 pc L (.long y :: .long x :: st) σ := by
  obtain ⟨p, e, R, s, m, args, below, meth, c, Qc⟩ := Γ
  obtain ⟨hx, hb, hml, hr, hlk, hown, hts, hE, hf, hlo, hin⟩ := C
  intro H locs ls hP hS hl
  exact lv_lmul hx hb hd (k H locs ls hP hS hl)
theorem fg_o_land {x y : Int64} (C : fg_Cx Λ Γ d M) (hd : decode M.2.1 pc = .ok (.land, 1)) (k : fg_Wt l Λ Γ M.2.2.1 (pc + 1) L (.long (x &&& y) :: st) (σ)) : fg_Wt l Λ Γ M.2.2.1 pc L (.long y :: .long x :: st) σ := by
  obtain ⟨p, e, R, s, m, args, below, meth, c, Qc⟩ := Γ
  obtain ⟨hx, hb, hml, hr, hlk, hown, hts, hE, hf, hlo, hin⟩ := C
  intro H locs ls hP hS hl
  exact lv_land hx hb hd (k H locs ls hP hS hl)
theorem fg_o_ineg {x : Int32} (C : fg_Cx Λ Γ d M) (hd : decode M.2.1 pc = .ok (.ineg, 1)) (k : fg_Wt l Λ Γ M.2.2.1 (pc + 1) L (.int (-x) :: st) (σ)) : fg_Wt l Λ Γ M.2.2.1 pc L (.int x :: st) σ := by
  obtain ⟨p, e, R, s, m, args, below, meth, c, Qc⟩ := Γ
  obtain ⟨hx, hb, hml, hr, hlk, hown, hts, hE, hf, hlo, hin⟩ := C
  intro H locs ls hP hS hl
  exact lv_ineg hx hb hd (k H locs ls hP hS hl)
theorem fg_o_i2l {x : Int32} (C : fg_Cx Λ Γ d M) (hd : decode M.2.1 pc = .ok (.i2l, 1)) (k : fg_Wt l Λ Γ M.2.2.1 (pc + 1) L (.long x.toInt64 :: st) (σ)) : fg_Wt l Λ Γ M.2.2.1 pc L (.int x :: st) σ := by
  obtain ⟨p, e, R, s, m, args, below, meth, c, Qc⟩ := Γ
  obtain ⟨hx, hb, hml, hr, hlk, hown, hts, hE, hf, hlo, hin⟩ := C
  intro H locs ls hP hS hl
  exact lv_i2l hx hb hd rfl (k H locs ls hP hS hl)
theorem fg_o_l2i {x : Int64} (C : fg_Cx Λ Γ d M) (hd : decode M.2.1 pc = .ok (.l2i, 1)) (k : fg_Wt l Λ Γ M.2.2.1 (pc + 1) L (.int x.toInt32 :: st) (σ)) : fg_Wt l Λ Γ M.2.2.1 pc L (.long x :: st) σ := by
  obtain ⟨p, e, R, s, m, args, below, meth, c, Qc⟩ := Γ
  obtain ⟨hx, hb, hml, hr, hlk, hown, hts, hE, hf, hlo, hin⟩ := C
  intro H locs ls hP hS hl
  exact lv_l2i hx hb hd rfl (k H locs ls hP hS hl)
theorem fg_o_lcmp {x y : Int64} (C : fg_Cx Λ Γ d M) (hd : decode M.2.1 pc = .ok (.lcmp, 1)) (k : fg_Wt l Λ Γ M.2.2.1 (pc + 1) L (.int (lg_cmp x y) :: st) (σ)) : fg_Wt l Λ Γ M.2.2.1 pc L (.long y :: .long x :: st) σ := by
  obtain ⟨p, e, R, s, m, args, below, meth, c, Qc⟩ := Γ
  obtain ⟨hx, hb, hml, hr, hlk, hown, hts, hE, hf, hlo, hin⟩ := C
  intro H locs ls hP hS hl
  exact W.lcmp hx hb hd (k H locs ls hP hS hl)
theorem fg_o_dupi {x : Int32} (C : fg_Cx Λ Γ d M) (hd : decode M.2.1 pc = .ok (.dup, 1)) (k : fg_Wt l Λ Γ M.2.2.1 (pc + 1) L (.int x :: .int x :: st) (σ)) : fg_Wt l Λ Γ M.2.2.1 pc L (.int x :: st) σ := by
  obtain ⟨p, e, R, s, m, args, below, meth, c, Qc⟩ := Γ
  obtain ⟨hx, hb, hml, hr, hlk, hown, hts, hE, hf, hlo, hin⟩ := C
  intro H locs ls hP hS hl
  exact lv_dup hx hb hd rfl (k H locs ls hP hS hl)
theorem fg_o_popi {x : Int32} (C : fg_Cx Λ Γ d M) (hd : decode M.2.1 pc = .ok (.pop, 1)) (k : fg_Wt l Λ Γ M.2.2.1 (pc + 1) L (st) (σ)) : fg_Wt l Λ Γ M.2.2.1 pc L (.int x :: st) σ := by
  obtain ⟨p, e, R, s, m, args, below, meth, c, Qc⟩ := Γ
  obtain ⟨hx, hb, hml, hr, hlk, hown, hts, hE, hf, hlo, hin⟩ := C
  intro H locs ls hP hS hl
  exact lv_pop hx hb hd rfl (k H locs ls hP hS hl)
theorem fg_o_dupa {x : Nat} (C : fg_Cx Λ Γ d M) (hd : decode M.2.1 pc = .ok (.dup, 1)) (k : fg_Wt l Λ Γ M.2.2.1 (pc + 1) L (.ref x :: .ref x :: st) (σ)) : fg_Wt l Λ Γ M.2.2.1 pc L (.ref x :: st) σ := by
  obtain ⟨p, e, R, s, m, args, below, meth, c, Qc⟩ := Γ
  obtain ⟨hx, hb, hml, hr, hlk, hown, hts, hE, hf, hlo, hin⟩ := C
  intro H locs ls hP hS hl
  exact lv_dup hx hb hd rfl (k H locs ls hP hS hl)
theorem fg_o_popa {x : Nat} (C : fg_Cx Λ Γ d M) (hd : decode M.2.1 pc = .ok (.pop, 1)) (k : fg_Wt l Λ Γ M.2.2.1 (pc + 1) L (st) (σ)) : fg_Wt l Λ Γ M.2.2.1 pc L (.ref x :: st) σ := by
  obtain ⟨p, e, R, s, m, args, below, meth, c, Qc⟩ := Γ
  obtain ⟨hx, hb, hml, hr, hlk, hown, hts, hE, hf, hlo, hin⟩ := C
  intro H locs ls hP hS hl
  exact lv_pop hx hb hd rfl (k H locs ls hP hS hl)
theorem fg_o_dup2 {x : Int32} {y : Nat} (C : fg_Cx Λ Γ d M) (hd : decode M.2.1 pc = .ok (.dup2, 1)) (k : fg_Wt l Λ Γ M.2.2.1 (pc + 1) L (.int x :: .ref y :: .int x :: .ref y :: st) (σ)) : fg_Wt l Λ Γ M.2.2.1 pc L (.int x :: .ref y :: st) σ := by
  obtain ⟨p, e, R, s, m, args, below, meth, c, Qc⟩ := Γ
  obtain ⟨hx, hb, hml, hr, hlk, hown, hts, hE, hf, hlo, hin⟩ := C
  intro H locs ls hP hS hl
  exact lv_dup2_11 hx hb hd rfl rfl (k H locs ls hP hS hl)
theorem fg_o_goto {off : Int} {t : Nat} (C : fg_Cx Λ Γ d M) (hd : decode M.2.1 pc = .ok (.goto off, 3)) (ht : (pc : Int) + off = (t : Int)) (k : fg_Wt l Λ Γ M.2.2.1 t L (st) (σ)) : fg_Wt l Λ Γ M.2.2.1 pc L (st) σ := by
  obtain ⟨p, e, R, s, m, args, below, meth, c, Qc⟩ := Γ
  obtain ⟨hx, hb, hml, hr, hlk, hown, hts, hE, hf, hlo, hin⟩ := C
  intro H locs ls hP hS hl
  exact lv_goto hx hb hd ht (k H locs ls hP hS hl)
theorem fg_o_if_eq {x : Int32} {off : Int} {t : Nat} (C : fg_Cx Λ Γ d M) (hd : decode M.2.1 pc = .ok (.ifCond .eq off, 3)) (ht : (pc : Int) + off = (t : Int)) (kt : x = 0 → fg_Wt l Λ Γ M.2.2.1 t L st σ) (kf : ¬ (x = 0) → fg_Wt l Λ Γ M.2.2.1 (pc + 3) L st σ) : fg_Wt l Λ Γ M.2.2.1 pc L (.int x :: st) σ := by
  obtain ⟨p, e, R, s, m, args, below, meth, c, Qc⟩ := Γ
  obtain ⟨hx, hb, hml, hr, hlk, hown, hts, hE, hf, hlo, hin⟩ := C
  intro H locs ls hP hS hl
  exact lv_if_eq hx hb hd ht (fun q => kt q H locs ls hP hS hl) (fun q => kf q H locs ls hP hS hl)
theorem fg_o_icmp_eq {x y : Int32} {off : Int} {t : Nat} (C : fg_Cx Λ Γ d M) (hd : decode M.2.1 pc = .ok (.if_icmp .eq off, 3)) (ht : (pc : Int) + off = (t : Int)) (kt : x = y → fg_Wt l Λ Γ M.2.2.1 t L st σ) (kf : ¬ (x = y) → fg_Wt l Λ Γ M.2.2.1 (pc + 3) L st σ) : fg_Wt l Λ Γ M.2.2.1 pc L (.int y :: .int x :: st) σ := by
  obtain ⟨p, e, R, s, m, args, below, meth, c, Qc⟩ := Γ
  obtain ⟨hx, hb, hml, hr, hlk, hown, hts, hE, hf, hlo, hin⟩ := C
  intro H locs ls hP hS hl
  exact lv_icmp_eq hx hb hd ht (fun q => kt q H locs ls hP hS hl) (fun q => kf q H locs ls hP hS hl)
theorem fg_o_if_ne {x : Int32} {off : Int} {t : Nat} (C : fg_Cx Λ Γ d M) (hd : decode M.2.1 pc = .ok (.ifCond .ne off, 3)) (ht : (pc : Int) + off = (t : Int)) (kt : ¬ x = 0 → fg_Wt l Λ Γ M.2.2.1 t L st σ) (kf : ¬ (¬ x = 0) → fg_Wt l Λ Γ M.2.2.1 (pc + 3) L st σ) : fg_Wt l Λ Γ M.2.2.1 pc L (.int x :: st) σ := by
  obtain ⟨p, e, R, s, m, args, below, meth, c, Qc⟩ := Γ
  obtain ⟨hx, hb, hml, hr, hlk, hown, hts, hE, hf, hlo, hin⟩ := C
  intro H locs ls hP hS hl
  exact lv_if_ne hx hb hd ht (fun q => kt q H locs ls hP hS hl) (fun q => kf (fun z => z q) H locs ls hP hS hl)
theorem fg_o_icmp_ne {x y : Int32} {off : Int} {t : Nat} (C : fg_Cx Λ Γ d M) (hd : decode M.2.1 pc = .ok (.if_icmp .ne off, 3)) (ht : (pc : Int) + off = (t : Int)) (kt : ¬ x = y → fg_Wt l Λ Γ M.2.2.1 t L st σ) (kf : ¬ (¬ x = y) → fg_Wt l Λ Γ M.2.2.1 (pc + 3) L st σ) : fg_Wt l Λ Γ M.2.2.1 pc L (.int y :: .int x :: st) σ := by
  obtain ⟨p, e, R, s, m, args, below, meth, c, Qc⟩ := Γ
  obtain ⟨hx, hb, hml, hr, hlk, hown, hts, hE, hf, hlo, hin⟩ := C
  intro H locs ls hP hS hl
  exact lv_icmp_ne hx hb hd ht (fun q => kt q H locs ls hP hS hl) (fun q => kf (fun z => z q) H locs ls hP hS hl)
theorem fg_o_if_lt {x : Int32} {off : Int} {t : Nat} (C : fg_Cx Λ Γ d M) (hd : decode M.2.1 pc = .ok (.ifCond .lt off, 3)) (ht : (pc : Int) + off = (t : Int)) (kt : x < 0 → fg_Wt l Λ Γ M.2.2.1 t L st σ) (kf : ¬ (x < 0) → fg_Wt l Λ Γ M.2.2.1 (pc + 3) L st σ) : fg_Wt l Λ Γ M.2.2.1 pc L (.int x :: st) σ := by
  obtain ⟨p, e, R, s, m, args, below, meth, c, Qc⟩ := Γ
  obtain ⟨hx, hb, hml, hr, hlk, hown, hts, hE, hf, hlo, hin⟩ := C
  intro H locs ls hP hS hl
  exact lv_if_lt hx hb hd ht (fun q => kt q H locs ls hP hS hl) (fun q => kf q H locs ls hP hS hl)
theorem fg_o_icmp_lt {x y : Int32} {off : Int} {t : Nat} (C : fg_Cx Λ Γ d M) (hd : decode M.2.1 pc = .ok (.if_icmp .lt off, 3)) (ht : (pc : Int) + off = (t : Int)) (kt : x < y → fg_Wt l Λ Γ M.2.2.1 t L st σ) (kf : ¬ (x < y) → fg_Wt l Λ Γ M.2.2.1 (pc + 3) L st σ) : fg_Wt l Λ Γ M.2.2.1 pc L (.int y :: .int x :: st) σ := by
  obtain ⟨p, e, R, s, m, args, below, meth, c, Qc⟩ := Γ
  obtain ⟨hx, hb, hml, hr, hlk, hown, hts, hE, hf, hlo, hin⟩ := C
  intro H locs ls hP hS hl
  exact lv_icmp_lt hx hb hd ht (fun q => kt q H locs ls hP hS hl) (fun q => kf q H locs ls hP hS hl)
theorem fg_o_if_ge {x : Int32} {off : Int} {t : Nat} (C : fg_Cx Λ Γ d M) (hd : decode M.2.1 pc = .ok (.ifCond .ge off, 3)) (ht : (pc : Int) + off = (t : Int)) (kt : 0 ≤ x → fg_Wt l Λ Γ M.2.2.1 t L st σ) (kf : ¬ (0 ≤ x) → fg_Wt l Λ Γ M.2.2.1 (pc + 3) L st σ) : fg_Wt l Λ Γ M.2.2.1 pc L (.int x :: st) σ := by
  obtain ⟨p, e, R, s, m, args, below, meth, c, Qc⟩ := Γ
  obtain ⟨hx, hb, hml, hr, hlk, hown, hts, hE, hf, hlo, hin⟩ := C
  intro H locs ls hP hS hl
  exact lv_if_ge hx hb hd ht (fun q => kt q H locs ls hP hS hl) (fun q => kf q H locs ls hP hS hl)
theorem fg_o_icmp_ge {x y : Int32} {off : Int} {t : Nat} (C : fg_Cx Λ Γ d M) (hd : decode M.2.1 pc = .ok (.if_icmp .ge off, 3)) (ht : (pc : Int) + off = (t : Int)) (kt : y ≤ x → fg_Wt l Λ Γ M.2.2.1 t L st σ) (kf : ¬ (y ≤ x) → fg_Wt l Λ Γ M.2.2.1 (pc + 3) L st σ) : fg_Wt l Λ Γ M.2.2.1 pc L (.int y :: .int x :: st) σ := by
  obtain ⟨p, e, R, s, m, args, below, meth, c, Qc⟩ := Γ
  obtain ⟨hx, hb, hml, hr, hlk, hown, hts, hE, hf, hlo, hin⟩ := C
  intro H locs ls hP hS hl
  exact lv_icmp_ge hx hb hd ht (fun q => kt q H locs ls hP hS hl) (fun q => kf q H locs ls hP hS hl)
theorem fg_o_if_gt {x : Int32} {off : Int} {t : Nat} (C : fg_Cx Λ Γ d M) (hd : decode M.2.1 pc = .ok (.ifCond .gt off, 3)) (ht : (pc : Int) + off = (t : Int)) (kt : 0 < x → fg_Wt l Λ Γ M.2.2.1 t L st σ) (kf : ¬ (0 < x) → fg_Wt l Λ Γ M.2.2.1 (pc + 3) L st σ) : fg_Wt l Λ Γ M.2.2.1 pc L (.int x :: st) σ := by
  obtain ⟨p, e, R, s, m, args, below, meth, c, Qc⟩ := Γ
  obtain ⟨hx, hb, hml, hr, hlk, hown, hts, hE, hf, hlo, hin⟩ := C
  intro H locs ls hP hS hl
  exact lv_if_gt hx hb hd ht (fun q => kt q H locs ls hP hS hl) (fun q => kf q H locs ls hP hS hl)
theorem fg_o_icmp_gt {x y : Int32} {off : Int} {t : Nat} (C : fg_Cx Λ Γ d M) (hd : decode M.2.1 pc = .ok (.if_icmp .gt off, 3)) (ht : (pc : Int) + off = (t : Int)) (kt : y < x → fg_Wt l Λ Γ M.2.2.1 t L st σ) (kf : ¬ (y < x) → fg_Wt l Λ Γ M.2.2.1 (pc + 3) L st σ) : fg_Wt l Λ Γ M.2.2.1 pc L (.int y :: .int x :: st) σ := by
  obtain ⟨p, e, R, s, m, args, below, meth, c, Qc⟩ := Γ
  obtain ⟨hx, hb, hml, hr, hlk, hown, hts, hE, hf, hlo, hin⟩ := C
  intro H locs ls hP hS hl
  exact lv_icmp_gt hx hb hd ht (fun q => kt q H locs ls hP hS hl) (fun q => kf q H locs ls hP hS hl)
theorem fg_o_if_le {x : Int32} {off : Int} {t : Nat} (C : fg_Cx Λ Γ d M) (hd : decode M.2.1 pc = .ok (.ifCond .le off, 3)) (ht : (pc : Int) + off = (t : Int)) (kt : x ≤ 0 → fg_Wt l Λ Γ M.2.2.1 t L st σ) (kf : ¬ (x ≤ 0) → fg_Wt l Λ Γ M.2.2.1 (pc + 3) L st σ) : fg_Wt l Λ Γ M.2.2.1 pc L (.int x :: st) σ := by
  obtain ⟨p, e, R, s, m, args, below, meth, c, Qc⟩ := Γ
  obtain ⟨hx, hb, hml, hr, hlk, hown, hts, hE, hf, hlo, hin⟩ := C
  intro H locs ls hP hS hl
  exact lv_if_le hx hb hd ht (fun q => kt q H locs ls hP hS hl) (fun q => kf q H locs ls hP hS hl)
theorem fg_o_icmp_le {x y : Int32} {off : Int} {t : Nat} (C : fg_Cx Λ Γ d M) (hd : decode M.2.1 pc = .ok (.if_icmp .le off, 3)) (ht : (pc : Int) + off = (t : Int)) (kt : x ≤ y → fg_Wt l Λ Γ M.2.2.1 t L st σ) (kf : ¬ (x ≤ y) → fg_Wt l Λ Γ M.2.2.1 (pc + 3) L st σ) : fg_Wt l Λ Γ M.2.2.1 pc L (.int y :: .int x :: st) σ := by
  obtain ⟨p, e, R, s, m, args, below, meth, c, Qc⟩ := Γ
  obtain ⟨hx, hb, hml, hr, hlk, hown, hts, hE, hf, hlo, hin⟩ := C
  intro H locs ls hP hS hl
  exact lv_icmp_le hx hb hd ht (fun q => kt q H locs ls hP hS hl) (fun q => kf q H locs ls hP hS hl)
/-- a field is read -/
theorem fg_o_get {x a b h : Nat} {q : vw_C} {v : Value} (C : fg_Cx Λ Γ d M) (hd : decode M.2.1 pc = .ok (.getfield x, 3)) (hq : vwCl[a]? = some q) (hbq : b < q.2.2) (hw : Jvm.Cond.fieldLink M.1.cls x (q.2.1 b).1 (q.2.1 b).2.1 (q.2.1 b).2.2.1 ∈ fg_T) (hk : fg_kd h = a) (hv : fg_cv Λ.1 v = fg_fv Λ.1 σ h a b) (k : fg_Wt l Λ Γ M.2.2.1 (pc + 3) L (v :: st) σ) : fg_Wt l Λ Γ M.2.2.1 pc L (.ref h :: st) σ := by
  obtain ⟨p, e, R, s, m, args, below, meth, c, Qc⟩ := Γ
  obtain ⟨hx, hb, hml, hr, hlk, hown, hts, hE, hf, hlo, hin⟩ := C
  intro H locs ls hP hS hl
  have ha := fg_clok a q hq
  have he := fg_ws_at (Λ := Λ) (σ := σ) (fg_kd_lt hk (by omega))
  rw [fg_cell_o hk ha.1] at he
  refine va_get (D := fg_D Λ) (v := fg_fv Λ.1 σ h a b) (C := q.1) (T := q.2.1) (N := q.2.2) hx hb hts (fg_lays q (List.mem_of_getElem? hq)) hown hE.1 hP h he hq b hbq (hts _ hw) (fun _ h9 => h9) ?_ hd ?_
  · rw [List.getElem?_map, List.getElem?_range (by rw [← ha.2]; exact hbq)]
    rfl
  · have k1 := k H locs ls hP hS hl
    rw [List.map_cons, hv] at k1
    exact k1
/-- a field is written -/
theorem fg_o_put {x a b h : Nat} {q : vw_C} {v : Value} {ty : FieldType} {σ2 : fg_St} (C : fg_Cx Λ Γ d M) (hd : decode M.2.1 pc = .ok (.putfield x, 3)) (hq : vwCl[a]? = some q) (hbq : b < q.2.2) (hw : Jvm.Cond.fieldLink M.1.cls x (q.2.1 b).1 (q.2.1 b).2.1 (q.2.1 b).2.2.1 ∈ fg_T) (hk : fg_kd h = a) (hfp : (q.2.1 b).2.2.2 = false) (hty : parseFieldDescriptor (q.2.1 b).2.2.1 = some ty) (hn : narrow ty (fg_cv Λ.1 v) = fg_cv Λ.1 v) (hfit : fits ty (fg_cv Λ.1 v) = true) (hs : Sum.inr (a, ((List.range (fg_nf.getD a 0)).map (fg_fv Λ.1 σ h a)).set b (fg_cv Λ.1 v)) = fg_cell Λ σ2 h) (ho : ∀ g, g < 209 → g ≠ h → fg_cell Λ σ2 g = fg_cell Λ σ g) (k : fg_Wt l Λ Γ M.2.2.1 (pc + 3) L st σ2) : fg_Wt l Λ Γ M.2.2.1 pc L (v :: .ref h :: st) σ := by
  obtain ⟨p, e, R, s, m, args, below, meth, c, Qc⟩ := Γ
  obtain ⟨hx, hb, hml, hr, hlk, hown, hts, hE, hf, hlo, hin⟩ := C
  intro H locs ls hP hS hl
  have ha := fg_clok a q hq
  have he := fg_ws_at (Λ := Λ) (σ := σ) (fg_kd_lt hk (by omega))
  rw [fg_cell_o hk ha.1] at he
  obtain ⟨ty0, h1, h2⟩ := fg_clty a q hq
  refine va_put (D := fg_D Λ) (ty := ty) (v := fg_cv Λ.1 v) (C := q.1) (T := q.2.1) (N := q.2.2) hx hb hts (fg_lays q (List.mem_of_getElem? hq)) ty0 h1 h2 hown hE.1 hP (fg_ws_D hin σ) hS h he hq b hbq (hts _ hw) (fun _ h9 => h9) hfp hty hn hfit ?_ hd (fun H1 locs1 hP1 hD1 hS1 => ?_)
  · rw [List.length_map, List.length_range, ← ha.2]
    exact hbq
  · rw [fg_ws_set hs ho] at hP1
    exact k H1 locs1 ls hP1 hS1 hl
theorem fg_o_iald {j : Int32} {h : Nat} (C : fg_Cx Λ Γ d M) (hd : decode M.2.1 pc = .ok (.iaload, 1)) (hk : fg_kd h = 11) (hj : vp_in j (fg_ln h)) (k : fg_Wt l Λ Γ M.2.2.1 (pc + 1) L (.int (fg_R σ h j.toNatClampNeg) :: st) σ) : fg_Wt l Λ Γ M.2.2.1 pc L (.int j :: .ref h :: st) σ := by
  obtain ⟨p, e, R, s, m, args, below, meth, c, Qc⟩ := Γ
  obtain ⟨hx, hb, hml, hr, hlk, hown, hts, hE, hf, hlo, hin⟩ := C
  intro H locs ls hP hS hl
  have he := fg_ws_at (Λ := Λ) (σ := σ) (fg_kd_lt hk (by decide))
  rw [fg_cell_i hk] at he
  exact va_iald hx hb hE.1 hP h 0 he rfl hj hd (k H locs ls hP hS hl)
theorem fg_o_zald {j : Int32} {h : Nat} (C : fg_Cx Λ Γ d M) (hd : decode M.2.1 pc = .ok (.baload, 1)) (hk : fg_kd h = 12) (hj : vp_in j (fg_ln h)) (k : fg_Wt l Λ Γ M.2.2.1 (pc + 1) L (.int (fg_R σ h j.toNatClampNeg) :: st) σ) : fg_Wt l Λ Γ M.2.2.1 pc L (.int j :: .ref h :: st) σ := by
  obtain ⟨p, e, R, s, m, args, below, meth, c, Qc⟩ := Γ
  obtain ⟨hx, hb, hml, hr, hlk, hown, hts, hE, hf, hlo, hin⟩ := C
  intro H locs ls hP hS hl
  have he := fg_ws_at (Λ := Λ) (σ := σ) (fg_kd_lt hk (by decide))
  rw [fg_cell_z hk] at he
  exact va_zald hx hb hE.1 hP h 1 he rfl hj hd (k H locs ls hP hS hl)
theorem fg_o_iast {j x : Int32} {h : Nat} (C : fg_Cx Λ Γ d M) (hd : decode M.2.1 pc = .ok (.iastore, 1)) (hk : fg_kd h = 11) (hj : vp_in j (fg_ln h)) (k : fg_Wt l Λ Γ M.2.2.1 (pc + 1) L st (fg_sR σ h j.toNatClampNeg x)) : fg_Wt l Λ Γ M.2.2.1 pc L (.int x :: .int j :: .ref h :: st) σ := by
  obtain ⟨p, e, R, s, m, args, below, meth, c, Qc⟩ := Γ
  obtain ⟨hx, hb, hml, hr, hlk, hown, hts, hE, hf, hlo, hin⟩ := C
  intro H locs ls hP hS hl
  have he := fg_ws_at (Λ := Λ) (σ := σ) (fg_kd_lt hk (by decide))
  rw [fg_cell_i hk] at he
  refine va_iast hx hb hE.1 hP (fg_ws_D hin σ) hS h 0 he rfl hj hd (fun H1 locs1 hP1 hD1 hS1 => ?_)
  rw [fg_ws_set (σ' := fg_sR σ h j.toNatClampNeg x) (by rw [fg_cell_i hk]; show _ = Sum.inl (_, _, Sum.inl (fg_up _ _ _ _ h)); rw [fg_up_upd]) (fun g _ hg => fg_cell_sRo (fun a ha => fg_up_ne _ _ _ _ ha) g hg)] at hP1
  exact k H1 locs1 ls hP1 hS1 hl
theorem fg_o_zast {j x : Int32} {h : Nat} (C : fg_Cx Λ Γ d M) (hd : decode M.2.1 pc = .ok (.bastore, 1)) (hk : fg_kd h = 12) (hj : vp_in j (fg_ln h)) (hz : x = 0 ∨ x = 1) (k : fg_Wt l Λ Γ M.2.2.1 (pc + 1) L st (fg_sR σ h j.toNatClampNeg x)) : fg_Wt l Λ Γ M.2.2.1 pc L (.int x :: .int j :: .ref h :: st) σ := by
  obtain ⟨p, e, R, s, m, args, below, meth, c, Qc⟩ := Γ
  obtain ⟨hx, hb, hml, hr, hlk, hown, hts, hE, hf, hlo, hin⟩ := C
  intro H locs ls hP hS hl
  have he := fg_ws_at (Λ := Λ) (σ := σ) (fg_kd_lt hk (by decide))
  rw [fg_cell_z hk] at he
  have hn : vp_nar .boolean x = x := by rcases hz with rfl | rfl <;> decide
  refine va_zast hx hb hE.1 hP (fg_ws_D hin σ) hS h 1 he rfl hj hd (fun H1 locs1 hP1 hD1 hS1 => ?_)
  rw [hn, fg_ws_set (σ' := fg_sR σ h j.toNatClampNeg x) (by rw [fg_cell_z hk]; show _ = Sum.inl (_, _, Sum.inl (fg_up _ _ _ _ h)); rw [fg_up_upd]) (fun g _ hg => fg_cell_sRo (fun a ha => fg_up_ne _ _ _ _ ha) g hg)] at hP1
  exact k H1 locs1 ls hP1 hS1 hl
theorem fg_o_aald {j : Int32} {h : Nat} (C : fg_Cx Λ Γ d M) (hd : decode M.2.1 pc = .ok (.aaload, 1)) (hk : fg_kd h = 13 ∨ fg_kd h = 14) (hj : vp_in j (fg_ln h)) (k : fg_Wt l Λ Γ M.2.2.1 (pc + 1) L (.ref (fg_ra h j.toNatClampNeg) :: st) σ) : fg_Wt l Λ Γ M.2.2.1 pc L (.int j :: .ref h :: st) σ := by
  obtain ⟨p, e, R, s, m, args, below, meth, c, Qc⟩ := Γ
  obtain ⟨hx, hb, hml, hr, hlk, hown, hts, hE, hf, hlo, hin⟩ := C
  intro H locs ls hP hS hl
  rcases hk with hk | hk
  · have he := fg_ws_at (Λ := Λ) (σ := σ) (fg_kd_lt hk (by decide))
    rw [fg_cell_d hk] at he
    exact va_aldq hx hb hE.1 hP h 2 he rfl hj hd (k H locs ls hP hS hl)
  · have he := fg_ws_at (Λ := Λ) (σ := σ) (fg_kd_lt hk (by decide))
    rw [fg_cell_m hk] at he
    exact va_aldq hx hb hE.1 hP h 3 he rfl hj hd (k H locs ls hP hS hl)
theorem fg_o_alen {h : Nat} (C : fg_Cx Λ Γ d M) (hd : decode M.2.1 pc = .ok (.arraylength, 1)) (hk : 11 ≤ fg_kd h ∧ fg_kd h ≤ 14) (k : fg_Wt l Λ Γ M.2.2.1 (pc + 1) L (.int (Int32.ofNat (fg_ln h)) :: st) σ) : fg_Wt l Λ Γ M.2.2.1 pc L (.ref h :: st) σ := by
  obtain ⟨p, e, R, s, m, args, below, meth, c, Qc⟩ := Γ
  obtain ⟨hx, hb, hml, hr, hlk, hown, hts, hE, hf, hlo, hin⟩ := C
  intro H locs ls hP hS hl
  have he := fg_ws_at (Λ := Λ) (σ := σ) (fg_kd_lt (h := h) rfl (by omega))
  rcases (show fg_kd h = 11 ∨ fg_kd h = 12 ∨ fg_kd h = 13 ∨ fg_kd h = 14 by omega) with hk | hk | hk | hk
  · rw [fg_cell_i hk] at he
    exact va_alen hx hb hE.1 hP h 0 he rfl rfl hd (k H locs ls hP hS hl)
  · rw [fg_cell_z hk] at he
    exact va_alen hx hb hE.1 hP h 1 he rfl rfl hd (k H locs ls hP hS hl)
  · rw [fg_cell_d hk] at he
    exact va_alen hx hb hE.1 hP h 2 he rfl rfl hd (k H locs ls hP hS hl)
  · rw [fg_cell_m hk] at he
    exact va_alen hx hb hE.1 hP h 3 he rfl rfl hd (k H locs ls hP hS hl)
theorem fg_cat_cv (ad : Nat → Nat) (r : List Value) : ((r.map (fg_cv ad)).map fun v => v.category).sum = fg_cat r := by
  unfold fg_cat
  rw [List.map_map]
  congr 2
  funext v
  exact fg_cv_cat ad v
set_option maxRecDepth 100000 in
theorem fg_mmin_w : Jvm.Cond.static Lib.Math.min.name ∈ fg_T ∧ Jvm.Cond.initialized "java/lang/Math" ∈ fg_T ∧ Jvm.Cond.code Lib.Math.min.name Lib.Math.min.code 2 (some .int) ∈ fg_T := by decide +kernel
set_option maxRecDepth 100000 in
theorem fg_mmax_w : Jvm.Cond.static Lib.Math.max.name ∈ fg_T ∧ Jvm.Cond.initialized "java/lang/Math" ∈ fg_T ∧ Jvm.Cond.code Lib.Math.max.name Lib.Math.max.code 2 (some .int) ∈ fg_T := by decide +kernel
set_option maxRecDepth 100000 in
theorem fg_acp_w : Jvm.Cond.static arraycopyName ∈ fg_T ∧ Jvm.Cond.native arraycopyName ∈ fg_T ∧ Jvm.Cond.initialized "java/lang/System" ∈ fg_T := by decide +kernel
theorem fg_o_min {q : Nat} {x y : Int32} (C : fg_Cx Λ Γ d M) (hd : decode M.2.1 pc = .ok (.invokestatic q, 3)) (hw : Jvm.Cond.methodLink M.1.cls q Lib.Math.min.name ∈ fg_T) (hd1 : 1 ≤ d) (hc : fg_cat st ≤ 8) (k : fg_Wt l Λ Γ M.2.2.1 (pc + 3) L (.int (if y < x then y else x) :: st) σ) : fg_Wt l Λ Γ M.2.2.1 pc L (.int y :: .int x :: st) σ := by
  obtain ⟨p, e, R, s, m, args, below, meth, c, Qc⟩ := Γ
  obtain ⟨hx, hb, hml, hr, hlk, hown, hts, hE, hf, hlo, hin⟩ := C
  intro H locs ls hP hS hl
  exact va_mmin hx hb (hml.trans hl.2.1.symm) hown (hts _ hw) (hts _ fg_mmin_w.1) (hts _ fg_mmin_w.2.1) (hts _ fg_mmin_w.2.2) (by omega) (by rw [fg_cat_cv]; omega) (Nat.zero_le _) (Nat.zero_le _) hd (k H locs ls hP hS hl)
theorem fg_o_max {q : Nat} {x y : Int32} (C : fg_Cx Λ Γ d M) (hd : decode M.2.1 pc = .ok (.invokestatic q, 3)) (hw : Jvm.Cond.methodLink M.1.cls q Lib.Math.max.name ∈ fg_T) (hd1 : 1 ≤ d) (hc : fg_cat st ≤ 8) (k : fg_Wt l Λ Γ M.2.2.1 (pc + 3) L (.int (if x < y then y else x) :: st) σ) : fg_Wt l Λ Γ M.2.2.1 pc L (.int y :: .int x :: st) σ := by
  obtain ⟨p, e, R, s, m, args, below, meth, c, Qc⟩ := Γ
  obtain ⟨hx, hb, hml, hr, hlk, hown, hts, hE, hf, hlo, hin⟩ := C
  intro H locs ls hP hS hl
  exact va_mmax hx hb (hml.trans hl.2.1.symm) hown (hts _ hw) (hts _ fg_mmax_w.1) (hts _ fg_mmax_w.2.1) (hts _ fg_mmax_w.2.2) (by omega) (by rw [fg_cat_cv]; omega) (Nat.zero_le _) (Nat.zero_le _) hd (k H locs ls hP hS hl)
theorem fg_o_acp {q : Nat} {n dp sp : Int32} {t h : Nat} (C : fg_Cx Λ Γ d M) (hd : decode M.2.1 pc = .ok (.invokestatic q, 3)) (hw : Jvm.Cond.methodLink M.1.cls q arraycopyName ∈ fg_T) (hd1 : 1 ≤ d) (hk : fg_kd h = 11) (ht : fg_kd t = 11) (hz : ¬ sp < 0 ∧ ¬ dp < 0 ∧ ¬ n < 0) (h1 : sp.toNatClampNeg + n.toNatClampNeg ≤ fg_ln h) (h2 : dp.toNatClampNeg + n.toNatClampNeg ≤ fg_ln t) (k : fg_Wt l Λ Γ M.2.2.1 (pc + 3) L [] (fg_cp σ h t sp.toNatClampNeg dp.toNatClampNeg n.toNatClampNeg)) : fg_Wt l Λ Γ M.2.2.1 pc L [.int n, .int dp, .ref t, .int sp, .ref h] σ := by
  obtain ⟨p, e, R, s, m, args, below, meth, c, Qc⟩ := Γ
  obtain ⟨hx, hb, hml, hr, hlk, hown, hts, hE, hf, hlo, hin⟩ := C
  intro H locs ls hP hS hl
  have he := fg_ws_at (Λ := Λ) (σ := σ) (fg_kd_lt hk (by decide))
  have he2 := fg_ws_at (Λ := Λ) (σ := σ) (fg_kd_lt ht (by decide))
  rw [fg_cell_i hk] at he
  rw [fg_cell_i ht] at he2
  refine va_copyi hx hb (hml.trans hl.2.1.symm) hown (hts _ hw) (hts _ fg_acp_w.2.1) (hts _ fg_acp_w.1) (hts _ fg_acp_w.2.2) hE.1 hP (fg_ws_D hin σ) hS h t 0 0 he he2 rfl rfl rfl hz.1 hz.2.1 hz.2.2 h1 h2 (fun _ _ => rfl) (by omega) (by show 0 + (7 + 11) ≤ R.locals; omega) hd (fun H1 locs1 hP1 hD1 hS1 => ?_)
  rw [fg_ws_set (σ' := fg_cp σ h t sp.toNatClampNeg dp.toNatClampNeg n.toNatClampNeg) (by rw [fg_cell_i ht]; simp [va_up]) (fun g _ hg => fg_cell_sRo (fun a ha => by simp [va_up, ha]) g hg)] at hP1
  exact k H1 locs1 ls hP1 hS1 hl
end
end
section
/-! WHAT RUNS ON THE ABSTRACT MACHINE IS A CONTRACT OF THE REAL ONE -/
def fg_rv (ret : Option FieldType) (x : Int32) : Option Value := match ret with
  | none => none
  | some _ => some (.int x)
def fg_End (Λ : fg_La) (Γ : fg_Ga) (ret : Option FieldType) (Q : Int32 → fg_St → Prop) : Prop := match Γ with
  | (_, _, _, s, _, args, _, _, _, Qc) => ∀ (x : Int32) (u : fg_St), Q x u → ∀ t : State, va_P (fg_D Λ) vwCl (fg_ws Λ u) t.heap → va_F (fg_A Λ) s t → Qc args s (.returned (fg_rv ret x)) t
def fg_S (l : Launch) (Λ : fg_La) : fg_P := fun d i pc L st σ Q => ∀ M : fg_M, fg_mt[i]? = some M → ∀ Γ : fg_Ga, fg_Cx Λ Γ d M → fg_End Λ Γ M.2.2.2 Q → fg_Wt l Λ Γ M.2.2.1 pc L st σ
def fg_wm (M : fg_M) : List Jvm.Cond := Jvm.Cond.code M.1 M.2.1 M.2.2.1 M.2.2.2 :: fg_T
def fg_rm (d : Nat) : Room := { frames := d, cells := 0, slots := 0, locals := 30 * d }
def fg_Pre (Λ : fg_La) (σ : fg_St) (U : State) : Prop := va_P (fg_D Λ) vwCl (fg_ws Λ σ) U.heap ∧ fg_E Λ U
theorem fg_E.warm {Λ : fg_La} {s U : State} (h : fg_E Λ s) (hW : s.WarmedH U.vm) : fg_E Λ U := by
  refine ⟨va_K.moved hW.alike h.1, fun w hw => ?_⟩
  have h2 := h.2 w hw
  simp only [fg_nest, List.mem_cons, List.not_mem_nil, or_false] at hw
  rcases hw with rfl | rfl | rfl | rfl | rfl <;> exact va_Nw.warmM hW h2
theorem fg_E.calling {Λ : fg_La} {U : State} (h : fg_E Λ U) (g : JFrame) (mk : MethodId) (a : Array Value) : fg_E Λ (U.calling g mk a) := by
  refine ⟨va_K.moved (u := U) (U := U.calling g mk a) (Vm.Alike.refl U.vm) h.1, fun w hw => ?_⟩
  have h2 := h.2 w hw
  simp only [fg_nest, List.mem_cons, List.not_mem_nil, or_false] at hw
  rcases hw with rfl | rfl | rfl | rfl | rfl <;> exact va_Nw.same rfl rfl h2
theorem fg_fl_len (ad : Nat → Nat) : ∀ vs : List Value, (fg_fl vs).length = (lg_sl (vs.map (fg_cv ad))).length := by
  intro vs
  induction vs with
  | nil => rfl
  | cons v vs ih =>
    have e : lg_sl ((v :: vs).map (fg_cv ad)) = (if v.category = 2 then [Slot.val (fg_cv ad v), .second] else [.val (fg_cv ad v)]) ++ lg_sl (vs.map (fg_cv ad)) := by
      simp [lg_sl, fg_cv_cat]
    rw [e, List.length_append, ← ih]
    rcases lv_cat v with h | h
    · have e2 : fg_fl (v :: vs) = some v :: fg_fl vs := by
        show (match Nat.beq v.category 2 with | true => some v :: none :: fg_fl vs | false => some v :: fg_fl vs) = _
        rw [h]
      rw [e2, if_neg (by omega), List.length_cons, List.length_singleton]
      omega
    · have e2 : fg_fl (v :: vs) = some v :: none :: fg_fl vs := by
        show (match Nat.beq v.category 2 with | true => some v :: none :: fg_fl vs | false => some v :: fg_fl vs) = _
        rw [h]
      rw [e2, if_pos h, List.length_cons, List.length_cons]
      show _ = 2 + _
      omega
theorem fg_fl_args (ad : Nat → Nat) : ∀ (vs : List Value) (o k : Nat) (v : Value), (fg_fl vs)[k]? = some (some v) → (o + k, fg_cv ad v) ∈ lv_args o (vs.map (fg_cv ad)) := by
  intro vs
  induction vs with
  | nil => intro o k v h; simp [fg_fl] at h
  | cons w vs ih =>
    intro o k v h
    rw [List.map_cons, lv_args, fg_cv_cat]
    unfold fg_fl at h
    rcases lv_cat w with hc | hc
    · rw [hc] at h ⊢
      have h : (some w :: fg_fl vs)[k]? = some (some v) := h
      cases k with
      | zero =>
        simp at h
        subst h
        exact List.mem_cons_self
      | succ k =>
        have h := ih (o + 1) k v (by simpa using h)
        refine List.mem_cons_of_mem _ ?_
        rw [if_neg (by decide)]
        rw [show o + (k + 1) = o + 1 + k by omega]
        exact h
    · rw [hc] at h ⊢
      have h : (some w :: none :: fg_fl vs)[k]? = some (some v) := h
      match k, h with
      | 0, h =>
        simp at h
        subst h
        exact List.mem_cons_self
      | 1, h => simp at h
      | k + 2, h =>
        have h := ih (o + 2) k v (by simpa using h)
        refine List.mem_cons_of_mem _ ?_
        rw [if_pos rfl]
        rw [show o + (k + 2) = o + 2 + k by omega]
        exact h
theorem fg_entry {ad : Nat → Nat} {vs : List Value} {ml : Nat} (h : (fg_fl vs).length ≤ ml) : fg_LV ad ((lg_sl (vs.map (fg_cv ad)) ++ List.replicate (ml - (lg_sl (vs.map (fg_cv ad))).length) Slot.unset).toArray) ml (fg_ent ml vs) := by
  have h0 := lv_entry (vs.map (fg_cv ad)) (n := ml) (by rw [← fg_fl_len]; exact h)
  refine ⟨?_, h0.1, h0.2.1, fun k v hk => ?_⟩
  · unfold fg_ent
    rw [List.length_append, List.length_replicate]
    omega
  · unfold fg_ent at hk
    rw [List.getElem?_append] at hk
    split at hk
    · have := h0.2.2 _ (fg_fl_args ad vs 0 k v hk)
      simpa using this
    · rw [List.getElem?_replicate] at hk
      split at hk <;> cases hk
theorem fg_mfacts {i : Nat} {M : fg_M} (h : fg_mt[i]? = some M) : i < 196 ∧ Jvm.Cond.code M.1 M.2.1 M.2.2.1 M.2.2.2 ∈ fg_T ∧ Jvm.Cond.initialized M.1.cls ∈ fg_T ∧ (M.1.cls ≠ "java/lang/invoke/MethodHandle" ∧ M.1.cls ≠ "java/lang/invoke/VarHandle") ∧ plainName M.1.cls = true ∧ M.2.2.1 ≤ 11 ∧ (fg_sta.getD i false = true → Jvm.Cond.static M.1 ∈ fg_T) ∧ (fg_sta.getD i false = false → Jvm.Cond.instanceMethod M.1 ∈ fg_T ∧ Jvm.Cond.selects M.1.cls M.1 M.1 ∈ fg_T) := by
  have hi : i < 196 := (List.getElem?_eq_some_iff.mp h).1
  have hc := fg_mcode M (List.mem_of_getElem? h)
  have hk := fg_mcks i hi
  unfold fg_mck at hk
  rw [h] at hk
  split at hk
  · rename_i y p e1 e2
    cases e1
    simp only [Bool.and_eq_true, decide_eq_true_eq] at hk
    obtain ⟨k1, k2, k3, k4, k5⟩ := hk
    refine ⟨hi, List.mem_filter.mpr ⟨hc, rfl⟩, fg_w_in k2 rfl, k3, k4, Nat.le_of_ble_eq_true k5, fun e => ?_, fun e => ?_⟩
    · rw [e] at k1
      exact fg_w_in k1 rfl
    · rw [e] at k1
      simp only [Bool.and_eq_true] at k1
      exact ⟨fg_w_in k1.1 rfl, fg_w_in k1.2 rfl⟩
  · cases hk
/-- a run is a contract -/
theorem fg_met {l : Launch} {Λ : fg_La} {d j : Nat} {M : fg_M} {σ : fg_St} {vs : List Value} {P : Int32 → fg_St → Prop} {Qc : Array Value → State → Outcome → State → Prop} (hi : fg_inj Λ) (hj : fg_mt[j]? = some M) (hlen : (fg_fl vs).length ≤ M.2.2.1) (hs : fg_S l Λ d j 0 (fg_ent M.2.2.1 vs) [] σ P) (hQ : ∀ (s t : State) (x : Int32) (u : fg_St), P x u → va_P (fg_D Λ) vwCl (fg_ws Λ u) t.heap → va_F (fg_A Λ) s t → Qc (vs.map (fg_cv Λ.1)).toArray s (.returned (fg_rv M.2.2.2 x)) t) : Met l M.1 (fg_wm M) (fg_rm d) (va_Pc (vs.map (fg_cv Λ.1)) (fg_Pre Λ σ)) Qc 0 0 (fg_A Λ) := by
  have F := fg_mfacts hj
  refine Met.ofW (cc := M.2.1) (maxL := M.2.2.1) (ret := M.2.2.2) F.2.2.2.2.1 rfl ?_
  intro p e s m args below meth c s₁ B hml hv
  obtain ⟨rfl, hP, hE⟩ := hv
  have hts := atoms_spec (ws := fg_wm M) B.pre
  rw [lg_entry_eq]
  exact hs M hj (p, e, fg_rm d, s, m, _, below, meth, c, Qc) ⟨B.exec, B.bytes, hml, B.returns, B.notSynchronized, findClass_of_methodNamed B.named, fun w h => hts w (List.mem_cons_of_mem _ h), hE, Nat.le_refl _, Nat.le_refl _, hi⟩ (fun x u q t h1 h2 => hQ s t x u q h1 h2) s.heap [] _ hP va_S.rf (fg_entry hlen)
theorem fg_good {ws : List Jvm.Cond} (h : ∀ w ∈ ws, w ∈ fg_T) : GoodIn fg_T ws := fun w hw => ⟨h w hw, good_of_word (List.mem_filter.mp (h w hw)).2⟩
theorem fg_wm_in {i : Nat} {M : fg_M} (h : fg_mt[i]? = some M) : ∀ w ∈ fg_wm M, w ∈ fg_T := by
  intro w hw
  rcases List.mem_cons.mp hw with rfl | hw
  · exact (fg_mfacts h).2.1
  · exact hw
theorem fg_pop_eq : ∀ (n : Nat) (acc st As r : List Value), fg_pop n acc st = some (As, r) → ∃ B : List Value, As = B ++ acc ∧ st = B.reverse ++ r ∧ B.length = n := by
  intro n
  induction n with
  | zero =>
    intro acc st As r h
    unfold fg_pop at h
    cases h
    exact ⟨[], rfl, rfl, rfl⟩
  | succ n ih =>
    intro acc st As r h
    cases st with
    | nil => unfold fg_pop at h; cases h
    | cons v st =>
      unfold fg_pop at h
      obtain ⟨B, h1, h2, h3⟩ := ih _ _ _ _ h
      refine ⟨B ++ [v], by rw [h1]; simp, by rw [h2]; simp, by simp [h3]⟩
theorem fg_pop_0 {n : Nat} {st As r : List Value} (h : fg_pop n [] st = some (As, r)) : st = As.reverse ++ r ∧ As.length = n := by
  obtain ⟨B, h1, h2, h3⟩ := fg_pop_eq n [] st As r h
  rw [List.append_nil] at h1
  subst h1
  exact ⟨h2, h3⟩
theorem fg_pcb {Λ : fg_La} {σ : fg_St} {vs : List Value} : FrameBlind (va_Pc vs (fg_Pre Λ σ)) := fun a U g mk q => by
  obtain ⟨q1, q2, q3⟩ := q
  exact ⟨q1, q2, q3.calling g mk a⟩
section
variable {l : Launch} {Λ : fg_La} {Γ : fg_Ga} {d pc : Nat} {M : fg_M} {L : List (Option Value)} {st : List Value} {σ : fg_St}
/-- a call of a virtual method with an answer -/
theorem fg_o_callVi {x j b h : Nat} {N : fg_M} {q : vw_C} {As r : List Value} {P : Int32 → fg_St → Prop} (C : fg_Cx Λ Γ (d + 1) M) (hd : decode M.2.1 pc = .ok (.invokevirtual x, 3)) (hj : fg_mt[j]? = some N) (hsta : fg_sta.getD j false = false) (hw : Jvm.Cond.methodLink M.1.cls x N.1 ∈ fg_T) (hnp : (parseMethodDescriptor N.1.desc).map (fun d => d.parameters.length) = some b) (hri : fg_ri N.2.2.2 = true) (hp : fg_pop b [] st = some (As, .ref h :: r)) (hk : vwCl[fg_kd h]? = some q) (hcl : N.1.cls = q.1) (hcat : fg_cat r ≤ 8) (hlen : (fg_fl (.ref h :: As)).length ≤ N.2.2.1) (hs : fg_S l Λ d j 0 (fg_ent N.2.2.1 (.ref h :: As)) [] σ P) (k : ∀ y u, P y u → fg_Wt l Λ Γ M.2.2.1 (pc + 3) L (.int y :: r) u) : fg_Wt l Λ Γ M.2.2.1 pc L st σ := by
  obtain ⟨p, e, R, s, m, args, below, meth, c, Qc⟩ := Γ
  obtain ⟨hx, hb, hml, hr, hlk, hown, hts, hE, hf, hlo, hin⟩ := C
  intro H locs ls hP hS hl
  have F := fg_mfacts hj
  obtain ⟨hst, hn⟩ := fg_pop_0 hp
  subst hst
  have ha := fg_clok _ q hk
  have hM := fg_met (Qc := va_Qi (fun y u => P y u) (fun u t => va_P (fg_D Λ) vwCl (fg_ws Λ u) t.heap) (fg_A Λ)) hin hj hlen hs (fun s t y u hp h1 h2 => by
    refine ⟨⟨y, u, ?_, hp, h1⟩, h2⟩
    unfold fg_rv
    cases hN : N.2.2.2 with
    | none => rw [hN] at hri; cases hri
    | some ty => rfl)
  have he := fg_ws_at (Λ := Λ) (σ := σ) (fg_kd_lt (h := h) rfl (by omega))
  rw [fg_cell_o rfl ha.1] at he
  refine va_calli (va_runV (As := As.map (fg_cv Λ.1)) (rest := r.map (fg_cv Λ.1)) ⟨hx, hb, hml, hown, hts⟩ hM (cwV b hts (fg_good (ws := wsV M.1.cls x N.1.cls N.1 (fg_wm N)) ?_) rfl rfl rfl ⟨rfl, F.2.2.2.1.1, F.2.2.2.1.2, hnp⟩ ⟨hf, ?_⟩) ⟨fg_pcb, ?_, fun U hU hW => ⟨rfl, by rw [hU]; exact hP, hE.warm hW⟩⟩ rfl (by rw [List.length_map]; exact hn) hl.2.1 (by simp [fg_cv]) (lv_room (by rw [fg_cat_cv]; exact hcat)) hd ⟨Nat.zero_le _, Nat.zero_le _⟩) hS (fun q _ h => h) (fun q h => h) (fun y u t H1 locs1 ht hvm hw hB hz1 hk1 hS1 => ?_)
  · intro w hw2
    have F8 := F.2.2.2.2.2.2.2 hsta
    rcases List.mem_append.mp hw2 with h2 | h2
    · simp only [List.mem_cons, List.not_mem_nil, or_false] at h2
      rcases h2 with rfl | rfl | rfl | rfl
      · exact hw
      · exact F8.1
      · exact F8.2
      · exact F.2.2.1
    · exact fg_wm_in hj w h2
  · show 8 + (N.2.2.1 + 11) + 30 * d ≤ R.locals
    have := F.2.2.2.2.2.1
    omega
  · rw [hcl]
    exact va_recv hE.1 hP hk he
  · rw [ht] at hB
    exact k y u hw H1 locs1 ls hB hS1 hl
/-- a call of a virtual method without one -/
theorem fg_o_callVv {x j b h : Nat} {N : fg_M} {q : vw_C} {As r : List Value} {P : Int32 → fg_St → Prop} (C : fg_Cx Λ Γ (d + 1) M) (hd : decode M.2.1 pc = .ok (.invokevirtual x, 3)) (hj : fg_mt[j]? = some N) (hsta : fg_sta.getD j false = false) (hw : Jvm.Cond.methodLink M.1.cls x N.1 ∈ fg_T) (hnp : (parseMethodDescriptor N.1.desc).map (fun d => d.parameters.length) = some b) (hri : fg_rz N.2.2.2 = true) (hp : fg_pop b [] st = some (As, .ref h :: r)) (hk : vwCl[fg_kd h]? = some q) (hcl : N.1.cls = q.1) (hcat : fg_cat r ≤ 8) (hlen : (fg_fl (.ref h :: As)).length ≤ N.2.2.1) (hs : fg_S l Λ d j 0 (fg_ent N.2.2.1 (.ref h :: As)) [] σ P) (k : ∀ y u, P y u → fg_Wt l Λ Γ M.2.2.1 (pc + 3) L r u) : fg_Wt l Λ Γ M.2.2.1 pc L st σ := by
  obtain ⟨p, e, R, s, m, args, below, meth, c, Qc⟩ := Γ
  obtain ⟨hx, hb, hml, hr, hlk, hown, hts, hE, hf, hlo, hin⟩ := C
  intro H locs ls hP hS hl
  have F := fg_mfacts hj
  obtain ⟨hst, hn⟩ := fg_pop_0 hp
  subst hst
  have ha := fg_clok _ q hk
  have hM := fg_met (Qc := va_Qv (fun u => ∃ y, P y u) (fun u t => va_P (fg_D Λ) vwCl (fg_ws Λ u) t.heap) (fg_A Λ)) hin hj hlen hs (fun s t y u hp h1 h2 => by
    refine ⟨⟨u, ?_, ⟨y, hp⟩, h1⟩, h2⟩
    unfold fg_rv
    cases hN : N.2.2.2 with
    | none => rfl
    | some ty => rw [hN] at hri; cases hri)
  have he := fg_ws_at (Λ := Λ) (σ := σ) (fg_kd_lt (h := h) rfl (by omega))
  rw [fg_cell_o rfl ha.1] at he
  refine va_callv (va_runV (As := As.map (fg_cv Λ.1)) (rest := r.map (fg_cv Λ.1)) ⟨hx, hb, hml, hown, hts⟩ hM (cwV b hts (fg_good (ws := wsV M.1.cls x N.1.cls N.1 (fg_wm N)) ?_) rfl rfl rfl ⟨rfl, F.2.2.2.1.1, F.2.2.2.1.2, hnp⟩ ⟨hf, ?_⟩) ⟨fg_pcb, ?_, fun U hU hW => ⟨rfl, by rw [hU]; exact hP, hE.warm hW⟩⟩ rfl (by rw [List.length_map]; exact hn) hl.2.1 (by simp [fg_cv]) (lv_room (by rw [fg_cat_cv]; exact hcat)) hd ⟨Nat.zero_le _, Nat.zero_le _⟩) hS (fun q _ h => h) (fun q h => h) (fun u t H1 locs1 ht hvm hw hB hz1 hk1 hS1 => ?_)
  · intro w hw2
    have F8 := F.2.2.2.2.2.2.2 hsta
    rcases List.mem_append.mp hw2 with h2 | h2
    · simp only [List.mem_cons, List.not_mem_nil, or_false] at h2
      rcases h2 with rfl | rfl | rfl | rfl
      · exact hw
      · exact F8.1
      · exact F8.2
      · exact F.2.2.1
    · exact fg_wm_in hj w h2
  · show 8 + (N.2.2.1 + 11) + 30 * d ≤ R.locals
    have := F.2.2.2.2.2.1
    omega
  · rw [hcl]
    exact va_recv hE.1 hP hk he
  · rw [ht] at hB
    obtain ⟨y, hw⟩ := hw
    exact k y u hw H1 locs1 ls hB hS1 hl
/-- a call of a static method with an answer -/
theorem fg_o_callSi {x j b : Nat} {N : fg_M} {As r : List Value} {P : Int32 → fg_St → Prop} (C : fg_Cx Λ Γ (d + 1) M) (hd : decode M.2.1 pc = .ok (.invokestatic x, 3)) (hj : fg_mt[j]? = some N) (hsta : fg_sta.getD j false = true) (hw : Jvm.Cond.methodLink M.1.cls x N.1 ∈ fg_T) (hnp : (parseMethodDescriptor N.1.desc).map (fun d => d.parameters.length) = some b) (hri : fg_ri N.2.2.2 = true) (hp : fg_pop b [] st = some (As, r)) (hcat : fg_cat r ≤ 8) (hlen : (fg_fl As).length ≤ N.2.2.1) (hs : fg_S l Λ d j 0 (fg_ent N.2.2.1 As) [] σ P) (k : ∀ y u, P y u → fg_Wt l Λ Γ M.2.2.1 (pc + 3) L (.int y :: r) u) : fg_Wt l Λ Γ M.2.2.1 pc L st σ := by
  obtain ⟨p, e, R, s, m, args, below, meth, c, Qc⟩ := Γ
  obtain ⟨hx, hb, hml, hr, hlk, hown, hts, hE, hf, hlo, hin⟩ := C
  intro H locs ls hP hS hl
  have F := fg_mfacts hj
  obtain ⟨hst, hn⟩ := fg_pop_0 hp
  subst hst
  have hM := fg_met (Qc := va_Qi (fun y u => P y u) (fun u t => va_P (fg_D Λ) vwCl (fg_ws Λ u) t.heap) (fg_A Λ)) hin hj hlen hs (fun s t y u hp h1 h2 => by
    refine ⟨⟨y, u, ?_, hp, h1⟩, h2⟩
    unfold fg_rv
    cases hN : N.2.2.2 with
    | none => rw [hN] at hri; cases hri
    | some ty => rfl)
  refine va_calli (va_runS (As := As.map (fg_cv Λ.1)) (rest := r.map (fg_cv Λ.1)) ⟨hx, hb, hml, hown, hts⟩ hM (va_cwS b hts (fg_good (ws := va_wsS M.1.cls x N.1 (fg_wm N)) ?_) rfl rfl rfl ⟨F.2.2.2.1.1, F.2.2.2.1.2, hnp⟩ ⟨hf, ?_⟩) ⟨fg_pcb, fun U hU hW => ⟨rfl, by rw [hU]; exact hP, hE.warm hW⟩⟩ rfl (by rw [List.length_map]; exact hn) hl.2.1 (by simp [fg_cv]) (lv_room (by rw [fg_cat_cv]; exact hcat)) hd ⟨Nat.zero_le _, Nat.zero_le _⟩) hS (fun q _ h => h) (fun q h => h) (fun y u t H1 locs1 ht hvm hw hB hz1 hk1 hS1 => ?_)
  · intro w hw2
    have F8 := F.2.2.2.2.2.2.1 hsta
    rcases List.mem_append.mp hw2 with h2 | h2
    · simp only [List.mem_cons, List.not_mem_nil, or_false] at h2
      rcases h2 with rfl | rfl | rfl
      · exact hw
      · exact F8
      · exact F.2.2.1
    · exact fg_wm_in hj w h2
  · show 8 + (N.2.2.1 + 11) + 30 * d ≤ R.locals
    have := F.2.2.2.2.2.1
    omega
  · rw [ht] at hB
    exact k y u hw H1 locs1 ls hB hS1 hl
/-- a call of a static method without one -/
theorem fg_o_callSv {x j b : Nat} {N : fg_M} {As r : List Value} {P : Int32 → fg_St → Prop} (C : fg_Cx Λ Γ (d + 1) M) (hd : decode M.2.1 pc = .ok (.invokestatic x, 3)) (hj : fg_mt[j]? = some N) (hsta : fg_sta.getD j false = true) (hw : Jvm.Cond.methodLink M.1.cls x N.1 ∈ fg_T) (hnp : (parseMethodDescriptor N.1.desc).map (fun d => d.parameters.length) = some b) (hri : fg_rz N.2.2.2 = true) (hp : fg_pop b [] st = some (As, r)) (hcat : fg_cat r ≤ 8) (hlen : (fg_fl As).length ≤ N.2.2.1) (hs : fg_S l Λ d j 0 (fg_ent N.2.2.1 As) [] σ P) (k : ∀ y u, P y u → fg_Wt l Λ Γ M.2.2.1 (pc + 3) L r u) : fg_Wt l Λ Γ M.2.2.1 pc L st σ := by
  obtain ⟨p, e, R, s, m, args, below, meth, c, Qc⟩ := Γ
  obtain ⟨hx, hb, hml, hr, hlk, hown, hts, hE, hf, hlo, hin⟩ := C
  intro H locs ls hP hS hl
  have F := fg_mfacts hj
  obtain ⟨hst, hn⟩ := fg_pop_0 hp
  subst hst
  have hM := fg_met (Qc := va_Qv (fun u => ∃ y, P y u) (fun u t => va_P (fg_D Λ) vwCl (fg_ws Λ u) t.heap) (fg_A Λ)) hin hj hlen hs (fun s t y u hp h1 h2 => by
    refine ⟨⟨u, ?_, ⟨y, hp⟩, h1⟩, h2⟩
    unfold fg_rv
    cases hN : N.2.2.2 with
    | none => rfl
    | some ty => rw [hN] at hri; cases hri)
  refine va_callv (va_runS (As := As.map (fg_cv Λ.1)) (rest := r.map (fg_cv Λ.1)) ⟨hx, hb, hml, hown, hts⟩ hM (va_cwS b hts (fg_good (ws := va_wsS M.1.cls x N.1 (fg_wm N)) ?_) rfl rfl rfl ⟨F.2.2.2.1.1, F.2.2.2.1.2, hnp⟩ ⟨hf, ?_⟩) ⟨fg_pcb, fun U hU hW => ⟨rfl, by rw [hU]; exact hP, hE.warm hW⟩⟩ rfl (by rw [List.length_map]; exact hn) hl.2.1 (by simp [fg_cv]) (lv_room (by rw [fg_cat_cv]; exact hcat)) hd ⟨Nat.zero_le _, Nat.zero_le _⟩) hS (fun q _ h => h) (fun q h => h) (fun u t H1 locs1 ht hvm hw hB hz1 hk1 hS1 => ?_)
  · intro w hw2
    have F8 := F.2.2.2.2.2.2.1 hsta
    rcases List.mem_append.mp hw2 with h2 | h2
    · simp only [List.mem_cons, List.not_mem_nil, or_false] at h2
      rcases h2 with rfl | rfl | rfl
      · exact hw
      · exact F8
      · exact F.2.2.1
    · exact fg_wm_in hj w h2
  · show 8 + (N.2.2.1 + 11) + 30 * d ≤ R.locals
    have := F.2.2.2.2.2.1
    omega
  · rw [ht] at hB
    obtain ⟨y, hw⟩ := hw
    exact k y u hw H1 locs1 ls hB hS1 hl
/-- a call of a nest mate's static method with an answer -/
theorem fg_o_callNi {x j b : Nat} {N : fg_M} {As r : List Value} {P : Int32 → fg_St → Prop} (C : fg_Cx Λ Γ (d + 1) M) (hd : decode M.2.1 pc = .ok (.invokestatic x, 3)) (hj : fg_mt[j]? = some N) (hsta : fg_sta.getD j false = true) (hw : Jvm.Cond.methodLinkNest M.1.cls x N.1 "FlagSignals" ∈ fg_nest) (hnp : (parseMethodDescriptor N.1.desc).map (fun d => d.parameters.length) = some b) (hri : fg_ri N.2.2.2 = true) (hp : fg_pop b [] st = some (As, r)) (hcat : fg_cat r ≤ 8) (hlen : (fg_fl As).length ≤ N.2.2.1) (hs : fg_S l Λ d j 0 (fg_ent N.2.2.1 As) [] σ P) (k : ∀ y u, P y u → fg_Wt l Λ Γ M.2.2.1 (pc + 3) L (.int y :: r) u) : fg_Wt l Λ Γ M.2.2.1 pc L st σ := by
  obtain ⟨p, e, R, s, m, args, below, meth, c, Qc⟩ := Γ
  obtain ⟨hx, hb, hml, hr, hlk, hown, hts, hE, hf, hlo, hin⟩ := C
  intro H locs ls hP hS hl
  have F := fg_mfacts hj
  obtain ⟨hst, hn⟩ := fg_pop_0 hp
  subst hst
  have hM := fg_met (Qc := va_Qi (fun y u => P y u) (fun u t => va_P (fg_D Λ) vwCl (fg_ws Λ u) t.heap) (fg_A Λ)) hin hj hlen hs (fun s t y u hp h1 h2 => by
    refine ⟨⟨y, u, ?_, hp, h1⟩, h2⟩
    unfold fg_rv
    cases hN : N.2.2.2 with
    | none => rw [hN] at hri; cases hri
    | some ty => rfl)
  refine va_calli (va_runSN (As := As.map (fg_cv Λ.1)) (rest := r.map (fg_cv Λ.1)) ⟨hx, hb, hml, hown, hts⟩ hM ⟨va_cnB b hts (fg_good (fg_wm_in hj)) rfl rfl rfl (hE.2 _ hw) (hts _ F.2.2.1) ⟨F.2.2.2.1.1, F.2.2.2.1.2, hnp⟩ ⟨hf, ?_⟩, hts _ (F.2.2.2.2.2.2.1 hsta), trivial⟩ ⟨fg_pcb, fun U hU hW => ⟨rfl, by rw [hU]; exact hP, hE.warm hW⟩⟩ rfl (by rw [List.length_map]; exact hn) hl.2.1 (by simp [fg_cv]) (lv_room (by rw [fg_cat_cv]; exact hcat)) hd ⟨Nat.zero_le _, Nat.zero_le _⟩) hS (fun q _ h => h) (fun q h => h) (fun y u t H1 locs1 ht hvm hw hB hz1 hk1 hS1 => ?_)
  · show 8 + (N.2.2.1 + 11) + 30 * d ≤ R.locals
    have := F.2.2.2.2.2.1
    omega
  · rw [ht] at hB
    exact k y u hw H1 locs1 ls hB hS1 hl
/-! switches -/
theorem fg_sw_at {x : Int32} {T : Nat → Prop} {df : Nat} : ∀ (ts : List Nat) (k j t : Nat), fg_sw x T df k ts → ts[j]? = some t → k + j < 2 ^ 31 → x = Int32.ofNat (k + j) → T t := by
  intro ts
  induction ts with
  | nil => intro k j t _ h; simp at h
  | cons a ts ih =>
    intro k j t h hj hb hx
    cases j with
    | zero =>
      have e : a = t := by simpa using hj
      subst e
      exact h.1 hx
    | succ j =>
      refine ih (k + 1) j t (h.2 ?_) (by simpa using hj) (by omega) (by rw [hx]; congr 1; omega)
      intro e
      rw [e] at hx
      have := (nI_eq (by omega) hb).mp hx
      omega
theorem fg_sw_out {x : Int32} {T : Nat → Prop} {df : Nat} : ∀ (ts : List Nat) (k : Nat), fg_sw x T df k ts → (∀ j, j < ts.length → x ≠ Int32.ofNat (k + j)) → T df := by
  intro ts
  induction ts with
  | nil => intro k h _; exact h
  | cons a ts ih =>
    intro k h hj
    refine ih (k + 1) (h.2 (hj 0 (by simp))) (fun j hl => ?_)
    have := hj (j + 1) (by simp; omega)
    rwa [show k + 1 + j = k + (j + 1) by omega]
theorem fg_o_switch {x : Int32} {df lo hi : Int} {offs : Array Int} {len : Nat} {q : List Nat × Nat} (C : fg_Cx Λ Γ d M) (hd : decode M.2.1 pc = .ok (.tableswitch df lo hi offs, len)) (h1 : lo = 0) (h2 : hi = (q.1.length : Int) - 1) (h3 : q.1.length ≤ 1000) (h4 : (pc : Int) + df = (q.2 : Int)) (h5 : offs.toList.map (fun o => (pc : Int) + o) = q.1.map (fun t : Nat => (t : Int))) (k : fg_sw x (fun t => fg_Wt l Λ Γ M.2.2.1 t L st σ) q.2 0 q.1) : fg_Wt l Λ Γ M.2.2.1 pc L (.int x :: st) σ := by
  obtain ⟨p, e, R, s, m, args, below, meth, c, Qc⟩ := Γ
  obtain ⟨hx, hb, hml, hr, hlk, hown, hts, hE, hf, hlo, hin⟩ := C
  intro H locs ls hP hS hl
  subst h1
  by_cases hc : x.toInt < 0 ∨ hi < x.toInt
  · refine lv_tableOut hx hb hd hc h4 (fg_sw_out _ 0 k (fun j hj e => ?_) H locs ls hP hS hl)
    have : x.toInt = (j : Int) := by rw [e, Nat.zero_add]; exact nI_toInt (by omega)
    omega
  · have hn : ¬ x.toInt < 0 := fun h => hc (Or.inl h)
    have hh : ¬ hi < x.toInt := fun h => hc (Or.inr h)
    have hj : (x.toInt - 0).toNat < q.1.length := by omega
    obtain ⟨t, ht⟩ : ∃ t, q.1[(x.toInt - 0).toNat]? = some t := ⟨_, List.getElem?_eq_getElem hj⟩
    have h6 : (offs.toList.map (fun o => (pc : Int) + o))[(x.toInt - 0).toNat]? = some (t : Int) := by
      rw [h5, List.getElem?_map, ht]
      rfl
    rw [List.getElem?_map] at h6
    cases ho : offs.toList[(x.toInt - 0).toNat]? with
    | none => rw [ho] at h6; cases h6
    | some off =>
      rw [ho] at h6
      have h7 : (pc : Int) + off = (t : Int) := Option.some.inj h6
      refine lv_tableIn hx hb hd hn hh (by rw [← Array.getElem?_toList]; exact ho) h7 (fg_sw_at _ 0 _ t k ht (by omega) ?_ H locs ls hP hS hl)
      rw [Nat.zero_add]
      apply Int32.toInt_inj.mp
      rw [show (Int32.ofNat (x.toInt - 0).toNat).toInt = (((x.toInt - 0).toNat : Nat) : Int) from nI_toInt (by omega)]
      omega
end
end
section
/-! EACH STEP OF THE ABSTRACT MACHINE IS A STEP OF THE REAL ONE (laid by wip/whole/gendisp.py) -/
theorem fg_st1_sp {L : List (Option Value)} {a : Nat} {P : Prop} (g : fg_st1 L a P) : a < L.length ∧ fg_lgb L a = false ∧ P := by
  unfold fg_st1 at g
  split at g
  · rename_i e
    simp only [Bool.and_eq_true, Bool.not_eq_true'] at e
    exact ⟨Nat.le_of_ble_eq_true e.1, e.2, g⟩
  · exact g.elim
theorem fg_st2_sp {L : List (Option Value)} {a : Nat} {P : Prop} (g : fg_st2 L a P) : a + 1 < L.length ∧ fg_lgb L a = false ∧ P := by
  unfold fg_st2 at g
  split at g
  · rename_i e
    simp only [Bool.and_eq_true, Bool.not_eq_true'] at e
    exact ⟨Nat.le_of_ble_eq_true e.1, e.2, g⟩
  · exact g.elim
theorem fg_m1_sp {d : Nat} {r : List Value} {P : Prop} (g : fg_m1 d r P) : 1 ≤ d ∧ fg_cat r ≤ 8 ∧ P := by
  unfold fg_m1 at g
  split at g
  · rename_i e
    cases d with
    | zero => exact g.elim
    | succ d => exact ⟨by omega, Nat.le_of_ble_eq_true e, g⟩
  · exact g.elim
theorem fg_fk_sp {own : String} {x a b w : Nat} (h : fg_fk own x a b w = true) : ∃ q : vw_C, vwCl[a]? = some q ∧ b < q.2.2 ∧ Jvm.Cond.fieldLink own x (q.2.1 b).1 (q.2.1 b).2.1 (q.2.1 b).2.2.1 ∈ fg_T := by
  unfold fg_fk at h
  split at h
  · rename_i q e
    simp only [Bool.and_eq_true, decide_eq_true_eq] at h
    exact ⟨q, e, h.1, fg_w_in h.2 rfl⟩
  · cases h
theorem fg_fp_sp {a b : Nat} {ty : FieldType} {q : vw_C} (hq : vwCl[a]? = some q) (h : fg_fp a b ty = true) : (q.2.1 b).2.2.2 = false ∧ parseFieldDescriptor (q.2.1 b).2.2.1 = some ty := by
  unfold fg_fp at h
  rw [hq] at h
  simp only [Bool.and_eq_true, decide_eq_true_eq] at h
  exact h
theorem fg_ckc_sp {own : String} {x a b w : Nat} {z : Bool} (h : fg_ckc own x a b w z = true) : ∃ N : fg_M, fg_mt[a]? = some N ∧ Jvm.Cond.methodLink own x N.1 ∈ fg_T ∧ (parseMethodDescriptor N.1.desc).map (fun d => d.parameters.length) = some b ∧ (z = true → fg_rz N.2.2.2 = true) ∧ (z = false → fg_ri N.2.2.2 = true) := by
  unfold fg_ckc at h
  split at h
  · rename_i N e
    simp only [Bool.and_eq_true] at h
    refine ⟨N, e, fg_w_in h.1 rfl, of_decide_eq_true h.2.1, fun q => ?_, fun q => ?_⟩
    · subst q; exact h.2.2
    · subst q; exact h.2.2
  · cases h
theorem fg_call_sp {S : fg_P} {d a : Nat} {As r : List Value} {σ : fg_St} {K : Nat → Int32 → fg_St → Prop} {N : fg_M} (hj : fg_mt[a]? = some N) (g : fg_call S d a As r σ K) : ∃ (d2 : Nat) (P : Int32 → fg_St → Prop), d = d2 + 1 ∧ fg_cat r ≤ 8 ∧ (fg_fl As).length ≤ N.2.2.1 ∧ S d2 a 0 (fg_ent N.2.2.1 As) [] σ P ∧ ∀ y u, P y u → K (d2 + 1) y u := by
  have hm : fg_ml a = N.2.2.1 := by unfold fg_ml; rw [hj]
  unfold fg_call at g
  rw [hm] at g
  split at g
  · rename_i e
    simp only [Bool.and_eq_true] at e
    cases d with
    | zero => exact g.elim
    | succ d2 =>
      obtain ⟨P, h1, h2⟩ := g
      exact ⟨d2, P, rfl, Nat.le_of_ble_eq_true e.1, Nat.le_of_ble_eq_true e.2, h1, h2⟩
  · exact g.elim
theorem fg_cell_spo {Λ : fg_La} {σ : fg_St} (y z : Nat) (g : Nat) (hl : g < 209) (hg : g ≠ 0) : fg_cell Λ (y, z, σ.2.2) g = fg_cell Λ σ g := by
  have h9 : fg_kd g ≠ 9 := fun e => hg (fg_kd9 g hl e)
  have : fg_fv Λ.1 (y, z, σ.2.2) g (fg_kd g) = fg_fv Λ.1 σ g (fg_kd g) := by
    funext j
    unfold fg_fv
    cases fg_rf (fg_kd g) j
    · rfl
    · show Value.ref (Λ.1 (fg_pt _ g j)) = Value.ref (Λ.1 (fg_pt _ g j))
      congr 2
      unfold fg_pt
      split <;> first | rfl | (rename_i e; exact absurd e h9)
  unfold fg_cell
  rw [this]
theorem fg_cell_s1 (Λ : fg_La) (σ : fg_St) (y : Nat) : fg_cell Λ (y, σ.2.1, σ.2.2) 0 = Sum.inr (9, ((List.range (fg_nf.getD 9 0)).map (fg_fv Λ.1 σ 0 9)).set 1 (fg_cv Λ.1 (.ref y))) := by
  rw [fg_cell_o (c := 9) rfl (by decide)]
  rfl
theorem fg_cell_s2 (Λ : fg_La) (σ : fg_St) (y : Nat) : fg_cell Λ (σ.1, y, σ.2.2) 0 = Sum.inr (9, ((List.range (fg_nf.getD 9 0)).map (fg_fv Λ.1 σ 0 9)).set 2 (fg_cv Λ.1 (.ref y))) := by
  rw [fg_cell_o (c := 9) rfl (by decide)]
  rfl
section
variable {l : Launch} {Λ : fg_La} {Γ : fg_Ga} {d pc : Nat} {M : fg_M} {L : List (Option Value)} {st : List Value} {σ : fg_St}
theorem fg_d0 {i len a b w : Nat} {v : Int32} {ins : Instr} {Q : Int32 → fg_St → Prop} (g : (fg_S l Λ) d i (pc + len) L (.int v :: st) σ Q) (hc : ((match ins with
    | .iconst n => Nat.beq len 1 && decide (Int32.ofInt n = v)
    | .bipush n => Nat.beq len 2 && decide ((Int8.ofInt n).toInt32 = v)
    | .sipush n => Nat.beq len 3 && decide ((Int16.ofInt n).toInt32 = v)
    | .ldc x => Nat.beq len 2 && fg_w w (.constant M.1.cls x v)
    | .ldc_w x => Nat.beq len 3 && fg_w w (.constant M.1.cls x v)
    | _ => false)) = true) (C : fg_Cx Λ Γ d M) (hQ : fg_End Λ Γ M.2.2.2 Q) (hM : fg_mt[i]? = some M) (hd : decode M.2.1 pc = .ok (ins, len)) : fg_Wt l Λ Γ M.2.2.1 pc L st σ := by
  split at hc
  · simp only [Bool.and_eq_true, decide_eq_true_eq] at hc
    obtain ⟨e1, e2⟩ := hc
    cases Nat.eq_of_beq_eq_true e1
    exact fg_o_iconst C hd e2 (g M hM Γ C hQ)
  · simp only [Bool.and_eq_true, decide_eq_true_eq] at hc
    obtain ⟨e1, e2⟩ := hc
    cases Nat.eq_of_beq_eq_true e1
    exact fg_o_bipush C hd e2 (g M hM Γ C hQ)
  · simp only [Bool.and_eq_true, decide_eq_true_eq] at hc
    obtain ⟨e1, e2⟩ := hc
    cases Nat.eq_of_beq_eq_true e1
    exact fg_o_sipush C hd e2 (g M hM Γ C hQ)
  · simp only [Bool.and_eq_true, decide_eq_true_eq] at hc
    obtain ⟨e1, e2⟩ := hc
    cases Nat.eq_of_beq_eq_true e1
    exact fg_o_ldc C hd (fg_w_in e2 rfl) (g M hM Γ C hQ)
  · simp only [Bool.and_eq_true, decide_eq_true_eq] at hc
    obtain ⟨e1, e2⟩ := hc
    cases Nat.eq_of_beq_eq_true e1
    exact fg_o_ldcw C hd (fg_w_in e2 rfl) (g M hM Γ C hQ)
  · cases hc
theorem fg_d1 {i len a b w : Nat} {v : Int32} {ins : Instr} {Q : Int32 → fg_St → Prop} (g : (fg_S l Λ) d i (pc + len) L (.long (Int64.ofNat a) :: st) σ Q) (hc : ((match ins with
    | .lconst n => Nat.beq len 1 && Nat.beq n.val a
    | .ldc2_w x => Nat.beq len 3 && fg_w w (.constantLong M.1.cls x (Int64.ofNat a))
    | _ => false)) = true) (C : fg_Cx Λ Γ d M) (hQ : fg_End Λ Γ M.2.2.2 Q) (hM : fg_mt[i]? = some M) (hd : decode M.2.1 pc = .ok (ins, len)) : fg_Wt l Λ Γ M.2.2.1 pc L st σ := by
  split at hc
  · simp only [Bool.and_eq_true, decide_eq_true_eq] at hc
    obtain ⟨e1, e2⟩ := hc
    cases Nat.eq_of_beq_eq_true e1
    exact fg_o_lconst C hd (by rw [Nat.eq_of_beq_eq_true e2]) (g M hM Γ C hQ)
  · simp only [Bool.and_eq_true, decide_eq_true_eq] at hc
    obtain ⟨e1, e2⟩ := hc
    cases Nat.eq_of_beq_eq_true e1
    exact fg_o_ldc2 C hd (fg_w_in e2 rfl) (g M hM Γ C hQ)
  · cases hc
theorem fg_d2 {i len a b w : Nat} {v : Int32} {ins : Instr} {Q : Int32 → fg_St → Prop} (g : (match L[a]? with
    | some (some (.int x)) => (fg_S l Λ) d i (pc + len) L (.int x :: st) σ Q
    | _ => False)) (hc : ((match ins with
    | .iload_n k => Nat.beq len 1 && Nat.beq k.val a
    | .iload k => Nat.beq len 2 && Nat.beq k a
    | _ => false)) = true) (C : fg_Cx Λ Γ d M) (hQ : fg_End Λ Γ M.2.2.2 Q) (hM : fg_mt[i]? = some M) (hd : decode M.2.1 pc = .ok (ins, len)) : fg_Wt l Λ Γ M.2.2.1 pc L st σ := by
  split at hc
  · simp only [Bool.and_eq_true, decide_eq_true_eq] at hc
    obtain ⟨e1, e2⟩ := hc
    cases Nat.eq_of_beq_eq_true e1
    split at g
    · rename_i e
      exact fg_o_iload_n C hd (Nat.eq_of_beq_eq_true e2) e (g M hM Γ C hQ)
    · exact g.elim
  · simp only [Bool.and_eq_true, decide_eq_true_eq] at hc
    obtain ⟨e1, e2⟩ := hc
    cases Nat.eq_of_beq_eq_true e1
    cases Nat.eq_of_beq_eq_true e2
    split at g
    · rename_i e
      exact fg_o_iload C hd e (g M hM Γ C hQ)
    · exact g.elim
  · cases hc
theorem fg_d3 {i len a b w : Nat} {v : Int32} {ins : Instr} {Q : Int32 → fg_St → Prop} (g : (match L[a]? with
    | some (some (.ref x)) => (fg_S l Λ) d i (pc + len) L (.ref x :: st) σ Q
    | _ => False)) (hc : ((match ins with
    | .aload_n k => Nat.beq len 1 && Nat.beq k.val a
    | .aload k => Nat.beq len 2 && Nat.beq k a
    | _ => false)) = true) (C : fg_Cx Λ Γ d M) (hQ : fg_End Λ Γ M.2.2.2 Q) (hM : fg_mt[i]? = some M) (hd : decode M.2.1 pc = .ok (ins, len)) : fg_Wt l Λ Γ M.2.2.1 pc L st σ := by
  split at hc
  · simp only [Bool.and_eq_true, decide_eq_true_eq] at hc
    obtain ⟨e1, e2⟩ := hc
    cases Nat.eq_of_beq_eq_true e1
    split at g
    · rename_i e
      exact fg_o_aload_n C hd (Nat.eq_of_beq_eq_true e2) e (g M hM Γ C hQ)
    · exact g.elim
  · simp only [Bool.and_eq_true, decide_eq_true_eq] at hc
    obtain ⟨e1, e2⟩ := hc
    cases Nat.eq_of_beq_eq_true e1
    cases Nat.eq_of_beq_eq_true e2
    split at g
    · rename_i e
      exact fg_o_aload C hd e (g M hM Γ C hQ)
    · exact g.elim
  · cases hc
theorem fg_d4 {i len a b w : Nat} {v : Int32} {ins : Instr} {Q : Int32 → fg_St → Prop} (g : (match L[a]? with
    | some (some (.long x)) => (fg_S l Λ) d i (pc + len) L (.long x :: st) σ Q
    | _ => False)) (hc : ((match ins with
    | .lload_n k => Nat.beq len 1 && Nat.beq k.val a
    | .lload k => Nat.beq len 2 && Nat.beq k a
    | _ => false)) = true) (C : fg_Cx Λ Γ d M) (hQ : fg_End Λ Γ M.2.2.2 Q) (hM : fg_mt[i]? = some M) (hd : decode M.2.1 pc = .ok (ins, len)) : fg_Wt l Λ Γ M.2.2.1 pc L st σ := by
  split at hc
  · simp only [Bool.and_eq_true, decide_eq_true_eq] at hc
    obtain ⟨e1, e2⟩ := hc
    cases Nat.eq_of_beq_eq_true e1
    split at g
    · rename_i e
      exact fg_o_lload_n C hd (Nat.eq_of_beq_eq_true e2) e (g M hM Γ C hQ)
    · exact g.elim
  · simp only [Bool.and_eq_true, decide_eq_true_eq] at hc
    obtain ⟨e1, e2⟩ := hc
    cases Nat.eq_of_beq_eq_true e1
    cases Nat.eq_of_beq_eq_true e2
    split at g
    · rename_i e
      exact fg_o_lload C hd e (g M hM Γ C hQ)
    · exact g.elim
  · cases hc
theorem fg_d5 {i len a b w : Nat} {v : Int32} {ins : Instr} {Q : Int32 → fg_St → Prop} (g : (match st with
    | .int x :: r => fg_st1 L a ((fg_S l Λ) d i (pc + len) (L.set a (some (.int x))) r σ Q)
    | _ => False)) (hc : ((match ins with
    | .istore_n k => Nat.beq len 1 && Nat.beq k.val a
    | .istore k => Nat.beq len 2 && Nat.beq k a
    | _ => false)) = true) (C : fg_Cx Λ Γ d M) (hQ : fg_End Λ Γ M.2.2.2 Q) (hM : fg_mt[i]? = some M) (hd : decode M.2.1 pc = .ok (ins, len)) : fg_Wt l Λ Γ M.2.2.1 pc L st σ := by
  split at hc
  · simp only [Bool.and_eq_true, decide_eq_true_eq] at hc
    obtain ⟨e1, e2⟩ := hc
    cases Nat.eq_of_beq_eq_true e1
    split at g
    · obtain ⟨hn, hg, g⟩ := fg_st1_sp g
      exact fg_o_istore_n C hd (Nat.eq_of_beq_eq_true e2) hn hg (g M hM Γ C hQ)
    · exact g.elim
  · simp only [Bool.and_eq_true, decide_eq_true_eq] at hc
    obtain ⟨e1, e2⟩ := hc
    cases Nat.eq_of_beq_eq_true e1
    cases Nat.eq_of_beq_eq_true e2
    split at g
    · obtain ⟨hn, hg, g⟩ := fg_st1_sp g
      exact fg_o_istore C hd hn hg (g M hM Γ C hQ)
    · exact g.elim
  · cases hc
theorem fg_d6 {i len a b w : Nat} {v : Int32} {ins : Instr} {Q : Int32 → fg_St → Prop} (g : (match st with
    | .ref x :: r => fg_st1 L a ((fg_S l Λ) d i (pc + len) (L.set a (some (.ref x))) r σ Q)
    | _ => False)) (hc : ((match ins with
    | .astore_n k => Nat.beq len 1 && Nat.beq k.val a
    | .astore k => Nat.beq len 2 && Nat.beq k a
    | _ => false)) = true) (C : fg_Cx Λ Γ d M) (hQ : fg_End Λ Γ M.2.2.2 Q) (hM : fg_mt[i]? = some M) (hd : decode M.2.1 pc = .ok (ins, len)) : fg_Wt l Λ Γ M.2.2.1 pc L st σ := by
  split at hc
  · simp only [Bool.and_eq_true, decide_eq_true_eq] at hc
    obtain ⟨e1, e2⟩ := hc
    cases Nat.eq_of_beq_eq_true e1
    split at g
    · obtain ⟨hn, hg, g⟩ := fg_st1_sp g
      exact fg_o_astore_n C hd (Nat.eq_of_beq_eq_true e2) hn hg (g M hM Γ C hQ)
    · exact g.elim
  · simp only [Bool.and_eq_true, decide_eq_true_eq] at hc
    obtain ⟨e1, e2⟩ := hc
    cases Nat.eq_of_beq_eq_true e1
    cases Nat.eq_of_beq_eq_true e2
    split at g
    · obtain ⟨hn, hg, g⟩ := fg_st1_sp g
      exact fg_o_astore C hd hn hg (g M hM Γ C hQ)
    · exact g.elim
  · cases hc
theorem fg_d7 {i len a b w : Nat} {v : Int32} {ins : Instr} {Q : Int32 → fg_St → Prop} (g : (match st with
    | .long x :: r => fg_st2 L a ((fg_S l Λ) d i (pc + len) ((L.set a (some (.long x))).set (a + 1) none) r σ Q)
    | _ => False)) (hc : ((match ins with
    | .lstore_n k => Nat.beq len 1 && Nat.beq k.val a
    | .lstore k => Nat.beq len 2 && Nat.beq k a
    | _ => false)) = true) (C : fg_Cx Λ Γ d M) (hQ : fg_End Λ Γ M.2.2.2 Q) (hM : fg_mt[i]? = some M) (hd : decode M.2.1 pc = .ok (ins, len)) : fg_Wt l Λ Γ M.2.2.1 pc L st σ := by
  split at hc
  · simp only [Bool.and_eq_true, decide_eq_true_eq] at hc
    obtain ⟨e1, e2⟩ := hc
    cases Nat.eq_of_beq_eq_true e1
    split at g
    · obtain ⟨hn, hg, g⟩ := fg_st2_sp g
      exact fg_o_lstore_n C hd (Nat.eq_of_beq_eq_true e2) hn hg (g M hM Γ C hQ)
    · exact g.elim
  · simp only [Bool.and_eq_true, decide_eq_true_eq] at hc
    obtain ⟨e1, e2⟩ := hc
    cases Nat.eq_of_beq_eq_true e1
    cases Nat.eq_of_beq_eq_true e2
    split at g
    · obtain ⟨hn, hg, g⟩ := fg_st2_sp g
      exact fg_o_lstore C hd hn hg (g M hM Γ C hQ)
    · exact g.elim
  · cases hc
theorem fg_d8 {i len a b w : Nat} {v : Int32} {ins : Instr} {Q : Int32 → fg_St → Prop} (g : (match L[a]? with
    | some (some (.int x)) => fg_st1 L a ((fg_S l Λ) d i (pc + len) (L.set a (some (.int (x + v)))) st σ Q)
    | _ => False)) (hc : ((match ins with
    | .iinc k n => Nat.beq len 3 && (Nat.beq k a && decide (Int32.ofInt n = v))
    | _ => false)) = true) (C : fg_Cx Λ Γ d M) (hQ : fg_End Λ Γ M.2.2.2 Q) (hM : fg_mt[i]? = some M) (hd : decode M.2.1 pc = .ok (ins, len)) : fg_Wt l Λ Γ M.2.2.1 pc L st σ := by
  split at hc
  · simp only [Bool.and_eq_true, decide_eq_true_eq] at hc
    obtain ⟨e1, e2, e3⟩ := hc
    cases Nat.eq_of_beq_eq_true e1
    cases Nat.eq_of_beq_eq_true e2
    split at g
    · rename_i e
      obtain ⟨hn, hg, g⟩ := fg_st1_sp g
      exact fg_o_iinc C hd e3 e hg (g M hM Γ C hQ)
    · exact g.elim
  · cases hc
theorem fg_d9 {i len a b w : Nat} {v : Int32} {ins : Instr} {Q : Int32 → fg_St → Prop} (hc : ((match b with
    | 0 => Nat.beq len 1 && decide (ins = .iadd)
    | 1 => Nat.beq len 1 && decide (ins = .isub)
    | 2 => Nat.beq len 1 && decide (ins = .imul)
    | 3 => Nat.beq len 1 && decide (ins = .iand)
    | 4 => Nat.beq len 1 && decide (ins = .ior)
    | 5 => Nat.beq len 1 && decide (ins = .ixor)
    | 6 => Nat.beq len 1 && decide (ins = .ishl)
    | 7 => Nat.beq len 1 && decide (ins = .ishr)
    | _ => Nat.beq len 1 && decide (ins = .iushr))) = true) (g : (match st with
    | .int y :: .int x :: r => (fg_S l Λ) d i (pc + len) L (.int (fg_bin b x y) :: r) σ Q
    | _ => False)) (C : fg_Cx Λ Γ d M) (hQ : fg_End Λ Γ M.2.2.2 Q) (hM : fg_mt[i]? = some M) (hd : decode M.2.1 pc = .ok (ins, len)) : fg_Wt l Λ Γ M.2.2.1 pc L st σ := by
  have hb8 : (b = 0 → False) → (b = 1 → False) → (b = 2 → False) → (b = 3 → False) → (b = 4 → False) → (b = 5 → False) → (b = 6 → False) → (b = 7 → False) → ∀ x y, fg_bin b x y = (x.toUInt32 >>> (y.toUInt32 &&& Int32.toUInt32 31)).toInt32 := by
    intro h0 h1 h2 h3 h4 h5 h6 h7 x y
    unfold fg_bin
    split <;> first | (exact absurd rfl h0) | (exact absurd rfl h1) | (exact absurd rfl h2) | (exact absurd rfl h3) | (exact absurd rfl h4) | (exact absurd rfl h5) | (exact absurd rfl h6) | (exact absurd rfl h7) | rfl
  split at hc
  · simp only [Bool.and_eq_true, decide_eq_true_eq] at hc
    obtain ⟨e1, rfl⟩ := hc
    cases Nat.eq_of_beq_eq_true e1
    split at g
    · exact fg_o_iadd C hd (g M hM Γ C hQ)
    · exact g.elim
  · simp only [Bool.and_eq_true, decide_eq_true_eq] at hc
    obtain ⟨e1, rfl⟩ := hc
    cases Nat.eq_of_beq_eq_true e1
    split at g
    · exact fg_o_isub C hd (g M hM Γ C hQ)
    · exact g.elim
  · simp only [Bool.and_eq_true, decide_eq_true_eq] at hc
    obtain ⟨e1, rfl⟩ := hc
    cases Nat.eq_of_beq_eq_true e1
    split at g
    · exact fg_o_imul C hd (g M hM Γ C hQ)
    · exact g.elim
  · simp only [Bool.and_eq_true, decide_eq_true_eq] at hc
    obtain ⟨e1, rfl⟩ := hc
    cases Nat.eq_of_beq_eq_true e1
    split at g
    · exact fg_o_iand C hd (g M hM Γ C hQ)
    · exact g.elim
  · simp only [Bool.and_eq_true, decide_eq_true_eq] at hc
    obtain ⟨e1, rfl⟩ := hc
    cases Nat.eq_of_beq_eq_true e1
    split at g
    · exact fg_o_ior C hd (g M hM Γ C hQ)
    · exact g.elim
  · simp only [Bool.and_eq_true, decide_eq_true_eq] at hc
    obtain ⟨e1, rfl⟩ := hc
    cases Nat.eq_of_beq_eq_true e1
    split at g
    · exact fg_o_ixor C hd (g M hM Γ C hQ)
    · exact g.elim
  · simp only [Bool.and_eq_true, decide_eq_true_eq] at hc
    obtain ⟨e1, rfl⟩ := hc
    cases Nat.eq_of_beq_eq_true e1
    split at g
    · exact fg_o_ishl C hd (g M hM Γ C hQ)
    · exact g.elim
  · simp only [Bool.and_eq_true, decide_eq_true_eq] at hc
    obtain ⟨e1, rfl⟩ := hc
    cases Nat.eq_of_beq_eq_true e1
    split at g
    · exact fg_o_ishr C hd (g M hM Γ C hQ)
    · exact g.elim
  · simp only [Bool.and_eq_true, decide_eq_true_eq] at hc
    obtain ⟨e1, rfl⟩ := hc
    cases Nat.eq_of_beq_eq_true e1
    simp only [hb8 ‹b = 0 → False› ‹b = 1 → False› ‹b = 2 → False› ‹b = 3 → False› ‹b = 4 → False› ‹b = 5 → False› ‹b = 6 → False› ‹b = 7 → False›] at g
    split at g
    · exact fg_o_iushr C hd (g M hM Γ C hQ)
    · exact g.elim
theorem fg_d10 {i len a b w : Nat} {v : Int32} {ins : Instr} {Q : Int32 → fg_St → Prop} (g : (match st with
    | .int y :: .int x :: r => ¬ y = 0 ∧ (fg_S l Λ) d i (pc + len) L (.int (x / y) :: r) σ Q
    | _ => False)) (hc : (Nat.beq len 1 && decide (ins = .idiv)) = true) (C : fg_Cx Λ Γ d M) (hQ : fg_End Λ Γ M.2.2.2 Q) (hM : fg_mt[i]? = some M) (hd : decode M.2.1 pc = .ok (ins, len)) : fg_Wt l Λ Γ M.2.2.1 pc L st σ := by
  simp only [Bool.and_eq_true, decide_eq_true_eq] at hc
  obtain ⟨e1, rfl⟩ := hc
  cases Nat.eq_of_beq_eq_true e1
  split at g
  · exact fg_o_idiv C hd g.1 (g.2 M hM Γ C hQ)
  · exact g.elim
theorem fg_d11 {i len a b w : Nat} {v : Int32} {ins : Instr} {Q : Int32 → fg_St → Prop} (g : (match st with
    | .int y :: .int x :: r => ¬ y = 0 ∧ (fg_S l Λ) d i (pc + len) L (.int (x - x / y * y) :: r) σ Q
    | _ => False)) (hc : (Nat.beq len 1 && decide (ins = .irem)) = true) (C : fg_Cx Λ Γ d M) (hQ : fg_End Λ Γ M.2.2.2 Q) (hM : fg_mt[i]? = some M) (hd : decode M.2.1 pc = .ok (ins, len)) : fg_Wt l Λ Γ M.2.2.1 pc L st σ := by
  simp only [Bool.and_eq_true, decide_eq_true_eq] at hc
  obtain ⟨e1, rfl⟩ := hc
  cases Nat.eq_of_beq_eq_true e1
  split at g
  · exact fg_o_irem C hd g.1 (g.2 M hM Γ C hQ)
  · exact g.elim
theorem fg_d12 {i len a b w : Nat} {v : Int32} {ins : Instr} {Q : Int32 → fg_St → Prop} (g : (match st with
    | .int x :: r => (fg_S l Λ) d i (pc + len) L (.int (-x) :: r) σ Q
    | _ => False)) (hc : (Nat.beq len 1 && decide (ins = .ineg)) = true) (C : fg_Cx Λ Γ d M) (hQ : fg_End Λ Γ M.2.2.2 Q) (hM : fg_mt[i]? = some M) (hd : decode M.2.1 pc = .ok (ins, len)) : fg_Wt l Λ Γ M.2.2.1 pc L st σ := by
  simp only [Bool.and_eq_true, decide_eq_true_eq] at hc
  obtain ⟨e1, rfl⟩ := hc
  cases Nat.eq_of_beq_eq_true e1
  split at g
  · exact fg_o_ineg C hd (g M hM Γ C hQ)
  · exact g.elim
theorem fg_d13 {i len a b w : Nat} {v : Int32} {ins : Instr} {Q : Int32 → fg_St → Prop} (g : (match st with
    | .int x :: r => (fg_S l Λ) d i (pc + len) L (.long x.toInt64 :: r) σ Q
    | _ => False)) (hc : (Nat.beq len 1 && decide (ins = .i2l)) = true) (C : fg_Cx Λ Γ d M) (hQ : fg_End Λ Γ M.2.2.2 Q) (hM : fg_mt[i]? = some M) (hd : decode M.2.1 pc = .ok (ins, len)) : fg_Wt l Λ Γ M.2.2.1 pc L st σ := by
  simp only [Bool.and_eq_true, decide_eq_true_eq] at hc
  obtain ⟨e1, rfl⟩ := hc
  cases Nat.eq_of_beq_eq_true e1
  split at g
  · exact fg_o_i2l C hd (g M hM Γ C hQ)
  · exact g.elim
theorem fg_d14 {i len a b w : Nat} {v : Int32} {ins : Instr} {Q : Int32 → fg_St → Prop} (g : (match st with
    | .long x :: r => (fg_S l Λ) d i (pc + len) L (.int x.toInt32 :: r) σ Q
    | _ => False)) (hc : (Nat.beq len 1 && decide (ins = .l2i)) = true) (C : fg_Cx Λ Γ d M) (hQ : fg_End Λ Γ M.2.2.2 Q) (hM : fg_mt[i]? = some M) (hd : decode M.2.1 pc = .ok (ins, len)) : fg_Wt l Λ Γ M.2.2.1 pc L st σ := by
  simp only [Bool.and_eq_true, decide_eq_true_eq] at hc
  obtain ⟨e1, rfl⟩ := hc
  cases Nat.eq_of_beq_eq_true e1
  split at g
  · exact fg_o_l2i C hd (g M hM Γ C hQ)
  · exact g.elim
theorem fg_d15 {i len a b w : Nat} {v : Int32} {ins : Instr} {Q : Int32 → fg_St → Prop} (hc : ((match b with
    | 0 => Nat.beq len 1 && decide (ins = .ladd)
    | 1 => Nat.beq len 1 && decide (ins = .lmul)
    | _ => Nat.beq len 1 && decide (ins = .land))) = true) (g : (match st with
    | .long y :: .long x :: r => (fg_S l Λ) d i (pc + len) L (.long (fg_lbin b x y) :: r) σ Q
    | _ => False)) (C : fg_Cx Λ Γ d M) (hQ : fg_End Λ Γ M.2.2.2 Q) (hM : fg_mt[i]? = some M) (hd : decode M.2.1 pc = .ok (ins, len)) : fg_Wt l Λ Γ M.2.2.1 pc L st σ := by
  have hb2 : (b = 0 → False) → (b = 1 → False) → ∀ x y, fg_lbin b x y = x &&& y := by
    intro h0 h1 x y
    unfold fg_lbin
    split <;> first | (exact absurd rfl h0) | (exact absurd rfl h1) | rfl
  split at hc
  · simp only [Bool.and_eq_true, decide_eq_true_eq] at hc
    obtain ⟨e1, rfl⟩ := hc
    cases Nat.eq_of_beq_eq_true e1
    split at g
    · exact fg_o_ladd C hd (g M hM Γ C hQ)
    · exact g.elim
  · simp only [Bool.and_eq_true, decide_eq_true_eq] at hc
    obtain ⟨e1, rfl⟩ := hc
    cases Nat.eq_of_beq_eq_true e1
    split at g
    · exact fg_o_lmul C hd (g M hM Γ C hQ)
    · exact g.elim
  · simp only [Bool.and_eq_true, decide_eq_true_eq] at hc
    obtain ⟨e1, rfl⟩ := hc
    cases Nat.eq_of_beq_eq_true e1
    simp only [hb2 ‹b = 0 → False› ‹b = 1 → False›] at g
    split at g
    · exact fg_o_land C hd (g M hM Γ C hQ)
    · exact g.elim
theorem fg_d16 {i len a b w : Nat} {v : Int32} {ins : Instr} {Q : Int32 → fg_St → Prop} (g : (match st with
    | .long y :: .long x :: r => ¬ y = 0 ∧ (fg_S l Λ) d i (pc + len) L (.long (x / y) :: r) σ Q
    | _ => False)) (hc : (Nat.beq len 1 && decide (ins = .ldiv)) = true) (C : fg_Cx Λ Γ d M) (hQ : fg_End Λ Γ M.2.2.2 Q) (hM : fg_mt[i]? = some M) (hd : decode M.2.1 pc = .ok (ins, len)) : fg_Wt l Λ Γ M.2.2.1 pc L st σ := by
  simp only [Bool.and_eq_true, decide_eq_true_eq] at hc
  obtain ⟨e1, rfl⟩ := hc
  cases Nat.eq_of_beq_eq_true e1
  split at g
  · exact fg_o_ldiv C hd g.1 (g.2 M hM Γ C hQ)
  · exact g.elim
theorem fg_d17 {i len a b w : Nat} {v : Int32} {ins : Instr} {Q : Int32 → fg_St → Prop} (g : (match st with
    | .long y :: .long x :: r => ¬ y = 0 ∧ (fg_S l Λ) d i (pc + len) L (.long (x - x / y * y) :: r) σ Q
    | _ => False)) (hc : (Nat.beq len 1 && decide (ins = .lrem)) = true) (C : fg_Cx Λ Γ d M) (hQ : fg_End Λ Γ M.2.2.2 Q) (hM : fg_mt[i]? = some M) (hd : decode M.2.1 pc = .ok (ins, len)) : fg_Wt l Λ Γ M.2.2.1 pc L st σ := by
  simp only [Bool.and_eq_true, decide_eq_true_eq] at hc
  obtain ⟨e1, rfl⟩ := hc
  cases Nat.eq_of_beq_eq_true e1
  split at g
  · exact fg_o_lrem C hd g.1 (g.2 M hM Γ C hQ)
  · exact g.elim
theorem fg_d18 {i len a b w : Nat} {v : Int32} {ins : Instr} {Q : Int32 → fg_St → Prop} (g : (match st with
    | .long y :: .long x :: r => (fg_S l Λ) d i (pc + len) L (.int (lg_cmp x y) :: r) σ Q
    | _ => False)) (hc : (Nat.beq len 1 && decide (ins = .lcmp)) = true) (C : fg_Cx Λ Γ d M) (hQ : fg_End Λ Γ M.2.2.2 Q) (hM : fg_mt[i]? = some M) (hd : decode M.2.1 pc = .ok (ins, len)) : fg_Wt l Λ Γ M.2.2.1 pc L st σ := by
  simp only [Bool.and_eq_true, decide_eq_true_eq] at hc
  obtain ⟨e1, rfl⟩ := hc
  cases Nat.eq_of_beq_eq_true e1
  split at g
  · exact fg_o_lcmp C hd (g M hM Γ C hQ)
  · exact g.elim
theorem fg_d19 {i len a b w : Nat} {v : Int32} {ins : Instr} {Q : Int32 → fg_St → Prop} (g : (match st with
    | .int x :: r => (fg_S l Λ) d i (pc + len) L (.int x :: .int x :: r) σ Q
    | .ref x :: r => (fg_S l Λ) d i (pc + len) L (.ref x :: .ref x :: r) σ Q
    | _ => False)) (hc : (Nat.beq len 1 && decide (ins = .dup)) = true) (C : fg_Cx Λ Γ d M) (hQ : fg_End Λ Γ M.2.2.2 Q) (hM : fg_mt[i]? = some M) (hd : decode M.2.1 pc = .ok (ins, len)) : fg_Wt l Λ Γ M.2.2.1 pc L st σ := by
  simp only [Bool.and_eq_true, decide_eq_true_eq] at hc
  obtain ⟨e1, rfl⟩ := hc
  cases Nat.eq_of_beq_eq_true e1
  split at g
  · exact fg_o_dupi C hd (g M hM Γ C hQ)
  · exact fg_o_dupa C hd (g M hM Γ C hQ)
  · exact g.elim
theorem fg_d20 {i len a b w : Nat} {v : Int32} {ins : Instr} {Q : Int32 → fg_St → Prop} (g : (match st with
    | .int _ :: r => (fg_S l Λ) d i (pc + len) L r σ Q
    | .ref _ :: r => (fg_S l Λ) d i (pc + len) L r σ Q
    | _ => False)) (hc : (Nat.beq len 1 && decide (ins = .pop)) = true) (C : fg_Cx Λ Γ d M) (hQ : fg_End Λ Γ M.2.2.2 Q) (hM : fg_mt[i]? = some M) (hd : decode M.2.1 pc = .ok (ins, len)) : fg_Wt l Λ Γ M.2.2.1 pc L st σ := by
  simp only [Bool.and_eq_true, decide_eq_true_eq] at hc
  obtain ⟨e1, rfl⟩ := hc
  cases Nat.eq_of_beq_eq_true e1
  split at g
  · exact fg_o_popi C hd (g M hM Γ C hQ)
  · exact fg_o_popa C hd (g M hM Γ C hQ)
  · exact g.elim
theorem fg_d21 {i len a b w : Nat} {v : Int32} {ins : Instr} {Q : Int32 → fg_St → Prop} (g : (match st with
    | .int x :: .ref y :: r => (fg_S l Λ) d i (pc + len) L (.int x :: .ref y :: .int x :: .ref y :: r) σ Q
    | _ => False)) (hc : (Nat.beq len 1 && decide (ins = .dup2)) = true) (C : fg_Cx Λ Γ d M) (hQ : fg_End Λ Γ M.2.2.2 Q) (hM : fg_mt[i]? = some M) (hd : decode M.2.1 pc = .ok (ins, len)) : fg_Wt l Λ Γ M.2.2.1 pc L st σ := by
  simp only [Bool.and_eq_true, decide_eq_true_eq] at hc
  obtain ⟨e1, rfl⟩ := hc
  cases Nat.eq_of_beq_eq_true e1
  split at g
  · exact fg_o_dup2 C hd (g M hM Γ C hQ)
  · exact g.elim
theorem fg_d22 {i len a b w : Nat} {v : Int32} {ins : Instr} {Q : Int32 → fg_St → Prop} (g : (fg_S l Λ) d i a L st σ Q) (hc : ((match ins with
    | .goto off => Nat.beq len 3 && decide ((pc : Int) + off = (a : Int))
    | _ => false)) = true) (C : fg_Cx Λ Γ d M) (hQ : fg_End Λ Γ M.2.2.2 Q) (hM : fg_mt[i]? = some M) (hd : decode M.2.1 pc = .ok (ins, len)) : fg_Wt l Λ Γ M.2.2.1 pc L st σ := by
  split at hc
  · simp only [Bool.and_eq_true, decide_eq_true_eq] at hc
    obtain ⟨e1, e2⟩ := hc
    cases Nat.eq_of_beq_eq_true e1
    exact fg_o_goto C hd e2 (g M hM Γ C hQ)
  · cases hc
theorem fg_d23 {i len a b w : Nat} {v : Int32} {ins : Instr} {Q : Int32 → fg_St → Prop} (g : (match st with
    | .int x :: r => (fg_cnd b x 0 → (fg_S l Λ) d i a L r σ Q) ∧ (¬ fg_cnd b x 0 → (fg_S l Λ) d i (pc + len) L r σ Q)
    | _ => False)) (hc : ((match ins with
    | .ifCond o off => Nat.beq len 3 && (Nat.beq (fg_cq o) b && decide ((pc : Int) + off = (a : Int)))
    | _ => false)) = true) (C : fg_Cx Λ Γ d M) (hQ : fg_End Λ Γ M.2.2.2 Q) (hM : fg_mt[i]? = some M) (hd : decode M.2.1 pc = .ok (ins, len)) : fg_Wt l Λ Γ M.2.2.1 pc L st σ := by
  split at hc
  · simp only [Bool.and_eq_true, decide_eq_true_eq] at hc
    obtain ⟨e1, e2, e3⟩ := hc
    cases Nat.eq_of_beq_eq_true e1
    rename_i o off
    have e2 := Nat.eq_of_beq_eq_true e2
    subst e2
    split at g
    · cases o
      · exact fg_o_if_eq C hd e3 (fun q => g.1 q M hM Γ C hQ) (fun q => g.2 q M hM Γ C hQ)
      · exact fg_o_if_ne C hd e3 (fun q => g.1 q M hM Γ C hQ) (fun q => g.2 q M hM Γ C hQ)
      · exact fg_o_if_lt C hd e3 (fun q => g.1 q M hM Γ C hQ) (fun q => g.2 q M hM Γ C hQ)
      · exact fg_o_if_ge C hd e3 (fun q => g.1 q M hM Γ C hQ) (fun q => g.2 q M hM Γ C hQ)
      · exact fg_o_if_gt C hd e3 (fun q => g.1 q M hM Γ C hQ) (fun q => g.2 q M hM Γ C hQ)
      · exact fg_o_if_le C hd e3 (fun q => g.1 q M hM Γ C hQ) (fun q => g.2 q M hM Γ C hQ)
    · exact g.elim
  · cases hc
theorem fg_d24 {i len a b w : Nat} {v : Int32} {ins : Instr} {Q : Int32 → fg_St → Prop} (g : (match st with
    | .int y :: .int x :: r => (fg_cnd b x y → (fg_S l Λ) d i a L r σ Q) ∧ (¬ fg_cnd b x y → (fg_S l Λ) d i (pc + len) L r σ Q)
    | _ => False)) (hc : ((match ins with
    | .if_icmp o off => Nat.beq len 3 && (Nat.beq (fg_cq o) b && decide ((pc : Int) + off = (a : Int)))
    | _ => false)) = true) (C : fg_Cx Λ Γ d M) (hQ : fg_End Λ Γ M.2.2.2 Q) (hM : fg_mt[i]? = some M) (hd : decode M.2.1 pc = .ok (ins, len)) : fg_Wt l Λ Γ M.2.2.1 pc L st σ := by
  split at hc
  · simp only [Bool.and_eq_true, decide_eq_true_eq] at hc
    obtain ⟨e1, e2, e3⟩ := hc
    cases Nat.eq_of_beq_eq_true e1
    rename_i o off
    have e2 := Nat.eq_of_beq_eq_true e2
    subst e2
    split at g
    · cases o
      · exact fg_o_icmp_eq C hd e3 (fun q => g.1 q M hM Γ C hQ) (fun q => g.2 q M hM Γ C hQ)
      · exact fg_o_icmp_ne C hd e3 (fun q => g.1 q M hM Γ C hQ) (fun q => g.2 q M hM Γ C hQ)
      · exact fg_o_icmp_lt C hd e3 (fun q => g.1 q M hM Γ C hQ) (fun q => g.2 q M hM Γ C hQ)
      · exact fg_o_icmp_ge C hd e3 (fun q => g.1 q M hM Γ C hQ) (fun q => g.2 q M hM Γ C hQ)
      · exact fg_o_icmp_gt C hd e3 (fun q => g.1 q M hM Γ C hQ) (fun q => g.2 q M hM Γ C hQ)
      · exact fg_o_icmp_le C hd e3 (fun q => g.1 q M hM Γ C hQ) (fun q => g.2 q M hM Γ C hQ)
    · exact g.elim
  · cases hc
theorem fg_d25 {i len a b w : Nat} {v : Int32} {ins : Instr} {Q : Int32 → fg_St → Prop} (g : (match st with
    | .int x :: r => (match fg_swt[a]? with
      | some q => fg_sw x (fun t => (fg_S l Λ) d i t L r σ Q) q.2 0 q.1
      | none => False)
    | _ => False)) (hc : ((match ins with
    | .tableswitch df lo hi offs => (match fg_swt[a]? with
      | some q => decide (lo = 0) && (decide (hi = (q.1.length : Int) - 1) && (Nat.ble q.1.length 1000 && (decide ((pc : Int) + df = (q.2 : Int)) && decide (offs.toList.map (fun o => (pc : Int) + o) = q.1.map (fun t : Nat => (t : Int))))))
      | none => false)
    | _ => false)) = true) (C : fg_Cx Λ Γ d M) (hQ : fg_End Λ Γ M.2.2.2 Q) (hM : fg_mt[i]? = some M) (hd : decode M.2.1 pc = .ok (ins, len)) : fg_Wt l Λ Γ M.2.2.1 pc L st σ := by
  split at hc
  · split at hc
    · rename_i q hq
      simp only [Bool.and_eq_true, decide_eq_true_eq] at hc
      obtain ⟨e1, e2, e3, e4, e5⟩ := hc
      split at g
      · rw [hq] at g
        exact fg_o_switch C hd e1 e2 (Nat.le_of_ble_eq_true e3) e4 e5 (fg_sw_mono (fun t z => z M hM Γ C hQ) _ _ g)
      · exact g.elim
    · cases hc
  · cases hc
theorem fg_d26 {i len a b w : Nat} {v : Int32} {ins : Instr} {Q : Int32 → fg_St → Prop} (g : (match st with
    | .ref h :: r => fg_kd h = a ∧ (fg_S l Λ) d i (pc + len) L (.int (fg_F σ h b) :: r) σ Q
    | _ => False)) (hc : ((match ins with
    | .getfield x => Nat.beq len 3 && (fg_fk M.1.cls x a b w && !(fg_rf a b))
    | _ => false)) = true) (C : fg_Cx Λ Γ d M) (hQ : fg_End Λ Γ M.2.2.2 Q) (hM : fg_mt[i]? = some M) (hd : decode M.2.1 pc = .ok (ins, len)) : fg_Wt l Λ Γ M.2.2.1 pc L st σ := by
  split at hc
  · simp only [Bool.and_eq_true, Bool.not_eq_true'] at hc
    obtain ⟨e1, e2, e3⟩ := hc
    cases Nat.eq_of_beq_eq_true e1
    obtain ⟨q, hq, hbq, hw⟩ := fg_fk_sp e2
    split at g
    · exact fg_o_get C hd hq hbq hw g.1 (by unfold fg_fv; rw [e3]; rfl) (g.2 M hM Γ C hQ)
    · exact g.elim
  · cases hc
theorem fg_d27 {i len a b w : Nat} {v : Int32} {ins : Instr} {Q : Int32 → fg_St → Prop} (g : (match st with
    | .ref h :: r => fg_kd h = a ∧ (fg_S l Λ) d i (pc + len) L (.ref (fg_pt σ h b) :: r) σ Q
    | _ => False)) (hc : ((match ins with
    | .getfield x => Nat.beq len 3 && (fg_fk M.1.cls x a b w && fg_rf a b)
    | _ => false)) = true) (C : fg_Cx Λ Γ d M) (hQ : fg_End Λ Γ M.2.2.2 Q) (hM : fg_mt[i]? = some M) (hd : decode M.2.1 pc = .ok (ins, len)) : fg_Wt l Λ Γ M.2.2.1 pc L st σ := by
  split at hc
  · simp only [Bool.and_eq_true] at hc
    obtain ⟨e1, e2, e3⟩ := hc
    cases Nat.eq_of_beq_eq_true e1
    obtain ⟨q, hq, hbq, hw⟩ := fg_fk_sp e2
    split at g
    · exact fg_o_get C hd hq hbq hw g.1 (by unfold fg_fv; rw [e3]; rfl) (g.2 M hM Γ C hQ)
    · exact g.elim
  · cases hc
theorem fg_d28 {i len a b w : Nat} {v : Int32} {ins : Instr} {Q : Int32 → fg_St → Prop} (g : (match st with
    | .int x :: .ref h :: r => fg_kd h = a ∧ (fg_S l Λ) d i (pc + len) L r (fg_sF σ h b x) Q
    | _ => False)) (hc : ((match ins with
    | .putfield x => Nat.beq len 3 && (fg_fk M.1.cls x a b w && (!(fg_rf a b) && fg_fp a b .int))
    | _ => false)) = true) (C : fg_Cx Λ Γ d M) (hQ : fg_End Λ Γ M.2.2.2 Q) (hM : fg_mt[i]? = some M) (hd : decode M.2.1 pc = .ok (ins, len)) : fg_Wt l Λ Γ M.2.2.1 pc L st σ := by
  split at hc
  · simp only [Bool.and_eq_true, Bool.not_eq_true'] at hc
    obtain ⟨e1, e2, e3, e4⟩ := hc
    cases Nat.eq_of_beq_eq_true e1
    obtain ⟨q, hq, hbq, hw⟩ := fg_fk_sp e2
    obtain ⟨f1, f2⟩ := fg_fp_sp hq e4
    split at g
    · exact fg_o_put C hd hq hbq hw g.1 f1 f2 rfl rfl (fg_cell_sF g.1 (fg_clok _ _ hq).1 e3).symm (fun z _ hz => fg_cell_sFo z hz) (g.2 M hM Γ C hQ)
    · exact g.elim
  · cases hc
theorem fg_d29 {i len a b w : Nat} {v : Int32} {ins : Instr} {Q : Int32 → fg_St → Prop} (g : (match st with
    | .int x :: .ref h :: r => fg_kd h = a ∧ (x = 0 ∨ x = 1) ∧ (fg_S l Λ) d i (pc + len) L r (fg_sF σ h b x) Q
    | _ => False)) (hc : ((match ins with
    | .putfield x => Nat.beq len 3 && (fg_fk M.1.cls x a b w && (!(fg_rf a b) && fg_fp a b .boolean))
    | _ => false)) = true) (C : fg_Cx Λ Γ d M) (hQ : fg_End Λ Γ M.2.2.2 Q) (hM : fg_mt[i]? = some M) (hd : decode M.2.1 pc = .ok (ins, len)) : fg_Wt l Λ Γ M.2.2.1 pc L st σ := by
  split at hc
  · simp only [Bool.and_eq_true, Bool.not_eq_true'] at hc
    obtain ⟨e1, e2, e3, e4⟩ := hc
    cases Nat.eq_of_beq_eq_true e1
    obtain ⟨q, hq, hbq, hw⟩ := fg_fk_sp e2
    obtain ⟨f1, f2⟩ := fg_fp_sp hq e4
    split at g
    · exact fg_o_put C hd hq hbq hw g.1 f1 f2 (by rcases g.2.1 with rfl | rfl <;> rfl) (by rcases g.2.1 with rfl | rfl <;> rfl) (fg_cell_sF g.1 (fg_clok _ _ hq).1 e3).symm (fun z _ hz => fg_cell_sFo z hz) (g.2.2 M hM Γ C hQ)
    · exact g.elim
  · cases hc
theorem fg_d30 {i len a b w : Nat} {v : Int32} {ins : Instr} {Q : Int32 → fg_St → Prop} (g : (match st with
    | .ref y :: .ref h :: r => h = 0 ∧ (match b with
      | 1 => (fg_S l Λ) d i (pc + len) L r (y, σ.2.1, σ.2.2) Q
      | 2 => (fg_S l Λ) d i (pc + len) L r (σ.1, y, σ.2.2) Q
      | _ => False)
    | _ => False)) (hc : ((match ins with
    | .putfield x => Nat.beq len 3 && (fg_fk M.1.cls x a b w && (Nat.beq a 9 && ((Nat.beq b 1 || Nat.beq b 2) && fg_fp a b (.object "FlagSignals$Ship"))))
    | _ => false)) = true) (C : fg_Cx Λ Γ d M) (hQ : fg_End Λ Γ M.2.2.2 Q) (hM : fg_mt[i]? = some M) (hd : decode M.2.1 pc = .ok (ins, len)) : fg_Wt l Λ Γ M.2.2.1 pc L st σ := by
  split at hc
  · simp only [Bool.and_eq_true, Bool.or_eq_true] at hc
    obtain ⟨e1, e2, e3, e4, e5⟩ := hc
    cases Nat.eq_of_beq_eq_true e1
    obtain ⟨q, hq, hbq, hw⟩ := fg_fk_sp e2
    obtain ⟨f1, f2⟩ := fg_fp_sp hq e5
    have e3 := Nat.eq_of_beq_eq_true e3
    subst e3
    split at g
    · obtain ⟨rfl, g⟩ := g
      rcases e4 with e4 | e4
      · cases Nat.eq_of_beq_eq_true e4
        exact fg_o_put C hd hq hbq hw rfl f1 f2 rfl rfl (fg_cell_s1 _ _ _).symm (fun z hl hz => fg_cell_spo _ _ z hl hz) (g M hM Γ C hQ)
      · cases Nat.eq_of_beq_eq_true e4
        exact fg_o_put C hd hq hbq hw rfl f1 f2 rfl rfl (fg_cell_s2 _ _ _).symm (fun z hl hz => fg_cell_spo _ _ z hl hz) (g M hM Γ C hQ)
    · exact g.elim
  · cases hc
theorem fg_d31 {i len a b w : Nat} {v : Int32} {ins : Instr} {Q : Int32 → fg_St → Prop} (g : (match st with
    | .int j :: .ref h :: r => fg_kd h = 11 ∧ vp_in j (fg_ln h) ∧ (fg_S l Λ) d i (pc + len) L (.int (fg_R σ h j.toNatClampNeg) :: r) σ Q
    | _ => False)) (hc : (Nat.beq len 1 && decide (ins = .iaload)) = true) (C : fg_Cx Λ Γ d M) (hQ : fg_End Λ Γ M.2.2.2 Q) (hM : fg_mt[i]? = some M) (hd : decode M.2.1 pc = .ok (ins, len)) : fg_Wt l Λ Γ M.2.2.1 pc L st σ := by
  simp only [Bool.and_eq_true, decide_eq_true_eq] at hc
  obtain ⟨e1, rfl⟩ := hc
  cases Nat.eq_of_beq_eq_true e1
  split at g
  · exact fg_o_iald C hd g.1 g.2.1 (g.2.2 M hM Γ C hQ)
  · exact g.elim
theorem fg_d32 {i len a b w : Nat} {v : Int32} {ins : Instr} {Q : Int32 → fg_St → Prop} (g : (match st with
    | .int x :: .int j :: .ref h :: r => fg_kd h = 11 ∧ vp_in j (fg_ln h) ∧ (fg_S l Λ) d i (pc + len) L r (fg_sR σ h j.toNatClampNeg x) Q
    | _ => False)) (hc : (Nat.beq len 1 && decide (ins = .iastore)) = true) (C : fg_Cx Λ Γ d M) (hQ : fg_End Λ Γ M.2.2.2 Q) (hM : fg_mt[i]? = some M) (hd : decode M.2.1 pc = .ok (ins, len)) : fg_Wt l Λ Γ M.2.2.1 pc L st σ := by
  simp only [Bool.and_eq_true, decide_eq_true_eq] at hc
  obtain ⟨e1, rfl⟩ := hc
  cases Nat.eq_of_beq_eq_true e1
  split at g
  · exact fg_o_iast C hd g.1 g.2.1 (g.2.2 M hM Γ C hQ)
  · exact g.elim
theorem fg_d33 {i len a b w : Nat} {v : Int32} {ins : Instr} {Q : Int32 → fg_St → Prop} (g : (match st with
    | .int j :: .ref h :: r => fg_kd h = 12 ∧ vp_in j (fg_ln h) ∧ (fg_S l Λ) d i (pc + len) L (.int (fg_R σ h j.toNatClampNeg) :: r) σ Q
    | _ => False)) (hc : (Nat.beq len 1 && decide (ins = .baload)) = true) (C : fg_Cx Λ Γ d M) (hQ : fg_End Λ Γ M.2.2.2 Q) (hM : fg_mt[i]? = some M) (hd : decode M.2.1 pc = .ok (ins, len)) : fg_Wt l Λ Γ M.2.2.1 pc L st σ := by
  simp only [Bool.and_eq_true, decide_eq_true_eq] at hc
  obtain ⟨e1, rfl⟩ := hc
  cases Nat.eq_of_beq_eq_true e1
  split at g
  · exact fg_o_zald C hd g.1 g.2.1 (g.2.2 M hM Γ C hQ)
  · exact g.elim
theorem fg_d34 {i len a b w : Nat} {v : Int32} {ins : Instr} {Q : Int32 → fg_St → Prop} (g : (match st with
    | .int x :: .int j :: .ref h :: r => fg_kd h = 12 ∧ vp_in j (fg_ln h) ∧ (x = 0 ∨ x = 1) ∧ (fg_S l Λ) d i (pc + len) L r (fg_sR σ h j.toNatClampNeg x) Q
    | _ => False)) (hc : (Nat.beq len 1 && decide (ins = .bastore)) = true) (C : fg_Cx Λ Γ d M) (hQ : fg_End Λ Γ M.2.2.2 Q) (hM : fg_mt[i]? = some M) (hd : decode M.2.1 pc = .ok (ins, len)) : fg_Wt l Λ Γ M.2.2.1 pc L st σ := by
  simp only [Bool.and_eq_true, decide_eq_true_eq] at hc
  obtain ⟨e1, rfl⟩ := hc
  cases Nat.eq_of_beq_eq_true e1
  split at g
  · exact fg_o_zast C hd g.1 g.2.1 g.2.2.1 (g.2.2.2 M hM Γ C hQ)
  · exact g.elim
theorem fg_d35 {i len a b w : Nat} {v : Int32} {ins : Instr} {Q : Int32 → fg_St → Prop} (g : (match st with
    | .int j :: .ref h :: r => (fg_kd h = 13 ∨ fg_kd h = 14) ∧ vp_in j (fg_ln h) ∧ (fg_S l Λ) d i (pc + len) L (.ref (fg_ra h j.toNatClampNeg) :: r) σ Q
    | _ => False)) (hc : (Nat.beq len 1 && decide (ins = .aaload)) = true) (C : fg_Cx Λ Γ d M) (hQ : fg_End Λ Γ M.2.2.2 Q) (hM : fg_mt[i]? = some M) (hd : decode M.2.1 pc = .ok (ins, len)) : fg_Wt l Λ Γ M.2.2.1 pc L st σ := by
  simp only [Bool.and_eq_true, decide_eq_true_eq] at hc
  obtain ⟨e1, rfl⟩ := hc
  cases Nat.eq_of_beq_eq_true e1
  split at g
  · exact fg_o_aald C hd g.1 g.2.1 (g.2.2 M hM Γ C hQ)
  · exact g.elim
theorem fg_d36 {i len a b w : Nat} {v : Int32} {ins : Instr} {Q : Int32 → fg_St → Prop} (g : (match st with
    | .ref h :: r => (11 ≤ fg_kd h ∧ fg_kd h ≤ 14) ∧ (fg_S l Λ) d i (pc + len) L (.int (Int32.ofNat (fg_ln h)) :: r) σ Q
    | _ => False)) (hc : (Nat.beq len 1 && decide (ins = .arraylength)) = true) (C : fg_Cx Λ Γ d M) (hQ : fg_End Λ Γ M.2.2.2 Q) (hM : fg_mt[i]? = some M) (hd : decode M.2.1 pc = .ok (ins, len)) : fg_Wt l Λ Γ M.2.2.1 pc L st σ := by
  simp only [Bool.and_eq_true, decide_eq_true_eq] at hc
  obtain ⟨e1, rfl⟩ := hc
  cases Nat.eq_of_beq_eq_true e1
  split at g
  · exact fg_o_alen C hd g.1 (g.2 M hM Γ C hQ)
  · exact g.elim
theorem fg_d37 {i len a b w : Nat} {v : Int32} {ins : Instr} {Q : Int32 → fg_St → Prop} (g : (match fg_pop b [] st with
    | some (As, .ref h :: r) => (fg_mt[a]?.map fun m => m.1.cls) = (vwCl[fg_kd h]?.map fun q => q.1) ∧ fg_call (fg_S l Λ) d a (.ref h :: As) r σ (fun d x u => (fg_S l Λ) d i (pc + len) L (.int x :: r) u Q)
    | _ => False)) (hc : ((match ins with
    | .invokevirtual x => Nat.beq len 3 && (fg_ckc M.1.cls x a b w false && !(fg_sta.getD a false))
    | _ => false)) = true) (C : fg_Cx Λ Γ d M) (hQ : fg_End Λ Γ M.2.2.2 Q) (hM : fg_mt[i]? = some M) (hd : decode M.2.1 pc = .ok (ins, len)) : fg_Wt l Λ Γ M.2.2.1 pc L st σ := by
  split at hc
  · simp only [Bool.and_eq_true, Bool.not_eq_true'] at hc
    obtain ⟨e1, e2, e3⟩ := hc
    cases Nat.eq_of_beq_eq_true e1
    obtain ⟨N, hj, hw, hnp, hri⟩ := fg_ckc_sp e2
    split at g
    · rename_i As h r hp
      obtain ⟨hcl, g⟩ := g
      rw [hj] at hcl
      cases hq : vwCl[fg_kd h]? with
      | none => rw [hq] at hcl; cases hcl
      | some q =>
        rw [hq] at hcl
        have hcl : N.1.cls = q.1 := Option.some.inj hcl
        obtain ⟨d2, P, rfl, hcat, hlen, hs, k⟩ := fg_call_sp hj g
        exact fg_o_callVi C hd hj e3 hw hnp (hri.2 rfl) hp hq hcl hcat hlen hs (fun y u hy => k y u hy M hM Γ C hQ)
    · exact g.elim
  · cases hc
theorem fg_d38 {i len a b w : Nat} {v : Int32} {ins : Instr} {Q : Int32 → fg_St → Prop} (g : (match fg_pop b [] st with
    | some (As, .ref h :: r) => (fg_mt[a]?.map fun m => m.1.cls) = (vwCl[fg_kd h]?.map fun q => q.1) ∧ fg_call (fg_S l Λ) d a (.ref h :: As) r σ (fun d _ u => (fg_S l Λ) d i (pc + len) L r u Q)
    | _ => False)) (hc : ((match ins with
    | .invokevirtual x => Nat.beq len 3 && (fg_ckc M.1.cls x a b w true && !(fg_sta.getD a false))
    | _ => false)) = true) (C : fg_Cx Λ Γ d M) (hQ : fg_End Λ Γ M.2.2.2 Q) (hM : fg_mt[i]? = some M) (hd : decode M.2.1 pc = .ok (ins, len)) : fg_Wt l Λ Γ M.2.2.1 pc L st σ := by
  split at hc
  · simp only [Bool.and_eq_true, Bool.not_eq_true'] at hc
    obtain ⟨e1, e2, e3⟩ := hc
    cases Nat.eq_of_beq_eq_true e1
    obtain ⟨N, hj, hw, hnp, hri⟩ := fg_ckc_sp e2
    split at g
    · rename_i As h r hp
      obtain ⟨hcl, g⟩ := g
      rw [hj] at hcl
      cases hq : vwCl[fg_kd h]? with
      | none => rw [hq] at hcl; cases hcl
      | some q =>
        rw [hq] at hcl
        have hcl : N.1.cls = q.1 := Option.some.inj hcl
        obtain ⟨d2, P, rfl, hcat, hlen, hs, k⟩ := fg_call_sp hj g
        exact fg_o_callVv C hd hj e3 hw hnp (hri.1 rfl) hp hq hcl hcat hlen hs (fun y u hy => k y u hy M hM Γ C hQ)
    · exact g.elim
  · cases hc
theorem fg_d39 {i len a b w : Nat} {v : Int32} {ins : Instr} {Q : Int32 → fg_St → Prop} (g : (match fg_pop b [] st with
    | some (As, r) => fg_call (fg_S l Λ) d a As r σ (fun d x u => (fg_S l Λ) d i (pc + len) L (.int x :: r) u Q)
    | _ => False)) (hc : ((match ins with
    | .invokestatic x => Nat.beq len 3 && (fg_ckc M.1.cls x a b w false && fg_sta.getD a false)
    | _ => false)) = true) (C : fg_Cx Λ Γ d M) (hQ : fg_End Λ Γ M.2.2.2 Q) (hM : fg_mt[i]? = some M) (hd : decode M.2.1 pc = .ok (ins, len)) : fg_Wt l Λ Γ M.2.2.1 pc L st σ := by
  split at hc
  · simp only [Bool.and_eq_true] at hc
    obtain ⟨e1, e2, e3⟩ := hc
    cases Nat.eq_of_beq_eq_true e1
    obtain ⟨N, hj, hw, hnp, hri⟩ := fg_ckc_sp e2
    split at g
    · rename_i As r hp
      obtain ⟨d2, P, rfl, hcat, hlen, hs, k⟩ := fg_call_sp hj g
      exact fg_o_callSi C hd hj e3 hw hnp (hri.2 rfl) hp hcat hlen hs (fun y u hy => k y u hy M hM Γ C hQ)
    · exact g.elim
  · cases hc
theorem fg_d40 {i len a b w : Nat} {v : Int32} {ins : Instr} {Q : Int32 → fg_St → Prop} (g : (match fg_pop b [] st with
    | some (As, r) => fg_call (fg_S l Λ) d a As r σ (fun d _ u => (fg_S l Λ) d i (pc + len) L r u Q)
    | _ => False)) (hc : ((match ins with
    | .invokestatic x => Nat.beq len 3 && (fg_ckc M.1.cls x a b w true && fg_sta.getD a false)
    | _ => false)) = true) (C : fg_Cx Λ Γ d M) (hQ : fg_End Λ Γ M.2.2.2 Q) (hM : fg_mt[i]? = some M) (hd : decode M.2.1 pc = .ok (ins, len)) : fg_Wt l Λ Γ M.2.2.1 pc L st σ := by
  split at hc
  · simp only [Bool.and_eq_true] at hc
    obtain ⟨e1, e2, e3⟩ := hc
    cases Nat.eq_of_beq_eq_true e1
    obtain ⟨N, hj, hw, hnp, hri⟩ := fg_ckc_sp e2
    split at g
    · rename_i As r hp
      obtain ⟨d2, P, rfl, hcat, hlen, hs, k⟩ := fg_call_sp hj g
      exact fg_o_callSv C hd hj e3 hw hnp (hri.1 rfl) hp hcat hlen hs (fun y u hy => k y u hy M hM Γ C hQ)
    · exact g.elim
  · cases hc
theorem fg_d41 {i len a b w : Nat} {v : Int32} {ins : Instr} {Q : Int32 → fg_St → Prop} (g : (match fg_pop b [] st with
    | some (As, r) => fg_call (fg_S l Λ) d a As r σ (fun d x u => (fg_S l Λ) d i (pc + len) L (.int x :: r) u Q)
    | _ => False)) (hc : ((match ins with
    | .invokestatic x => Nat.beq len 3 && ((match fg_mt[a]? with
      | some y => decide (fg_nest[w]? = some (.methodLinkNest M.1.cls x y.1 "FlagSignals")) && (fg_np y.1.desc b && fg_ri y.2.2.2)
      | none => false) && fg_sta.getD a false)
    | _ => false)) = true) (C : fg_Cx Λ Γ d M) (hQ : fg_End Λ Γ M.2.2.2 Q) (hM : fg_mt[i]? = some M) (hd : decode M.2.1 pc = .ok (ins, len)) : fg_Wt l Λ Γ M.2.2.1 pc L st σ := by
  split at hc
  · simp only [Bool.and_eq_true] at hc
    obtain ⟨e1, e2, e3⟩ := hc
    cases Nat.eq_of_beq_eq_true e1
    split at e2
    · rename_i N hj
      simp only [Bool.and_eq_true, decide_eq_true_eq] at e2
      obtain ⟨hw, hnp, hri⟩ := e2
      split at g
      · rename_i As r hp
        obtain ⟨d2, P, rfl, hcat, hlen, hs, k⟩ := fg_call_sp hj g
        exact fg_o_callNi C hd hj e3 (List.mem_of_getElem? hw) (of_decide_eq_true hnp) hri hp hcat hlen hs (fun y u hy => k y u hy M hM Γ C hQ)
      · exact g.elim
    · cases e2
  · cases hc
theorem fg_d42 {i len a b w : Nat} {v : Int32} {ins : Instr} {Q : Int32 → fg_St → Prop} (g : (match st with
    | .int n :: .int dp :: .ref t :: .int sp :: .ref h :: [] => (match d with
      | 0 => False
      | d' + 1 => fg_kd h = 11 ∧ fg_kd t = 11 ∧ (¬ sp < 0 ∧ ¬ dp < 0 ∧ ¬ n < 0) ∧ sp.toNatClampNeg + n.toNatClampNeg ≤ fg_ln h ∧ dp.toNatClampNeg + n.toNatClampNeg ≤ fg_ln t ∧ (fg_S l Λ) (d' + 1) i (pc + len) L [] (σ.1, σ.2.1, σ.2.2.1, va_up σ.2.2.2 t (va_cpy (σ.2.2.2 h) (σ.2.2.2 t) sp.toNatClampNeg dp.toNatClampNeg n.toNatClampNeg)) Q)
    | _ => False)) (hc : ((match ins with
    | .invokestatic x => Nat.beq len 3 && fg_w w (.methodLink M.1.cls x arraycopyName)
    | _ => false)) = true) (C : fg_Cx Λ Γ d M) (hQ : fg_End Λ Γ M.2.2.2 Q) (hM : fg_mt[i]? = some M) (hd : decode M.2.1 pc = .ok (ins, len)) : fg_Wt l Λ Γ M.2.2.1 pc L st σ := by
  split at hc
  · simp only [Bool.and_eq_true] at hc
    obtain ⟨e1, e2⟩ := hc
    cases Nat.eq_of_beq_eq_true e1
    split at g
    · cases d with
      | zero => exact g.elim
      | succ d2 => exact fg_o_acp C hd (fg_w_in e2 rfl) (by omega) g.1 g.2.1 g.2.2.1 g.2.2.2.1 g.2.2.2.2.1 (g.2.2.2.2.2 M hM Γ C hQ)
    · exact g.elim
  · cases hc
theorem fg_d43 {i len a b w : Nat} {v : Int32} {ins : Instr} {Q : Int32 → fg_St → Prop} (g : (match st with
    | [.int x] => Q x σ
    | _ => False)) (hc : (Nat.beq len 1 && (decide (ins = .ireturn) && decide (M.2.2.2 = some .int))) = true) (C : fg_Cx Λ Γ d M) (hQ : fg_End Λ Γ M.2.2.2 Q) (hM : fg_mt[i]? = some M) (hd : decode M.2.1 pc = .ok (ins, len)) : fg_Wt l Λ Γ M.2.2.1 pc L st σ := by
  simp only [Bool.and_eq_true, decide_eq_true_eq] at hc
  obtain ⟨e1, rfl, e3⟩ := hc
  cases Nat.eq_of_beq_eq_true e1
  split at g
  · obtain ⟨p, e, R, s, m, args, below, meth, c, Qc⟩ := Γ
    obtain ⟨hx, hb, hml, hr, hlk, hown, hts, hE, hf, hlo, hin⟩ := C
    intro H locs ls hP hS hl
    exact W.iret hx hb (hr.trans e3) (fun t ht _ => by have := hQ _ _ g t (by rw [ht]; exact hP) (hS.F ht); rw [e3] at this; exact this) hS.2.2 hd hlk
  · exact g.elim
theorem fg_d44 {i len a b w : Nat} {v : Int32} {ins : Instr} {Q : Int32 → fg_St → Prop} (g : (match st with
    | [.int x] => (x = 0 ∨ x = 1) ∧ Q x σ
    | _ => False)) (hc : (Nat.beq len 1 && (decide (ins = .ireturn) && decide (M.2.2.2 = some .boolean))) = true) (C : fg_Cx Λ Γ d M) (hQ : fg_End Λ Γ M.2.2.2 Q) (hM : fg_mt[i]? = some M) (hd : decode M.2.1 pc = .ok (ins, len)) : fg_Wt l Λ Γ M.2.2.1 pc L st σ := by
  simp only [Bool.and_eq_true, decide_eq_true_eq] at hc
  obtain ⟨e1, rfl, e3⟩ := hc
  cases Nat.eq_of_beq_eq_true e1
  split at g
  · obtain ⟨p, e, R, s, m, args, below, meth, c, Qc⟩ := Γ
    obtain ⟨hx, hb, hml, hr, hlk, hown, hts, hE, hf, hlo, hin⟩ := C
    intro H locs ls hP hS hl
    exact W.zret (ty := .boolean) hx hb (hr.trans e3) (by rcases g.1 with rfl | rfl <;> decide) (fun t ht _ => by have := hQ _ _ g.2 t (by rw [ht]; exact hP) (hS.F ht); rw [e3] at this; exact this) hS.2.2 hd hlk
  · exact g.elim
theorem fg_d45 {i len a b w : Nat} {v : Int32} {ins : Instr} {Q : Int32 → fg_St → Prop} (g : (match st with
    | [] => Q 0 σ
    | _ => False)) (hc : (Nat.beq len 1 && (decide (ins = .return_) && decide (M.2.2.2 = none))) = true) (C : fg_Cx Λ Γ d M) (hQ : fg_End Λ Γ M.2.2.2 Q) (hM : fg_mt[i]? = some M) (hd : decode M.2.1 pc = .ok (ins, len)) : fg_Wt l Λ Γ M.2.2.1 pc L st σ := by
  simp only [Bool.and_eq_true, decide_eq_true_eq] at hc
  obtain ⟨e1, rfl, e3⟩ := hc
  cases Nat.eq_of_beq_eq_true e1
  split at g
  · obtain ⟨p, e, R, s, m, args, below, meth, c, Qc⟩ := Γ
    obtain ⟨hx, hb, hml, hr, hlk, hown, hts, hE, hf, hlo, hin⟩ := C
    intro H locs ls hP hS hl
    exact W.vret hx hb (hr.trans e3) (fun t ht _ => by have := hQ _ _ g t (by rw [ht]; exact hP) (hS.F ht); rw [e3] at this; exact this) hS.2.2 hd hlk
  · exact g.elim
theorem fg_d46 {i len a b w : Nat} {v : Int32} {ins : Instr} {Q : Int32 → fg_St → Prop} (g : (match st with
    | .int y :: .int x :: r => fg_m1 d r ((fg_S l Λ) d i (pc + len) L (.int (if y < x then y else x) :: r) σ Q)
    | _ => False)) (hc : ((match ins with
    | .invokestatic x => Nat.beq len 3 && fg_w w (.methodLink M.1.cls x Lib.Math.min.name)
    | _ => false)) = true) (C : fg_Cx Λ Γ d M) (hQ : fg_End Λ Γ M.2.2.2 Q) (hM : fg_mt[i]? = some M) (hd : decode M.2.1 pc = .ok (ins, len)) : fg_Wt l Λ Γ M.2.2.1 pc L st σ := by
  split at hc
  · simp only [Bool.and_eq_true] at hc
    obtain ⟨e1, e2⟩ := hc
    cases Nat.eq_of_beq_eq_true e1
    split at g
    · obtain ⟨h1, h2, g⟩ := fg_m1_sp g
      exact fg_o_min C hd (fg_w_in e2 rfl) h1 h2 (g M hM Γ C hQ)
    · exact g.elim
  · cases hc
theorem fg_d47 {i len a b w : Nat} {v : Int32} {ins : Instr} {Q : Int32 → fg_St → Prop} (g : (match st with
    | .int y :: .int x :: r => fg_m1 d r ((fg_S l Λ) d i (pc + len) L (.int (if x < y then y else x) :: r) σ Q)
    | _ => False)) (hc : ((match ins with
    | .invokestatic x => Nat.beq len 3 && fg_w w (.methodLink M.1.cls x Lib.Math.max.name)
    | _ => false)) = true) (C : fg_Cx Λ Γ d M) (hQ : fg_End Λ Γ M.2.2.2 Q) (hM : fg_mt[i]? = some M) (hd : decode M.2.1 pc = .ok (ins, len)) : fg_Wt l Λ Γ M.2.2.1 pc L st σ := by
  split at hc
  · simp only [Bool.and_eq_true] at hc
    obtain ⟨e1, e2⟩ := hc
    cases Nat.eq_of_beq_eq_true e1
    split at g
    · obtain ⟨h1, h2, g⟩ := fg_m1_sp g
      exact fg_o_max C hd (fg_w_in e2 rfl) h1 h2 (g M hM Γ C hQ)
    · exact g.elim
  · cases hc
theorem fg_disp {i len a b w op : Nat} {v : Int32} {ins : Instr} {Q : Int32 → fg_St → Prop} (C : fg_Cx Λ Γ d M) (hQ : fg_End Λ Γ M.2.2.2 Q) (hM : fg_mt[i]? = some M) (hd : decode M.2.1 pc = .ok (ins, len)) (hc : fg_cki M.1.cls M.2.2.2 pc len ins op a b v w = true) (g : fg_op (fg_S l Λ) d i (pc + len) a b v L st σ Q op) : fg_Wt l Λ Γ M.2.2.1 pc L st σ := by
  by_cases h0 : op = 0
  · subst h0
    exact fg_d0 (a := a) (b := b) (w := w) (v := v) (g := g) (hc := hc) C hQ hM hd
  by_cases h1 : op = 1
  · subst h1
    exact fg_d1 (a := a) (b := b) (w := w) (v := v) (g := g) (hc := hc) C hQ hM hd
  by_cases h2 : op = 2
  · subst h2
    exact fg_d2 (a := a) (b := b) (w := w) (v := v) (g := g) (hc := hc) C hQ hM hd
  by_cases h3 : op = 3
  · subst h3
    exact fg_d3 (a := a) (b := b) (w := w) (v := v) (g := g) (hc := hc) C hQ hM hd
  by_cases h4 : op = 4
  · subst h4
    exact fg_d4 (a := a) (b := b) (w := w) (v := v) (g := g) (hc := hc) C hQ hM hd
  by_cases h5 : op = 5
  · subst h5
    exact fg_d5 (a := a) (b := b) (w := w) (v := v) (g := g) (hc := hc) C hQ hM hd
  by_cases h6 : op = 6
  · subst h6
    exact fg_d6 (a := a) (b := b) (w := w) (v := v) (g := g) (hc := hc) C hQ hM hd
  by_cases h7 : op = 7
  · subst h7
    exact fg_d7 (a := a) (b := b) (w := w) (v := v) (g := g) (hc := hc) C hQ hM hd
  by_cases h8 : op = 8
  · subst h8
    exact fg_d8 (a := a) (b := b) (w := w) (v := v) (g := g) (hc := hc) C hQ hM hd
  by_cases h9 : op = 9
  · subst h9
    exact fg_d9 (a := a) (b := b) (w := w) (v := v) (g := g) (hc := hc) C hQ hM hd
  by_cases h10 : op = 10
  · subst h10
    exact fg_d10 (a := a) (b := b) (w := w) (v := v) (g := g) (hc := hc) C hQ hM hd
  by_cases h11 : op = 11
  · subst h11
    exact fg_d11 (a := a) (b := b) (w := w) (v := v) (g := g) (hc := hc) C hQ hM hd
  by_cases h12 : op = 12
  · subst h12
    exact fg_d12 (a := a) (b := b) (w := w) (v := v) (g := g) (hc := hc) C hQ hM hd
  by_cases h13 : op = 13
  · subst h13
    exact fg_d13 (a := a) (b := b) (w := w) (v := v) (g := g) (hc := hc) C hQ hM hd
  by_cases h14 : op = 14
  · subst h14
    exact fg_d14 (a := a) (b := b) (w := w) (v := v) (g := g) (hc := hc) C hQ hM hd
  by_cases h15 : op = 15
  · subst h15
    exact fg_d15 (a := a) (b := b) (w := w) (v := v) (g := g) (hc := hc) C hQ hM hd
  by_cases h16 : op = 16
  · subst h16
    exact fg_d16 (a := a) (b := b) (w := w) (v := v) (g := g) (hc := hc) C hQ hM hd
  by_cases h17 : op = 17
  · subst h17
    exact fg_d17 (a := a) (b := b) (w := w) (v := v) (g := g) (hc := hc) C hQ hM hd
  by_cases h18 : op = 18
  · subst h18
    exact fg_d18 (a := a) (b := b) (w := w) (v := v) (g := g) (hc := hc) C hQ hM hd
  by_cases h19 : op = 19
  · subst h19
    exact fg_d19 (a := a) (b := b) (w := w) (v := v) (g := g) (hc := hc) C hQ hM hd
  by_cases h20 : op = 20
  · subst h20
    exact fg_d20 (a := a) (b := b) (w := w) (v := v) (g := g) (hc := hc) C hQ hM hd
  by_cases h21 : op = 21
  · subst h21
    exact fg_d21 (a := a) (b := b) (w := w) (v := v) (g := g) (hc := hc) C hQ hM hd
  by_cases h22 : op = 22
  · subst h22
    exact fg_d22 (a := a) (b := b) (w := w) (v := v) (g := g) (hc := hc) C hQ hM hd
  by_cases h23 : op = 23
  · subst h23
    exact fg_d23 (a := a) (b := b) (w := w) (v := v) (g := g) (hc := hc) C hQ hM hd
  by_cases h24 : op = 24
  · subst h24
    exact fg_d24 (a := a) (b := b) (w := w) (v := v) (g := g) (hc := hc) C hQ hM hd
  by_cases h25 : op = 25
  · subst h25
    exact fg_d25 (a := a) (b := b) (w := w) (v := v) (g := g) (hc := hc) C hQ hM hd
  by_cases h26 : op = 26
  · subst h26
    exact fg_d26 (a := a) (b := b) (w := w) (v := v) (g := g) (hc := hc) C hQ hM hd
  by_cases h27 : op = 27
  · subst h27
    exact fg_d27 (a := a) (b := b) (w := w) (v := v) (g := g) (hc := hc) C hQ hM hd
  by_cases h28 : op = 28
  · subst h28
    exact fg_d28 (a := a) (b := b) (w := w) (v := v) (g := g) (hc := hc) C hQ hM hd
  by_cases h29 : op = 29
  · subst h29
    exact fg_d29 (a := a) (b := b) (w := w) (v := v) (g := g) (hc := hc) C hQ hM hd
  by_cases h30 : op = 30
  · subst h30
    exact fg_d30 (a := a) (b := b) (w := w) (v := v) (g := g) (hc := hc) C hQ hM hd
  by_cases h31 : op = 31
  · subst h31
    exact fg_d31 (a := a) (b := b) (w := w) (v := v) (g := g) (hc := hc) C hQ hM hd
  by_cases h32 : op = 32
  · subst h32
    exact fg_d32 (a := a) (b := b) (w := w) (v := v) (g := g) (hc := hc) C hQ hM hd
  by_cases h33 : op = 33
  · subst h33
    exact fg_d33 (a := a) (b := b) (w := w) (v := v) (g := g) (hc := hc) C hQ hM hd
  by_cases h34 : op = 34
  · subst h34
    exact fg_d34 (a := a) (b := b) (w := w) (v := v) (g := g) (hc := hc) C hQ hM hd
  by_cases h35 : op = 35
  · subst h35
    exact fg_d35 (a := a) (b := b) (w := w) (v := v) (g := g) (hc := hc) C hQ hM hd
  by_cases h36 : op = 36
  · subst h36
    exact fg_d36 (a := a) (b := b) (w := w) (v := v) (g := g) (hc := hc) C hQ hM hd
  by_cases h37 : op = 37
  · subst h37
    exact fg_d37 (a := a) (b := b) (w := w) (v := v) (g := g) (hc := hc) C hQ hM hd
  by_cases h38 : op = 38
  · subst h38
    exact fg_d38 (a := a) (b := b) (w := w) (v := v) (g := g) (hc := hc) C hQ hM hd
  by_cases h39 : op = 39
  · subst h39
    exact fg_d39 (a := a) (b := b) (w := w) (v := v) (g := g) (hc := hc) C hQ hM hd
  by_cases h40 : op = 40
  · subst h40
    exact fg_d40 (a := a) (b := b) (w := w) (v := v) (g := g) (hc := hc) C hQ hM hd
  by_cases h41 : op = 41
  · subst h41
    exact fg_d41 (a := a) (b := b) (w := w) (v := v) (g := g) (hc := hc) C hQ hM hd
  by_cases h42 : op = 42
  · subst h42
    exact fg_d42 (a := a) (b := b) (w := w) (v := v) (g := g) (hc := hc) C hQ hM hd
  by_cases h43 : op = 43
  · subst h43
    exact fg_d43 (a := a) (b := b) (w := w) (v := v) (g := g) (hc := hc) C hQ hM hd
  by_cases h44 : op = 44
  · subst h44
    exact fg_d44 (a := a) (b := b) (w := w) (v := v) (g := g) (hc := hc) C hQ hM hd
  by_cases h45 : op = 45
  · subst h45
    exact fg_d45 (a := a) (b := b) (w := w) (v := v) (g := g) (hc := hc) C hQ hM hd
  by_cases h46 : op = 46
  · subst h46
    exact fg_d46 (a := a) (b := b) (w := w) (v := v) (g := g) (hc := hc) C hQ hM hd
  by_cases h47 : op = 47
  · subst h47
    exact fg_d47 (a := a) (b := b) (w := w) (v := v) (g := g) (hc := hc) C hQ hM hd
  exfalso
  unfold fg_cki at hc
  split at hc <;> first | contradiction | cases hc
theorem fg_look_mem {pc : Nat} {q : Nat × Nat × Nat × Nat × Int32 × Nat} : ∀ c : List fg_I, fg_look c pc = some q → (pc, q) ∈ c := by
  intro c
  induction c with
  | nil => intro h; cases h
  | cons r t ih =>
    intro h
    obtain ⟨z, r⟩ := r
    unfold fg_look at h
    split at h
    · rename_i e
      cases h
      rw [Nat.eq_of_beq_eq_true e]
      exact List.mem_cons_self
    · exact List.mem_cons_of_mem _ (ih h)
theorem fg_step {i : Nat} {Q : Int32 → fg_St → Prop} (g : fg_G (fg_S l Λ) d i pc L st σ Q) : fg_S l Λ d i pc L st σ Q := by
  intro M hM Γ C hQ
  unfold fg_G at g
  split at g
  · exact g.elim
  · rename_i q hq
    have hin := fg_look_mem _ hq
    have hck := fg_cks i (fg_mfacts hM).1
    unfold fg_ckm at hck
    rw [hM] at hck
    have hck := List.all_eq_true.mp hck _ hin
    unfold fg_ckI at hck
    dsimp only at hck
    split at hck
    · rename_i r hr
      simp only [Bool.and_eq_true] at hck
      obtain ⟨h1, h2⟩ := hck
      have h1 := Nat.eq_of_beq_eq_true h1
      rw [h1] at g
      exact fg_disp C hQ hM hr h2 g
    · cases hck
/-- WHAT RUNS IS SO -/
theorem fg_sound {i : Nat} {Q : Int32 → fg_St → Prop} (r : fg_Run d i pc L st σ Q) : fg_S l Λ d i pc L st σ Q := r (fg_S l Λ) (fun _ _ _ _ _ _ _ g => fg_step g)
end
end
section
/-! NUMBERS AND SMALL RULES -/
theorem fg_use {d i : Nat} {L : List (Option Value)} {σ : fg_St} {K : Int32 → fg_St → Prop} (h : fg_Run d i 0 L [] σ K) : ∃ P, fg_Run d i 0 L [] σ P ∧ ∀ x u, P x u → K x u := ⟨K, h, fun _ _ z => z⟩
theorem fg_lt {a b : Int32} : a < b ↔ a.toInt < b.toInt := Int32.lt_iff_toInt_lt
theorem fg_le' {a b : Int32} : a ≤ b ↔ a.toInt ≤ b.toInt := Int32.le_iff_toInt_le
theorem fg_eq {a b : Int32} : a = b ↔ a.toInt = b.toInt := Int32.toInt_inj.symm
theorem fg_lt6 {a b : Int64} : a < b ↔ a.toInt < b.toInt := Int64.lt_iff_toInt_lt
theorem fg_le6 {a b : Int64} : a ≤ b ↔ a.toInt ≤ b.toInt := Int64.le_iff_toInt_le
/-- is a number one of 0 .. n less 1 -/
def fg_isn (a : Int32) (n : Nat) : Bool := decide (0 ≤ a.toInt ∧ a.toInt < n)
def fg_b (p : Bool) : Int32 := if p then 1 else 0
theorem fg_b_1 : fg_b true = 1 := rfl
theorem fg_b_0 : fg_b false = 0 := rfl
theorem fg_isn_t {a : Int32} {n : Nat} (h : fg_isn a n = true) (hn : n < 2 ^ 31) : ∃ j, j < n ∧ a = nI j := by
  obtain ⟨h1, h2⟩ := of_decide_eq_true h
  refine ⟨a.toInt.toNat, by omega, ?_⟩
  rw [fg_eq, nI_toInt (by omega)]
  omega
theorem fg_isn_nI {j n : Nat} (h : j < n) (hn : n < 2 ^ 31) : fg_isn (nI j) n = true := by
  unfold fg_isn
  rw [nI_toInt (by omega)]
  simp
  exact h
theorem fg_cmp_lt (x y : Int64) : lg_cmp x y < 0 ↔ x < y := by
  rw [← Int32.not_le, lg_cmp_ge, Int64.not_le]
theorem fg_cmp_gt (x y : Int64) : 0 < lg_cmp x y ↔ y < x := by
  unfold lg_cmp
  split
  · rename_i h
    exact ⟨fun _ => h, fun _ => by decide⟩
  · rename_i h
    split
    · exact ⟨fun q => absurd q (by decide), fun q => absurd q h⟩
    · exact ⟨fun q => absurd q (by decide), fun q => absurd q h⟩
theorem r_MO_in {d : Nat} {σ : fg_St} {Q : Int32 → fg_St → Prop} {a0 a1 a2 : Int64} (H : Q (fg_b (decide (a1.toInt ≤ a0.toInt ∧ a0.toInt ≤ a2.toInt))) σ) : fg_Run d 110 0 [some (.long a0), none, some (.long a1), none, some (.long a2), none] [] σ Q := by
  refine b_MO_in_0 ⟨fun h => ?_, fun h => ⟨fun h2 => ?_, fun h2 => ?_⟩⟩
  · rw [fg_cmp_lt, fg_lt6] at h
    rw [decide_eq_false (by omega)] at H
    exact H
  · rw [fg_cmp_gt, fg_lt6] at h2
    rw [decide_eq_false (by omega)] at H
    exact H
  · rw [fg_cmp_lt, fg_lt6] at h
    rw [fg_cmp_gt, fg_lt6] at h2
    rw [decide_eq_true (by omega)] at H
    exact H
theorem fg_i64 (a : Int32) : a.toInt64.toInt = a.toInt := by simp
theorem fg_sub1 {n : Nat} (h : n < 2 ^ 31) : (nI n - 1).toInt = (n : Int) - 1 := by
  cases n with
  | zero => rfl
  | succ n =>
    rw [nI_pred, nI_toInt (by omega)]
    omega
theorem fg_in32 {a : Int32} {n : Nat} (h : n < 2 ^ 31) : decide ((0 : Int64).toInt ≤ a.toInt64.toInt ∧ a.toInt64.toInt ≤ ((nI n - 1).toInt64).toInt) = fg_isn a n := by
  unfold fg_isn
  rw [fg_i64, fg_i64, fg_sub1 h]
  congr 1
  apply propext
  have : (0 : Int64).toInt = 0 := rfl
  omega
theorem r_MO_isSignal {d : Nat} {σ : fg_St} {Q : Int32 → fg_St → Prop} {a0 : Int32} {n : Nat} (hn : n < 2 ^ 31) (hF : fg_F σ 187 4 = nI n) (H : Q (fg_b (fg_isn a0 n)) σ) : fg_Run (d + 1) 115 0 [some (.ref 187), some (.int a0)] [] σ Q := by
  refine b_MO_isSignal_0 (fg_use (r_MO_in ⟨?_, ?_⟩))
  · unfold fg_b
    split <;> simp
  · rw [hF, fg_in32 hn]
    exact H
end
section
/-! SETS AS NUMBERS -/
theorem fg_and (a b : Nat) : nI a &&& nI b = nI (a &&& b) := by
  apply Int32.toBitVec_inj.1
  show BitVec.ofNat 32 a &&& BitVec.ofNat 32 b = BitVec.ofNat 32 (a &&& b)
  apply BitVec.eq_of_getLsbD_eq
  intro i hi
  simp [hi]
theorem fg_or (a b : Nat) : nI a ||| nI b = nI (a ||| b) := by
  apply Int32.toBitVec_inj.1
  show BitVec.ofNat 32 a ||| BitVec.ofNat 32 b = BitVec.ofNat 32 (a ||| b)
  apply BitVec.eq_of_getLsbD_eq
  intro i hi
  simp [hi]
theorem fg_xor (a b : Nat) : nI a ^^^ nI b = nI (a ^^^ b) := by
  apply Int32.toBitVec_inj.1
  show BitVec.ofNat 32 a ^^^ BitVec.ofNat 32 b = BitVec.ofNat 32 (a ^^^ b)
  apply BitVec.eq_of_getLsbD_eq
  intro i hi
  simp [hi]
theorem fg_m1e : (-1 : Int32) = nI 4294967295 := by decide
theorem fg_sl : ∀ n, n < 32 → ((nI n &&& 31).toBitVec.smod 32).toNat = n := by decide +kernel
theorem fg_shl1 {k : Nat} (hk : k < 31) : (1 : Int32) <<< (nI k &&& 31) = nI (2 ^ k) := by
  have h := pk_shlN (n := 1) (nI k &&& 31) k (fg_sl k (by omega)) (by
    have : 2 ^ k < 2 ^ 32 := Nat.pow_lt_pow_right (by decide) (by omega)
    omega)
  rw [Nat.one_mul] at h
  exact h
theorem fg_bit1 {S k : Nat} (hS : S < 2 ^ 31) (hk : k < 31) : (nI S >>> (nI k &&& 31)) &&& 1 = fg_b (S.testBit k) := by
  rw [pk_shrN hS (nI k &&& 31) k (fg_sl k (by omega))]
  have h1 : (1 : Int32) = nI (2 ^ 1 - 1) := rfl
  rw [h1, fg_and, Nat.and_two_pow_sub_one_eq_mod]
  unfold fg_b
  rw [Nat.testBit_eq_decide_div_mod_eq]
  have := Nat.mod_two_eq_zero_or_one (S / 2 ^ k)
  rcases this with h | h
  · simp [h]
    rfl
  · simp [h]
    rfl
/-- without -/
def fg_wo (a b : Nat) : Nat := a &&& (b ^^^ 4294967295)
theorem fg_andn (a b : Nat) : nI a &&& (nI b ^^^ (-1)) = nI (fg_wo a b) := by
  rw [fg_m1e, fg_xor, fg_and]
  rfl
theorem fg_wo_bit {a b : Nat} (ha : a < 2 ^ 32) (i : Nat) : (fg_wo a b).testBit i = (a.testBit i && !(b.testBit i)) := by
  unfold fg_wo
  rw [Nat.testBit_and, Nat.testBit_xor]
  by_cases hi : i < 32
  · have : (4294967295 : Nat) = 2 ^ 32 - 1 := by decide
    rw [this, Nat.testBit_two_pow_sub_one]
    simp [hi]
  · have : a.testBit i = false := Nat.testBit_lt_two_pow (Nat.lt_of_lt_of_le ha (Nat.pow_le_pow_right (by decide) (by omega)))
    simp [this]
def fg_set (p : Nat → Bool) : Nat → Nat
  | 0 => 0
  | n + 1 => fg_set p n ||| (if p n then 2 ^ n else 0)
theorem fg_set_bit (p : Nat → Bool) : ∀ n i, (fg_set p n).testBit i = (decide (i < n) && p i) := by
  intro n
  induction n with
  | zero => intro i; simp [fg_set]
  | succ n ih =>
    intro i
    rw [fg_set, Nat.testBit_or, ih]
    by_cases h : i = n
    · subst h
      by_cases hp : p i
      · simp [hp]
      · simp [hp]
    · by_cases hp : p n
      · simp only [hp, if_true, Nat.testBit_two_pow]
        rw [decide_eq_false (by omega : ¬ n = i)]
        by_cases h2 : i < n
        · simp [h2, show i < n + 1 by omega]
        · simp [h2, show ¬ i < n + 1 by omega]
      · simp only [hp]
        by_cases h2 : i < n
        · simp [h2, show i < n + 1 by omega]
        · simp [h2, show ¬ i < n + 1 by omega]
theorem fg_set_lt (p : Nat → Bool) (n : Nat) : fg_set p n < 2 ^ n := by
  apply Nat.lt_pow_two_of_testBit
  intro i hi
  rw [fg_set_bit]
  simp
  omega
theorem fg_set_ext {p q : Nat → Bool} {n : Nat} (h : ∀ i, i < n → p i = q i) : fg_set p n = fg_set q n := by
  apply Nat.eq_of_testBit_eq
  intro i
  rw [fg_set_bit, fg_set_bit]
  by_cases hi : i < n
  · rw [h i hi]
  · simp [hi]
theorem fg_set_step {p : Nat → Bool} {n : Nat} (hn : n < 31) : nI (fg_set p n) ||| (if p n then (1 : Int32) <<< (nI n &&& 31) else 0) = nI (fg_set p (n + 1)) := by
  rw [fg_set]
  by_cases h : p n
  · rw [if_pos h, if_pos h, fg_shl1 hn, fg_or]
  · rw [if_neg h, if_neg h]
    exact fg_or _ 0
theorem fg_set_all (n : Nat) : fg_set (fun _ => true) n = 2 ^ n - 1 := by
  apply Nat.eq_of_testBit_eq
  intro i
  rw [fg_set_bit, Nat.testBit_two_pow_sub_one]
  simp
theorem fg_all1 {n : Nat} (h : n < 31) : ((1 : Int32) <<< (nI n &&& 31)) - 1 = nI (2 ^ n - 1) := by
  rw [fg_shl1 h]
  exact pk_sub Nat.one_le_two_pow
theorem fg_all2 : ∀ n, n < 4 → ((2 : Int32) <<< (nI n &&& 31)) - 2 = nI (2 ^ (n + 1) - 2) := by decide
/-- how many -/
def fg_cnt (S : Nat) : Nat → Nat
  | 0 => 0
  | n + 1 => fg_cnt S n + (if S.testBit n then 1 else 0)
theorem r_FS_has {d : Nat} {σ : fg_St} {Q : Int32 → fg_St → Prop} {S k : Nat} (hS : S < 2 ^ 31) (hk : k < 31) (H : Q (fg_b (S.testBit k)) σ) : fg_Run d 87 0 [some (.int (nI S)), some (.int (nI k))] [] σ Q := by
  refine b_FS_has_0 ?_
  rw [fg_bit1 hS hk]
  cases h : S.testBit k
  · rw [h] at H
    exact ⟨fun _ => H, fun q => absurd rfl q⟩
  · rw [h] at H
    exact ⟨fun q => absurd q (by decide), fun _ => H⟩
theorem r_MO_has {d : Nat} {σ : fg_St} {Q : Int32 → fg_St → Prop} {S k : Nat} (hS : S < 2 ^ 31) (hk : k < 31) (H : Q (fg_b (S.testBit k)) σ) : fg_Run d 111 0 [some (.int (nI S)), some (.int (nI k))] [] σ Q := by
  refine b_MO_has_0 ?_
  rw [fg_bit1 hS hk]
  cases h : S.testBit k
  · rw [h] at H
    exact ⟨fun _ => H, fun q => absurd q (by decide)⟩
  · rw [h] at H
    exact ⟨fun q => absurd rfl q, fun _ => H⟩
/-- the reference's loops over flags -/
theorem fg_ix {c i n : Nat} (h : c + i < n) (hn : n < 2 ^ 31) : vp_in (nI c + nI i) n ∧ (nI c + nI i).toNatClampNeg = c + i := by
  rw [nI_add]
  exact ⟨vp_in_nI h hn, nI_clamp (by omega)⟩
theorem l_MO_tornFlags {d : Nat} {σ : fg_St} {Q : Int32 → fg_St → Prop} {n : Nat} (hn : n ≤ 10) (hF : fg_F σ 187 2 = nI n) (H : Q (nI (fg_set (fun f => decide (fg_R σ 191 (30 + f) = 1)) n)) σ) : ∀ m i, i + m = n → fg_Run d 129 4 [some (.ref 187), some (.int (nI (fg_set (fun f => decide (fg_R σ 191 (30 + f) = 1)) i))), some (.int (nI i))] [] σ Q := by
  intro m
  induction m with
  | zero =>
    intro i hi
    have hi : i = n := by omega
    subst hi
    refine b_MO_tornFlags_4 ⟨fun _ => H, fun q => absurd ?_ q⟩
    rw [hF]
    exact nI_le (Nat.le_refl _) (by omega)
  | succ m ih =>
    intro i hi
    have hx := fg_ix (c := 30) (i := i) (n := 61) (by omega) (by decide)
    refine b_MO_tornFlags_4 ⟨fun q => absurd q (by rw [hF]; exact nI_ge (by omega) (by omega)), fun _ => ⟨hx.1, ?_⟩⟩
    rw [show (30 : Int32) = nI 30 from rfl, hx.2, nI_1]
    have hs := fg_set_step (p := fun f => decide (fg_R σ 191 (30 + f) = 1)) (n := i) (by omega)
    have ih := ih (i + 1) (by omega)
    rw [← hs] at ih
    refine ⟨fun q => ?_, fun q => ?_⟩
    · rw [if_neg (by simpa using q)] at ih
      exact ih
    · rw [if_pos (by simpa using q)] at ih
      exact ih
theorem r_MO_tornFlags {d : Nat} {σ : fg_St} {Q : Int32 → fg_St → Prop} {n : Nat} (hn : n ≤ 10) (hF : fg_F σ 187 2 = nI n) (H : Q (nI (fg_set (fun f => decide (fg_R σ 191 (30 + f) = 1)) n)) σ) : fg_Run d 129 0 [some (.ref 187), none, none] [] σ Q :=
  b_MO_tornFlags_0 (l_MO_tornFlags hn hF H n 0 (by omega))
end
section
/-! THE SHIP: how many lines, substitutes, flags, signals; how long a signal is, which flags it tells -/
abbrev fg_Z : Type := Nat × Nat × Nat × Nat × (Nat → Nat) × (Nat → Nat → Nat)
abbrev fg_zH (z : fg_Z) : Nat := z.1
abbrev fg_zN (z : fg_Z) : Nat := z.2.1
abbrev fg_zf (z : fg_Z) : Nat := z.2.2.1
abbrev fg_zs (z : fg_Z) : Nat := z.2.2.2.1
abbrev fg_zl (z : fg_Z) (e : Nat) : Nat := z.2.2.2.2.1 e
abbrev fg_zr (z : fg_Z) (e j : Nat) : Nat := z.2.2.2.2.2 e j
def fg_Zok (z : fg_Z) : Prop := (fg_zH z ≤ 3 ∧ fg_zN z ≤ 3 ∧ fg_zf z ≤ 10 ∧ fg_zs z ≤ 10) ∧ (∀ e, e < fg_zs z → 1 ≤ fg_zl z e ∧ fg_zl z e ≤ 4) ∧ (∀ e, e < fg_zs z → ∀ j, j < fg_zl z e → fg_zr z e j < fg_zf z) ∧ (fg_zH z = 0 → fg_zf z = 0 ∧ fg_zs z = 0 ∧ fg_zN z = 0)
/-- the class's ship at a handle -/
def fg_ShX (σ : fg_St) (h : Nat) (z : fg_Z) : Prop := (fg_F σ h 0 = nI (fg_zH z) ∧ fg_F σ h 1 = nI (fg_zN z) ∧ fg_F σ h 2 = nI (fg_zf z) ∧ fg_F σ h 3 = nI (fg_zs z)) ∧ (∀ e, e < fg_zs z → fg_R σ (h + 4) e = nI (fg_zl z e)) ∧ ∀ e, e < fg_zs z → ∀ j, j < 4 → fg_R σ (h + 5) (e * 4 + j) = if j < fg_zl z e then nI (fg_zr z e j) else -1
/-- the reference's -/
def fg_ShM (σ : fg_St) (z : fg_Z) : Prop := (fg_F σ 187 0 = nI (fg_zH z) ∧ fg_F σ 187 1 = nI (fg_zN z) ∧ fg_F σ 187 2 = nI (fg_zf z) ∧ fg_F σ 187 4 = nI (fg_zs z)) ∧ (∀ e, e < fg_zs z → fg_R σ 189 e = nI (fg_zl z e)) ∧ ∀ e, e < fg_zs z → ∀ j, j < fg_zl z e → fg_R σ 190 (4 * e + j) = nI (fg_zr z e j)
section
variable {d : Nat} {σ : fg_St} {Q : Int32 → fg_St → Prop} {h : Nat} {z : fg_Z}
/-- 'has' of the class -/
theorem fg_hasx {a : Int32} {n m : Nat} {A B : Prop} (hn : n ≤ m) (hm : m < 2 ^ 31) (t : fg_isn a n = true → A) (f : fg_isn a n = false → B) : (a < 0 → B) ∧ (¬ a < 0 → (nI n ≤ a → B) ∧ (¬ nI n ≤ a → (nI m ≤ a → B) ∧ (¬ nI m ≤ a → A))) := by
  have e : ∀ k, k ≤ m → (nI k).toInt = (k : Int) := fun k hk => nI_toInt (by omega)
  have z0 : (0 : Int32).toInt = 0 := rfl
  refine ⟨fun h => f (decide_eq_false ?_), fun h => ⟨fun h2 => f (decide_eq_false ?_), fun h2 => ⟨fun h3 => f (decide_eq_false ?_), fun h3 => t (decide_eq_true ?_)⟩⟩⟩
  · rw [fg_lt, z0] at h
    omega
  · rw [fg_le', e n hn] at h2
    omega
  · rw [fg_le', e m (Nat.le_refl m)] at h3
    omega
  · rw [fg_lt, z0] at h
    rw [fg_le', e n hn] at h2
    omega
theorem r_SH_hasLine {a : Int32} (Sh : h = 3 ∨ h = 9) (hz : fg_Zok z) (hX : fg_ShX σ h z) (H : Q (fg_b (fg_isn a (fg_zH z))) σ) : fg_Run d 31 0 [some (.ref h), some (.int a)] [] σ Q := by
  refine b_SH_hasLine_0 Sh ?_
  rw [hX.1.1]
  exact fg_hasx (m := 3) hz.1.1 (by decide) (fun e => by rw [e] at H; exact H) (fun e => by rw [e] at H; exact H)
theorem r_SH_hasFlag {a : Int32} (Sh : h = 3 ∨ h = 9) (hz : fg_Zok z) (hX : fg_ShX σ h z) (H : Q (fg_b (fg_isn a (fg_zf z))) σ) : fg_Run d 32 0 [some (.ref h), some (.int a)] [] σ Q := by
  refine b_SH_hasFlag_0 Sh ?_
  rw [hX.1.2.2.1]
  exact fg_hasx (m := 10) hz.1.2.2.1 (by decide) (fun e => by rw [e] at H; exact H) (fun e => by rw [e] at H; exact H)
theorem r_SH_hasSignal {a : Int32} (Sh : h = 3 ∨ h = 9) (hz : fg_Zok z) (hX : fg_ShX σ h z) (H : Q (fg_b (fg_isn a (fg_zs z))) σ) : fg_Run d 33 0 [some (.ref h), some (.int a)] [] σ Q := by
  refine b_SH_hasSignal_0 Sh ?_
  rw [hX.1.2.2.2]
  exact fg_hasx (m := 10) hz.1.2.2.2 (by decide) (fun e => by rw [e] at H; exact H) (fun e => by rw [e] at H; exact H)
theorem r_SH_stands (Sh : h = 3 ∨ h = 9) (hz : fg_Zok z) (hX : fg_ShX σ h z) (H : Q (fg_b (decide (0 < fg_zH z))) σ) : fg_Run d 30 0 [some (.ref h)] [] σ Q := by
  refine b_SH_stands_0 Sh ?_
  rw [hX.1.1]
  have e : (nI (fg_zH z)).toInt = (fg_zH z : Int) := nI_toInt (by have := hz.1.1; omega)
  have z0 : (0 : Int32).toInt = 0 := rfl
  refine ⟨fun q => ?_, fun q => ?_⟩
  · rw [fg_le', e, z0] at q
    rw [decide_eq_false (by omega)] at H
    exact H
  · rw [fg_le', e, z0] at q
    rw [decide_eq_true (by omega)] at H
    exact H
theorem r_SH_allSignals (Sh : h = 3 ∨ h = 9) (hz : fg_Zok z) (hX : fg_ShX σ h z) (H : Q (nI (2 ^ fg_zs z - 1)) σ) : fg_Run d 35 0 [some (.ref h)] [] σ Q := by
  refine b_SH_allSignals_0 Sh ?_
  rw [hX.1.2.2.2, fg_all1 (by have := hz.1.2.2.2; omega)]
  exact H
theorem r_SH_allFlags (Sh : h = 3 ∨ h = 9) (hz : fg_Zok z) (hX : fg_ShX σ h z) (H : Q (nI (2 ^ fg_zf z - 1)) σ) : fg_Run d 36 0 [some (.ref h)] [] σ Q := by
  refine b_SH_allFlags_0 Sh ?_
  rw [hX.1.2.2.1, fg_all1 (by have := hz.1.2.2.1; omega)]
  exact H
theorem r_SH_allSubstitutes (Sh : h = 3 ∨ h = 9) (hz : fg_Zok z) (hX : fg_ShX σ h z) (H : Q (nI (2 ^ (fg_zN z + 1) - 2)) σ) : fg_Run d 37 0 [some (.ref h)] [] σ Q := by
  refine b_SH_allSubstitutes_0 Sh ?_
  rw [hX.1.2.1, fg_all2 _ (by have := hz.1.2.1; omega)]
  exact H
theorem fg_lit4 (e j : Nat) : nI e * 4 + nI j = nI (e * 4 + j) := by
  rw [show (4 : Int32) = nI 4 from rfl, pk_mul, nI_add]
theorem fg_nlt0 {n : Nat} (h : n < 2 ^ 31) : ¬ nI n < 0 := nI_pos h
theorem r_SH_flagAt {e j : Nat} (Sh : h = 3 ∨ h = 9) (hz : fg_Zok z) (hX : fg_ShX σ h z) (he : e < fg_zs z) (hj : j < 4) (H : Q (if j < fg_zl z e then nI (fg_zr z e j) else -1) σ) : fg_Run d 42 0 [some (.ref h), some (.int (nI e)), some (.int (nI j)), none] [] σ Q := by
  have hs := hz.1.2.2.2
  refine b_SH_flagAt_0 Sh ⟨fun q => absurd q (nI_pos (by omega)), fun _ => ⟨fun q => absurd q (by rw [hX.1.2.2.2]; exact nI_ge he (by omega)), fun _ => ⟨fun q => absurd q (nI_ge (b := 10) (by omega) (by decide)), fun _ => ⟨fun q => absurd q (nI_pos (by omega)), fun _ => ⟨fun q => absurd q (nI_ge (b := 4) (by omega) (by decide)), fun _ => ?_⟩⟩⟩⟩⟩
  rw [fg_lit4]
  refine ⟨vp_in_nI (by omega) (by decide), ?_⟩
  rw [nI_clamp (by omega), hX.2.2 e he j hj]
  exact H
theorem r_MO_isLine {a : Int32} (hz : fg_Zok z) (hM : fg_ShM σ z) (H : Q (fg_b (fg_isn a (fg_zH z))) σ) : fg_Run (d + 1) 113 0 [some (.ref 187), some (.int a)] [] σ Q := by
  refine b_MO_isLine_0 (fg_use (r_MO_in ⟨?_, ?_⟩))
  · unfold fg_b
    split <;> simp
  · rw [hM.1.1, fg_in32 (by have := hz.1.1; omega)]
    exact H
theorem r_MO_isFlag {a : Int32} (hz : fg_Zok z) (hM : fg_ShM σ z) (H : Q (fg_b (fg_isn a (fg_zf z))) σ) : fg_Run (d + 1) 114 0 [some (.ref 187), some (.int a)] [] σ Q := by
  refine b_MO_isFlag_0 (fg_use (r_MO_in ⟨?_, ?_⟩))
  · unfold fg_b
    split <;> simp
  · rw [hM.1.2.2.1, fg_in32 (by have := hz.1.2.2.1; omega)]
    exact H
theorem r_MO_isSig {a : Int32} (hz : fg_Zok z) (hM : fg_ShM σ z) (H : Q (fg_b (fg_isn a (fg_zs z))) σ) : fg_Run (d + 1) 115 0 [some (.ref 187), some (.int a)] [] σ Q :=
  r_MO_isSignal (by have := hz.1.2.2.2; omega) hM.1.2.2.2 H
end
end
section
/-! SETS THAT ARE ASKED, COUNTS, COLOURS, LOOKS -/
theorem fg_of32 (x : Int32) : ∃ n, n < 2 ^ 32 ∧ x = nI n := by
  refine ⟨x.toBitVec.toNat, x.toBitVec.isLt, ?_⟩
  apply Int32.toBitVec_inj.1
  show x.toBitVec = BitVec.ofNat 32 x.toBitVec.toNat
  simp
theorem fg_nI0 {n : Nat} (h : n < 2 ^ 32) : nI n = 0 ↔ n = 0 := by
  constructor
  · intro e
    have := congrArg (fun a : Int32 => a.toBitVec.toNat) e
    simp only [pk_tn h] at this
    exact this
  · intro e
    subst e
    rfl
theorem fg_toIntB {n : Nat} (h : n < 2 ^ 32) : (nI n).toInt = if n < 2 ^ 31 then (n : Int) else (n : Int) - 2 ^ 32 := by
  show (BitVec.ofNat 32 n).toInt = _
  rw [BitVec.toInt_eq_toNat_cond, BitVec.toNat_ofNat, Nat.mod_eq_of_lt h]
  split <;> split <;> omega
theorem fg_wo_0 {A n : Nat} (hA : A < 2 ^ 32) : fg_wo A (2 ^ n - 1) = 0 ↔ A < 2 ^ n := by
  constructor
  · intro h
    apply Nat.lt_pow_two_of_testBit
    intro i hi
    have h2 := fg_wo_bit hA (b := 2 ^ n - 1) i
    rw [h, Nat.testBit_two_pow_sub_one, decide_eq_false (by omega)] at h2
    simpa using h2.symm
  · intro h
    apply Nat.eq_of_testBit_eq
    intro i
    rw [fg_wo_bit hA, Nat.testBit_two_pow_sub_one, Nat.zero_testBit]
    by_cases hi : i < n
    · simp [hi]
    · have : A.testBit i = false := Nat.testBit_lt_two_pow (Nat.lt_of_lt_of_le h (Nat.pow_le_pow_right (by decide) (by omega)))
      simp [this]
theorem fg_wo_le (a b : Nat) : fg_wo a b ≤ a := Nat.and_le_left
theorem fg_p10 {n : Nat} (h : n ≤ 10) : 2 ^ n ≤ 1024 := Nat.pow_le_pow_right (n := 2) (by decide) h
theorem fg_allin {a : Int32} {n : Nat} (hn : n ≤ 10) : a &&& (nI (2 ^ n - 1) ^^^ (-1)) = 0 ↔ fg_isn a (2 ^ n) = true := by
  obtain ⟨A, hA, rfl⟩ := fg_of32 a
  have hp := fg_p10 hn
  rw [fg_andn, fg_nI0 (Nat.lt_of_le_of_lt (fg_wo_le _ _) hA), fg_wo_0 hA]
  unfold fg_isn
  rw [decide_eq_true_eq, fg_toIntB hA]
  have : ((2 ^ n : Nat) : Int) ≤ 1024 := by omega
  split <;> omega
section
variable {d : Nat} {σ : fg_St} {Q : Int32 → fg_St → Prop} {h : Nat} {z : fg_Z}
theorem r_SH_hasAll {a : Int32} (Sh : h = 3 ∨ h = 9) (hz : fg_Zok z) (hX : fg_ShX σ h z) (H : Q (fg_b (fg_isn a (2 ^ fg_zs z))) σ) : fg_Run (d + 1) 34 0 [some (.ref h), some (.int a)] [] σ Q := by
  refine b_SH_hasAll_0 Sh (fg_use (r_SH_allSignals Sh hz hX ⟨fun q => ?_, fun q => ?_⟩))
  · rw [fg_allin hz.1.2.2.2] at q
    rw [Bool.not_eq_true] at q
    rw [q] at H
    exact H
  · rw [fg_allin hz.1.2.2.2] at q
    rw [q] at H
    exact H
theorem r_MO_areSignals {a : Int32} (hz : fg_Zok z) (hM : fg_ShM σ z) (H : Q (fg_b (fg_isn a (2 ^ fg_zs z))) σ) : fg_Run (d + 1) 151 0 [some (.ref 187), some (.int a)] [] σ Q := by
  have hp := fg_p10 hz.1.2.2.2
  refine b_MO_areSignals_0 (fg_use (r_MO_in ⟨?_, ?_⟩))
  · unfold fg_b
    split <;> simp
  · rw [hM.1.2.2.2, fg_shl1 (by have := hz.1.2.2.2; omega), fg_in32 (by omega)]
    exact H
theorem fg_addb (c : Nat) (t : Bool) : nI c + fg_b t = nI (c + if t then 1 else 0) := by
  cases t
  · exact nI_add c 0
  · exact nI_add c 1
theorem l_MO_bits {S : Nat} (hS : S < 2 ^ 31) (H : Q (nI (fg_cnt S 10)) σ) : ∀ m i, i + m = 10 → fg_Run d 112 4 [some (.int (nI S)), some (.int (nI (fg_cnt S i))), some (.int (nI i))] [] σ Q := by
  intro m
  induction m with
  | zero =>
    intro i hi
    have hi : i = 10 := by omega
    subst hi
    exact b_MO_bits_4 ⟨fun _ => H, fun q => absurd (nI_le (a := 10) (b := 10) (by decide) (by decide)) q⟩
  | succ m ih =>
    intro i hi
    refine b_MO_bits_4 ⟨fun q => absurd q (nI_ge (b := 10) (by omega) (by decide)), fun _ => ?_⟩
    rw [fg_bit1 hS (by omega), fg_addb, nI_1]
    exact ih (i + 1) (by omega)
theorem r_MO_bits {S : Nat} (hS : S < 2 ^ 31) (H : Q (nI (fg_cnt S 10)) σ) : fg_Run d 112 0 [some (.int (nI S)), none, none] [] σ Q := b_MO_bits_0 (l_MO_bits hS H 10 0 rfl)
def fg_us (a : Int32) (k : Int32) : Int32 := (a.toUInt32 >>> (k.toUInt32 &&& Int32.toUInt32 31)).toInt32
def fg_j1 (a : Int32) : Int32 := a - (fg_us a 1 &&& 1431655765)
def fg_j2 (a : Int32) : Int32 := (a &&& 858993459) + (fg_us a 2 &&& 858993459)
def fg_j3 (a : Int32) : Int32 := (a + fg_us a 4) &&& 252645135
def fg_j4 (a : Int32) : Int32 := a + fg_us a 8
def fg_j5 (a : Int32) : Int32 := a + fg_us a 16
theorem fg_jb : ∀ S, S < 1024 → (fg_j5 (fg_j4 (fg_j3 (fg_j2 (fg_j1 (nI S)))))) &&& 63 = nI (fg_cnt S 10) := by decide +kernel
theorem r_JI_bitCount {S : Nat} (hS : S < 1024) (H : Q (nI (fg_cnt S 10)) σ) : fg_Run d 195 0 [some (.int (nI S))] [] σ Q := by
  refine b_JI_bitCount_0 ?_
  show Q ((fg_j5 (fg_j4 (fg_j3 (fg_j2 (fg_j1 (nI S)))))) &&& 63) σ
  rw [fg_jb S hS]
  exact H
/-- a colour as it is seen -/
def fg_col (c hz : Nat) : Nat := if hz = 0 then c else if c = 1 then 0 else if c = 4 then 3 else c
theorem fg_colr {c hz : Nat} (hc : c ≤ 4) (hh : hz ≤ 2) {P : Int32 → Prop} (H : P (nI (fg_col c hz))) : (¬ nI hz = 0 → ((¬ nI c = 1 → ((¬ nI c = 4 → P (nI c)) ∧ (nI c = 4 → P 3))) ∧ (nI c = 1 → P 0))) ∧ (nI hz = 0 → P (nI c)) := by
  have z0 : nI hz = 0 ↔ hz = 0 := nI_eq (b := 0) (by omega) (by decide)
  have c1 : nI c = 1 ↔ c = 1 := nI_eq (b := 1) (by omega) (by decide)
  have c4 : nI c = 4 ↔ c = 4 := nI_eq (b := 4) (by omega) (by decide)
  rw [z0, c1, c4]
  unfold fg_col at H
  refine ⟨fun a => ⟨fun b => ⟨fun c => ?_, fun c => ?_⟩, fun b => ?_⟩, fun a => ?_⟩
  · rw [if_neg a, if_neg b, if_neg c] at H; exact H
  · rw [if_neg a, if_neg b, if_pos c] at H; exact H
  · rw [if_neg a, if_pos b] at H; exact H
  · rw [if_pos a] at H; exact H
theorem r_FS_seenColour {c hz : Nat} (hc : c ≤ 4) (hh : hz ≤ 2) (H : Q (nI (fg_col c hz)) σ) : fg_Run d 109 0 [some (.int (nI c)), some (.int (nI hz))] [] σ Q := b_FS_seenColour_0 (fg_colr (P := fun x => Q x σ) hc hh H)
theorem r_MO_seenColour {c hz : Nat} (hc : c ≤ 4) (hh : hz ≤ 2) (H : Q (nI (fg_col c hz)) σ) : fg_Run d 136 0 [some (.int (nI c)), some (.int (nI hz))] [] σ Q := b_MO_seenColour_0 (fg_colr (P := fun x => Q x σ) hc hh H)
def fg_pln (k hz wd : Nat) : Bool := k == 0 || (k == 1 && wd == 0) || (decide (2 ≤ k) && hz == 2)
/-- a flag's look -/
def fg_lk (k a b hz wd : Nat) : Nat := if fg_pln k hz wd then 5 * fg_col a hz + fg_col a hz else 25 * k + 5 * fg_col a hz + fg_col b hz
theorem fg_lk0 (x y : Nat) : (25 * 0 + 5 * nI x : Int32) + nI y = nI (5 * x + y) := by
  rw [show (25 * 0 : Int32) = nI 0 from rfl, show (5 : Int32) = nI 5 from rfl, pk_mul, nI_add, nI_add, Nat.zero_add]
theorem fg_lk1 (k x y : Nat) : (25 * nI k + 5 * nI x : Int32) + nI y = nI (25 * k + 5 * x + y) := by
  rw [show (25 : Int32) = nI 25 from rfl, show (5 : Int32) = nI 5 from rfl, pk_mul, pk_mul, nI_add, nI_add]
theorem r_FS_seenPattern {k a b hz wd : Nat} (hk : k ≤ 3) (ha : a ≤ 4) (hb : b ≤ 4) (hh : hz ≤ 2) (hw : wd ≤ 1) (H : Q (nI (fg_lk k a b hz wd)) σ) : fg_Run (d + 1) 108 0 [some (.int (nI k)), some (.int (nI a)), some (.int (nI b)), some (.int (nI hz)), some (.int (nI wd)), none, none, none] [] σ Q := by
  have k0 : nI k = 0 ↔ k = 0 := nI_eq (b := 0) (by omega) (by decide)
  have k1 : nI k = 1 ↔ k = 1 := nI_eq (b := 1) (by omega) (by decide)
  have h2 : nI hz = 2 ↔ hz = 2 := nI_eq (b := 2) (by omega) (by decide)
  have w0 : nI wd = 0 ↔ wd = 0 := nI_eq (b := 0) (by omega) (by decide)
  unfold fg_lk at H
  have pl : ∀ P : fg_pln k hz wd = true, fg_Run d 109 0 [some (.int (nI a)), some (.int (nI hz))] [] σ (fun x1 u2 => ∃ P, fg_Run d 109 0 [some (.int (nI a)), some (.int (nI hz))] [] u2 P ∧ ∀ x3 u4, P x3 u4 → Q (((25 * 0) + (5 * x1)) + x3) u4) := by
    intro P
    rw [if_pos P] at H
    refine r_FS_seenColour ha hh (fg_use (r_FS_seenColour ha hh ?_))
    rw [fg_lk0]
    exact H
  have np : ∀ P : fg_pln k hz wd = false, fg_Run d 109 0 [some (.int (nI a)), some (.int (nI hz))] [] σ (fun x1 u2 => ∃ P, fg_Run d 109 0 [some (.int (nI b)), some (.int (nI hz))] [] u2 P ∧ ∀ x3 u4, P x3 u4 → Q (((25 * nI k) + (5 * x1)) + x3) u4) := by
    intro P
    rw [if_neg (by rw [P]; decide)] at H
    refine r_FS_seenColour ha hh (fg_use (r_FS_seenColour hb hh ?_))
    rw [fg_lk1]
    exact H
  refine b_FS_seenPattern_0 ?_
  rw [k0, k1, h2, w0]
  refine ⟨fun q => fg_use (pl ?_), fun q => ⟨fun q1 => ⟨fun q2 => fg_use (np ?_), fun q2 => fg_use (pl ?_)⟩, fun q1 => ⟨fun q2 => fg_use (np ?_), fun q2 => fg_use (pl ?_)⟩⟩⟩
  · simp [fg_pln, q]
  · simp [fg_pln, q, q1, q2]
  · simp [fg_pln, q2]; omega
  · simp [fg_pln, q1, q2]
  · simp [fg_pln, q1, q2]
end
end
section
/-! THE DECK: the class's rows beside the reference's one row of 61 -/
section
variable {d : Nat} {σ : fg_St} {Q : Int32 → fg_St → Prop} {h : Nat} {z : fg_Z}
theorem fg_dv {n m : Nat} (hn : n < 2 ^ 31) (h0 : 0 < m) (hm : m < 2 ^ 31) : nI n / nI m = nI (n / m) := pk_div hn h0 hm
theorem r_MO_lookOf {k a b hz wd : Nat} (hk : k ≤ 3) (ha : a ≤ 4) (hb : b ≤ 4) (hh : hz ≤ 2) (hw : wd ≤ 1) (H : Q (nI (fg_lk k a b hz wd)) σ) : fg_Run (d + 1) 137 0 [some (.int (nI (100 * k + 10 * a + b))), some (.int (nI hz)), some (.int (nI wd)), none, none, none, none] [] σ Q := by
  have ek : nI (100 * k + 10 * a + b) / 100 = nI k := by
    rw [show (100 : Int32) = nI 100 from rfl, pk_div (by omega) (by decide) (by decide)]
    congr 1
    omega
  have e10 : nI (100 * k + 10 * a + b) / 10 = nI (10 * k + a) := by
    rw [show (10 : Int32) = nI 10 from rfl, pk_div (by omega) (by decide) (by decide)]
    congr 1
    omega
  have ea : nI (10 * k + a) - nI (10 * k + a) / 10 * 10 = nI a := by
    rw [show (10 : Int32) = nI 10 from rfl, pk_rem (by omega) (by decide) (by decide)]
    congr 1
    omega
  have eb : nI (100 * k + 10 * a + b) - nI (10 * k + a) * 10 = nI b := by
    rw [← e10, show (10 : Int32) = nI 10 from rfl, pk_rem (by omega) (by decide) (by decide)]
    congr 1
    omega
  have k0 : nI k = 0 ↔ k = 0 := nI_eq (b := 0) (by omega) (by decide)
  have k1 : nI k = 1 ↔ k = 1 := nI_eq (b := 1) (by omega) (by decide)
  have k1l : nI k ≤ 1 ↔ k ≤ 1 := nI_leI (b := 1) (by omega) (by decide)
  have h2 : nI hz = 2 ↔ hz = 2 := nI_eq (b := 2) (by omega) (by decide)
  have w0 : nI wd = 0 ↔ wd = 0 := nI_eq (b := 0) (by omega) (by decide)
  unfold fg_lk at H
  have pl : ∀ P : fg_pln k hz wd = true, fg_Run d 136 0 [some (.int (nI a)), some (.int (nI hz))] [] σ (fun x1 u2 => ∃ P, fg_Run d 136 0 [some (.int (nI a)), some (.int (nI hz))] [] u2 P ∧ ∀ x3 u4, P x3 u4 → Q (((25 * 0) + (5 * x1)) + x3) u4) := by
    intro P
    rw [if_pos P] at H
    refine r_MO_seenColour ha hh (fg_use (r_MO_seenColour ha hh ?_))
    rw [fg_lk0]
    exact H
  have np : ∀ P : fg_pln k hz wd = false, fg_Run d 136 0 [some (.int (nI a)), some (.int (nI hz))] [] σ (fun x1 u2 => ∃ P, fg_Run d 136 0 [some (.int (nI b)), some (.int (nI hz))] [] u2 P ∧ ∀ x3 u4, P x3 u4 → Q (((25 * nI k) + (5 * x1)) + x3) u4) := by
    intro P
    rw [if_neg (by rw [P]; decide)] at H
    refine r_MO_seenColour ha hh (fg_use (r_MO_seenColour hb hh ?_))
    rw [fg_lk1]
    exact H
  refine b_MO_lookOf_0 ?_
  rw [ek, e10, ea, eb, k0, k1, k1l, h2, w0]
  refine ⟨fun q => fg_use (pl ?_), fun q => ⟨fun q1 => ⟨fun q2 => absurd q2 (by omega), fun q2 => ⟨fun q3 => fg_use (np ?_), fun q3 => fg_use (pl ?_)⟩⟩, fun q1 => ⟨fun q2 => fg_use (pl ?_), fun q2 => ⟨fun q3 => fg_use (np ?_), fun q3 => absurd (by omega) q3⟩⟩⟩⟩
  · simp [fg_pln, q]
  · simp [fg_pln, q, q1, q3]
  · simp [fg_pln, q3]; omega
  · simp [fg_pln, q1, q2]
  · simp [fg_pln, q1, q2]
end
/-- the class's deck (fields f, rows r) holds what the row w of the reference does -/
def fg_Dk (z : fg_Z) (f : Nat → Int32) (r : Nat → Nat → Int32) (w : Nat → Int32) : Prop :=
  (∀ g, g < fg_zf z → ∃ k a b : Nat, (k ≤ 3 ∧ a ≤ 4 ∧ b ≤ 4) ∧ r 0 g = nI k ∧ r 1 g = nI a ∧ r 2 g = nI b ∧ w g = nI (100 * k + 10 * a + b)) ∧
  (∀ g, g < fg_zf z → r 3 g = w (10 + g) ∧ r 4 g = w (20 + g)) ∧
  f 7 = nI (fg_set (fun g => decide (w (30 + g) = 1)) (fg_zf z)) ∧
  f 8 = nI (fg_set (fun k => decide (1 ≤ k ∧ ¬ w (39 + k) = -1)) 4) ∧
  (f 9 = w 60 ∧ f 10 = w 58 ∧ f 11 = w 59) ∧
  (∀ h, h < 3 → r 5 h = w (43 + h)) ∧ ∀ q, q < 12 → r 6 q = w (46 + q)
/-- what holds of that row -/
def fg_Wk (z : fg_Z) (w : Nat → Int32) : Prop :=
  (∀ g, g < fg_zf z → (w (30 + g) = 0 ∨ w (30 + g) = 1)) ∧
  (∀ g, g < fg_zf z → ∃ n : Nat, w (10 + g) = nI n ∧ n ≤ 5 ∧ (w (30 + g) = 0 → n ≤ 4)) ∧
  ((∃ n : Nat, n ≤ 9060 ∧ w 60 = nI n) ∧ (∃ n : Nat, n ≤ 2 ∧ w 58 = nI n) ∧ ∃ n : Nat, n ≤ 1 ∧ w 59 = nI n) ∧
  (∀ g, g < fg_zf z → (w (20 + g) = -1 ∨ ∃ h : Nat, h < fg_zH z ∧ w (20 + g) = nI h)) ∧
  (∀ k, 1 ≤ k → k ≤ 3 → (w (39 + k) = -1 ∨ ∃ h : Nat, h < fg_zH z ∧ w (39 + k) = nI h)) ∧
  (∀ h, h < 3 → ((w (43 + h) = -1 ∧ ∀ j, j < 4 → w (46 + (4 * h + j)) = -1) ∨ (h < fg_zH z ∧ ∃ e : Nat, e < fg_zs z ∧ w (43 + h) = nI e))) ∧
  (∀ h j, h < 3 → j < 4 → (w (46 + (4 * h + j)) = -1 ∨ (∃ g : Nat, g < fg_zf z ∧ w (46 + (4 * h + j)) = nI g) ∨ ∃ k : Nat, 1 ≤ k ∧ k ≤ 3 ∧ w (46 + (4 * h + j)) = nI (20 + k))) ∧
  (∀ g h, g < fg_zf z → h < 3 → (w (20 + g) = nI h ↔ ∃ j, j < 4 ∧ w (46 + (4 * h + j)) = nI g)) ∧
  ∀ k h, 1 ≤ k → k ≤ 3 → h < 3 → (w (39 + k) = nI h ↔ ∃ j, j < 4 ∧ w (46 + (4 * h + j)) = nI (20 + k))
/-- the deck at a handle -/
def fg_DkX (σ : fg_St) (h : Nat) (z : fg_Z) (w : Nat → Int32) : Prop := fg_Dk z (fun k => fg_F σ h k) (fun k j => fg_R σ (h + 1 + k) j) w
def fg_fre (w : Nat → Int32) (g : Nat) : Bool := decide (w (20 + g) = -1 ∧ w (30 + g) = 0)
def fg_frs (w : Nat → Int32) (k : Nat) : Bool := decide (1 ≤ k ∧ w (39 + k) = -1)
section
variable {d : Nat} {σ : fg_St} {Q : Int32 → fg_St → Prop} {h : Nat} {z : fg_Z} {w : Nat → Int32}
theorem l_MO_freeFlags (hz : fg_Zok z) (hM : fg_ShM σ z) (H : Q (nI (fg_set (fg_fre (fg_R σ 191)) (fg_zf z))) σ) : ∀ m i, i + m = fg_zf z → fg_Run d 128 4 [some (.ref 187), some (.int (nI (fg_set (fg_fre (fg_R σ 191)) i))), some (.int (nI i))] [] σ Q := by
  have hn := hz.1.2.2.1
  have hF := hM.1.2.2.1
  intro m
  induction m with
  | zero =>
    intro i hi
    have hi : i = fg_zf z := by omega
    subst hi
    refine b_MO_freeFlags_4 ⟨fun _ => H, fun q => absurd ?_ q⟩
    rw [hF]
    exact nI_le (Nat.le_refl _) (by omega)
  | succ m ih =>
    intro i hi
    have hx := fg_ix (c := 20) (i := i) (n := 61) (by omega) (by decide)
    have hy := fg_ix (c := 30) (i := i) (n := 61) (by omega) (by decide)
    refine b_MO_freeFlags_4 ⟨fun q => absurd q (by rw [hF]; exact nI_ge (by omega) (by omega)), fun _ => ⟨hx.1, ?_⟩⟩
    rw [show (20 : Int32) = nI 20 from rfl, show (30 : Int32) = nI 30 from rfl, hx.2, hy.2, nI_1]
    have hs := fg_set_step (p := fg_fre (fg_R σ 191)) (n := i) (by omega)
    have ih := ih (i + 1) (by omega)
    rw [← hs] at ih
    refine ⟨fun q => ?_, fun q => ⟨hy.1, fun q2 => ?_, fun q2 => ?_⟩⟩
    · rw [if_neg (by simp [fg_fre, q])] at ih
      exact ih
    · rw [if_neg (by simp [fg_fre, q2])] at ih
      exact ih
    · rw [if_pos (by simp [fg_fre, q, q2])] at ih
      exact ih
theorem r_MO_freeFlags (hz : fg_Zok z) (hM : fg_ShM σ z) (H : Q (nI (fg_set (fg_fre (fg_R σ 191)) (fg_zf z))) σ) : fg_Run d 128 0 [some (.ref 187), none, none] [] σ Q := b_MO_freeFlags_0 (l_MO_freeFlags hz hM H (fg_zf z) 0 (by omega))
theorem l_MO_freeSubs (hz : fg_Zok z) (hM : fg_ShM σ z) (H : Q (nI (fg_set (fg_frs (fg_R σ 191)) (fg_zN z + 1))) σ) : ∀ m i, 1 ≤ i → i + m = fg_zN z + 1 → fg_Run d 130 4 [some (.ref 187), some (.int (nI (fg_set (fg_frs (fg_R σ 191)) i))), some (.int (nI i))] [] σ Q := by
  have hn := hz.1.2.1
  have hF := hM.1.2.1
  intro m
  induction m with
  | zero =>
    intro i h1 hi
    have hi : i = fg_zN z + 1 := by omega
    subst hi
    refine b_MO_freeSubs_4 ⟨fun _ => H, fun q => absurd ?_ q⟩
    rw [hF]
    exact nI_lt (by omega) (by omega)
  | succ m ih =>
    intro i h1 hi
    have e : (40 : Int32) + nI i - 1 = nI (39 + i) := by
      rw [show (40 : Int32) = nI 40 from rfl, show (1 : Int32) = nI 1 from rfl, nI_add, pk_sub (by omega)]
      congr 1
      omega
    refine b_MO_freeSubs_4 ⟨fun q => absurd q (by rw [hF]; exact nI_nlt (by omega) (by omega)), fun _ => ?_⟩
    rw [e, nI_clamp (by omega), nI_1]
    have hs := fg_set_step (p := fg_frs (fg_R σ 191)) (n := i) (by omega)
    have ih := ih (i + 1) (by omega) (by omega)
    rw [← hs] at ih
    refine ⟨vp_in_nI (by omega) (by decide), fun q => ?_, fun q => ?_⟩
    · rw [if_neg (by simp [fg_frs, q])] at ih
      exact ih
    · rw [if_pos (by simp [fg_frs, q, h1])] at ih
      exact ih
theorem r_MO_freeSubs (hz : fg_Zok z) (hM : fg_ShM σ z) (H : Q (nI (fg_set (fg_frs (fg_R σ 191)) (fg_zN z + 1))) σ) : fg_Run d 130 0 [some (.ref 187), none, none] [] σ Q := by
  refine b_MO_freeSubs_0 ?_
  have := l_MO_freeSubs (d := d) hz hM H (fg_zN z) 1 (by omega) (by omega)
  rw [show fg_set (fg_frs (fg_R σ 191)) 1 = 0 by simp [fg_set, fg_frs]] at this
  exact this
def fg_als (k : Nat) : Bool := decide (1 ≤ k)
theorem l_MO_allSubs (hz : fg_Zok z) (hM : fg_ShM σ z) (H : Q (nI (fg_set fg_als (fg_zN z + 1))) σ) : ∀ m i, 1 ≤ i → i + m = fg_zN z + 1 → fg_Run d 131 4 [some (.ref 187), some (.int (nI (fg_set fg_als i))), some (.int (nI i))] [] σ Q := by
  have hn := hz.1.2.1
  have hF := hM.1.2.1
  intro m
  induction m with
  | zero =>
    intro i h1 hi
    have hi : i = fg_zN z + 1 := by omega
    subst hi
    refine b_MO_allSubs_4 ⟨fun _ => H, fun q => absurd ?_ q⟩
    rw [hF]
    exact nI_lt (by omega) (by omega)
  | succ m ih =>
    intro i h1 hi
    refine b_MO_allSubs_4 ⟨fun q => absurd q (by rw [hF]; exact nI_nlt (by omega) (by omega)), fun _ => ?_⟩
    rw [nI_1]
    have hs := fg_set_step (p := fg_als) (n := i) (by omega)
    have ih := ih (i + 1) (by omega) (by omega)
    rw [← hs, if_pos (by simp [fg_als, h1])] at ih
    exact ih
theorem r_MO_allSubs (hz : fg_Zok z) (hM : fg_ShM σ z) (H : Q (nI (fg_set fg_als (fg_zN z + 1))) σ) : fg_Run d 131 0 [some (.ref 187), none, none] [] σ Q :=
  b_MO_allSubs_0 (l_MO_allSubs hz hM H (fg_zN z) 1 (by omega) (by omega))
theorem fg_als_all : ∀ n, n < 4 → fg_set fg_als (n + 1) = 2 ^ (n + 1) - 2 := by decide
/-- one taken out of a set -/
theorem fg_set_out (p : Nat → Bool) (n i : Nat) (hn : n ≤ 31) : fg_wo (fg_set p n) (2 ^ i) = fg_set (fun g => p g && !(g == i)) n := by
  apply Nat.eq_of_testBit_eq
  intro j
  have hl : fg_set p n < 2 ^ 32 := Nat.lt_of_lt_of_le (fg_set_lt p n) (Nat.pow_le_pow_right (by decide) (by omega))
  rw [fg_wo_bit hl, fg_set_bit, fg_set_bit, Nat.testBit_two_pow]
  by_cases e : i = j
  · subst e
    simp
  · have : (j == i) = false := by simpa using Ne.symm e
    simp [e, this]
theorem fg_wo_set (p q : Nat → Bool) (n m : Nat) (hn : n ≤ 31) (hm : n ≤ m) : fg_wo (fg_set p n) (fg_set q m) = fg_set (fun g => p g && !(q g)) n := by
  apply Nat.eq_of_testBit_eq
  intro j
  have hl : fg_set p n < 2 ^ 32 := Nat.lt_of_lt_of_le (fg_set_lt p n) (Nat.pow_le_pow_right (by decide) (by omega))
  rw [fg_wo_bit hl, fg_set_bit, fg_set_bit, fg_set_bit]
  by_cases e : j < n
  · simp [e, show j < m by omega]
  · simp [e]
end
end
section
/-! A SIGNAL GOES UP: the class's take, what it takes -/
/-- two states alike but at the handles of P -/
def fg_sm (P : Nat → Bool) (σ u : fg_St) : Prop := (u.1 = σ.1 ∧ u.2.1 = σ.2.1) ∧ ∀ h, P h = false → (∀ k, fg_F u h k = fg_F σ h k) ∧ ∀ k, fg_R u h k = fg_R σ h k
theorem fg_sm.rfl' {P : Nat → Bool} {σ : fg_St} : fg_sm P σ σ := ⟨⟨rfl, rfl⟩, fun _ _ => ⟨fun _ => rfl, fun _ => rfl⟩⟩
theorem fg_sm.tr {P : Nat → Bool} {σ u v : fg_St} (a : fg_sm P σ u) (b : fg_sm P u v) : fg_sm P σ v := ⟨⟨b.1.1.trans a.1.1, b.1.2.trans a.1.2⟩, fun h hp => ⟨fun k => ((b.2 h hp).1 k).trans ((a.2 h hp).1 k), fun k => ((b.2 h hp).2 k).trans ((a.2 h hp).2 k)⟩⟩
theorem fg_sm.wk {P P' : Nat → Bool} {σ u : fg_St} (a : fg_sm P σ u) (h : ∀ h, P' h = false → P h = false) : fg_sm P' σ u := ⟨a.1, fun g hg => a.2 g (h g hg)⟩
theorem fg_sm_F {P : Nat → Bool} {σ : fg_St} {h k : Nat} {x : Int32} (hp : P h = true) : fg_sm P σ (fg_sF σ h k x) := ⟨⟨rfl, rfl⟩, fun g hg => ⟨fun j => by
  have : g ≠ h := fun e => by rw [e, hp] at hg; cases hg
  show fg_uf _ _ _ _ g j = _
  simp [fg_uf, this], fun _ => rfl⟩⟩
theorem fg_sm_R {P : Nat → Bool} {σ : fg_St} {h k : Nat} {x : Int32} (hp : P h = true) : fg_sm P σ (fg_sR σ h k x) := ⟨⟨rfl, rfl⟩, fun g hg => ⟨fun _ => rfl, fun j => by
  have : g ≠ h := fun e => by rw [e, hp] at hg; cases hg
  show fg_up _ _ _ _ g j = _
  simp [fg_up, this]⟩⟩
theorem fg_F_sF (σ : fg_St) (h k : Nat) (x : Int32) (a b : Nat) : fg_F (fg_sF σ h k x) a b = if b = k ∧ a = h then x else fg_F σ a b := rfl
theorem fg_R_sR (σ : fg_St) (h k : Nat) (x : Int32) (a b : Nat) : fg_R (fg_sR σ h k x) a b = if a = h ∧ b = k then x else fg_R σ a b := rfl
theorem fg_ShX.sm {P : Nat → Bool} {σ u : fg_St} {h : Nat} {z : fg_Z} (hX : fg_ShX σ h z) (s : fg_sm P σ u) (h0 : P h = false) (h4 : P (h + 4) = false) (h5 : P (h + 5) = false) : fg_ShX u h z := by
  have f := (s.2 h h0).1
  exact ⟨⟨(f 0).trans hX.1.1, (f 1).trans hX.1.2.1, (f 2).trans hX.1.2.2.1, (f 3).trans hX.1.2.2.2⟩, fun e he => ((s.2 _ h4).2 e).trans (hX.2.1 e he), fun e he j hj => ((s.2 _ h5).2 _).trans (hX.2.2 e he j hj)⟩
theorem fg_ShM.sm {P : Nat → Bool} {σ u : fg_St} {z : fg_Z} (hM : fg_ShM σ z) (s : fg_sm P σ u) (h0 : P 187 = false) (h4 : P 189 = false) (h5 : P 190 = false) : fg_ShM u z := by
  have f := (s.2 187 h0).1
  exact ⟨⟨(f 0).trans hM.1.1, (f 1).trans hM.1.2.1, (f 2).trans hM.1.2.2.1, (f 4).trans hM.1.2.2.2⟩, fun e he => ((s.2 _ h4).2 e).trans (hM.2.1 e he), fun e he j hj => ((s.2 _ h5).2 _).trans (hM.2.2 e he j hj)⟩
/-- the least substitute from k on that stands for place j's flag (0: none), m to look at -/
def fg_alf (z : fg_Z) (e FS j : Nat) : Nat → Nat → Nat
  | 0, _ => 0
  | m + 1, k => if (FS.testBit k && fg_zr z e (k - 1) == fg_zr z e j) then k else fg_alf z e FS j m (k + 1)
/-- what comes to place j: a flag, 20 and a substitute, 99 nothing -/
def fg_pce (z : fg_Z) (e FF FS j : Nat) : Nat := if FF.testBit (fg_zr z e j) then fg_zr z e j else if fg_alf z e FS j j 1 = 0 then 99 else 20 + fg_alf z e FS j j 1
def fg_pi (p : Nat) : Int32 := if p = 99 then -1 else nI p
/-- what is free behind the first j places -/
def fg_tk (z : fg_Z) (e : Nat) (s : Nat × Nat) : Nat → Option (Nat × Nat)
  | 0 => some s
  | j + 1 => match fg_tk z e s j with
    | none => none
    | some t => if fg_pce z e t.1 t.2 j = 99 then none else if fg_pce z e t.1 t.2 j < 20 then some (fg_wo t.1 (2 ^ fg_pce z e t.1 t.2 j), t.2) else some (t.1, fg_wo t.2 (2 ^ (fg_pce z e t.1 t.2 j - 20)))
def fg_rw (z : fg_Z) (e : Nat) (s : Nat × Nat) (j : Nat) : Nat := match fg_tk z e s j with
  | none => 99
  | some t => fg_pce z e t.1 t.2 j
theorem fg_alf_lt (z : fg_Z) (e FS j : Nat) : ∀ m k, fg_alf z e FS j m k < k + m ∨ fg_alf z e FS j m k = 0 := by
  intro m
  induction m with
  | zero => intro k; exact Or.inr rfl
  | succ m ih =>
    intro k
    unfold fg_alf
    split
    · left; omega
    · rcases ih (k + 1) with h | h
      · left; omega
      · right; exact h
theorem fg_alf_ge (z : fg_Z) (e FS j : Nat) : ∀ m k, fg_alf z e FS j m k = 0 ∨ k ≤ fg_alf z e FS j m k := by
  intro m
  induction m with
  | zero => intro k; exact Or.inl rfl
  | succ m ih =>
    intro k
    unfold fg_alf
    split
    · right; omega
    · rcases ih (k + 1) with h | h
      · left; exact h
      · right; omega
theorem fg_pce_in {z : fg_Z} (hz : fg_Zok z) {e FF FS j : Nat} (he : e < fg_zs z) (hj : j < fg_zl z e) : fg_pce z e FF FS j = 99 ∨ (fg_pce z e FF FS j < fg_zf z ∧ FF.testBit (fg_pce z e FF FS j) = true) ∨ (21 ≤ fg_pce z e FF FS j ∧ fg_pce z e FF FS j ≤ 20 + j) := by
  unfold fg_pce
  have hr := hz.2.2.1 e he j hj
  split
  · rename_i h
    right; left
    exact ⟨hr, h⟩
  · split
    · left; rfl
    · rename_i h0
      right; right
      rcases fg_alf_lt z e FS j j 1 with h | h
      · rcases fg_alf_ge z e FS j j 1 with h2 | h2
        · exact absurd h2 h0
        · omega
      · exact absurd h h0
section
variable {d : Nat} {σ : fg_St} {Q : Int32 → fg_St → Prop} {h : Nat} {z : fg_Z} {e FF FS j : Nat}
theorem l_LK_pieceFor (Sh : h = 3 ∨ h = 9) (hz : fg_Zok z) (hX : fg_ShX σ h z) (he : e < fg_zs z) (hj : j < fg_zl z e) (hS : fg_F σ 31 1 = nI FS) (hFS : FS < 16) : ∀ m k, 1 ≤ k → k + m = j + 1 → Q (if fg_alf z e FS j m k = 0 then -1 else nI (20 + fg_alf z e FS j m k)) σ → fg_Run (d + 1) 15 26 [some (.ref 31), some (.ref h), some (.int (nI e)), some (.int (nI j)), some (.int (nI (fg_zr z e j))), some (.int (nI k))] [] σ Q := by
  have hl := hz.2.1 e he
  have hr := hz.2.2.1 e he
  have hf := hz.1.2.2.1
  intro m
  induction m with
  | zero =>
    intro k h1 hk H
    refine b_LK_pieceFor_26 Sh ⟨fun _ => H, fun q => absurd (nI_lt (by omega) (by omega)) q⟩
  | succ m ih =>
    intro k h1 hk H
    have e1 : nI k - 1 = nI (k - 1) := pk_sub (b := 1) h1
    refine b_LK_pieceFor_26 Sh ⟨fun q => absurd q (nI_nlt (by omega) (by omega)), fun _ => ⟨fun q => absurd q (nI_nlt (b := 3) (a := 3) (by omega) (by decide) |> fun _ => fun q => by have := (nI_ltI (a := 3) (b := k) (by decide) (by omega)).mp q; omega), fun _ => ?_⟩⟩
    rw [hS]
    refine fg_use (r_FS_has (by omega) (by omega) ?_)
    unfold fg_alf at H
    cases hb : FS.testBit k
    · rw [hb] at H
      refine ⟨fun _ => ?_, fun q => absurd rfl q⟩
      rw [nI_1]
      exact ih (k + 1) (by omega) (by omega) H
    · rw [hb] at H
      refine ⟨fun q => absurd q (by decide), fun _ => ?_⟩
      rw [e1]
      refine fg_use (r_SH_flagAt Sh hz hX he (by omega) ?_)
      rw [if_pos (by omega), nI_eq (by have := hr (k - 1) (by omega); omega) (by have := hr j hj; omega)]
      refine ⟨fun q => ?_, fun q => ?_⟩
      · rw [nI_1]
        have hq : (fg_zr z e (k - 1) == fg_zr z e j) = false := by simpa using q
        rw [hq] at H
        exact ih (k + 1) (by omega) (by omega) H
      · have hq : (fg_zr z e (k - 1) == fg_zr z e j) = true := by simpa using q
        rw [hq] at H
        rw [show (20 : Int32) = nI 20 from rfl, nI_add]
        have : ¬ k = 0 := by omega
        simpa [this] using H
theorem r_LK_pieceFor (Sh : h = 3 ∨ h = 9) (hz : fg_Zok z) (hX : fg_ShX σ h z) (he : e < fg_zs z) (hj : j < fg_zl z e) (hF : fg_F σ 31 0 = nI FF) (hS : fg_F σ 31 1 = nI FS) (hFF : FF < 1024) (hFS : FS < 16) (H : Q (fg_pi (fg_pce z e FF FS j)) σ) : fg_Run (d + 1) 15 0 [some (.ref 31), some (.ref h), some (.int (nI e)), some (.int (nI j)), none, none] [] σ Q := by
  have hl := hz.2.1 e he
  have hr := hz.2.2.1 e he j hj
  have hf := hz.1.2.2.1
  refine b_LK_pieceFor_0 Sh (fg_use (r_SH_flagAt Sh hz hX he (by omega) ?_))
  rw [if_pos hj, hF]
  refine fg_use (r_FS_has (by omega) (by omega) ?_)
  unfold fg_pce at H
  cases hb : FF.testBit (fg_zr z e j)
  · rw [hb] at H
    refine ⟨fun _ => ?_, fun q => absurd rfl q⟩
    refine l_LK_pieceFor Sh hz hX he hj hS hFS j 1 (by omega) (by omega) ?_
    rw [if_neg (by decide)] at H
    by_cases h0 : fg_alf z e FS j j 1 = 0
    · rw [if_pos h0] at H ⊢
      exact H
    · rw [if_neg h0] at H ⊢
      unfold fg_pi at H
      rw [if_neg (by rcases fg_alf_lt z e FS j j 1 with h | h <;> omega)] at H
      exact H
  · rw [hb] at H
    refine ⟨fun q => absurd q (by decide), fun _ => ?_⟩
    rw [if_pos rfl] at H
    unfold fg_pi at H
    rw [if_neg (by omega)] at H
    exact H
theorem l_LK_emptyRow : ∀ m i (σ : fg_St), i + m = 4 → (∀ u, fg_sm (fun g => g == 32) σ u → (∀ t, t < 4 → fg_R u 32 t = if t < i then fg_R σ 32 t else -1) → Q 0 u) → fg_Run d 16 2 [some (.ref 31), some (.int (nI i))] [] σ Q := by
  intro m
  induction m with
  | zero =>
    intro i σ hi H
    have hi : i = 4 := by omega
    subst hi
    exact b_LK_emptyRow_2 ⟨fun _ => H σ fg_sm.rfl' (fun t ht => by rw [if_pos ht]), fun q => absurd (nI_le (a := 4) (b := 4) (by decide) (by decide)) q⟩
  | succ m ih =>
    intro i σ hi H
    refine b_LK_emptyRow_2 ⟨fun q => absurd q (nI_ge (b := 4) (by omega) (by decide)), fun _ => ⟨vp_in_nI (by omega) (by decide), ?_⟩⟩
    rw [nI_clamp (by omega), nI_1]
    refine ih (i + 1) _ (by omega) (fun u hu hr => H u ((fg_sm_R (by rfl)).tr hu) (fun t ht => ?_))
    rw [hr t ht, fg_R_sR]
    by_cases h1 : t < i
    · rw [if_pos (by omega), if_pos h1, if_neg (by omega)]
    · by_cases h2 : t = i
      · rw [if_pos (by omega), if_neg h1, if_pos ⟨rfl, h2⟩]
      · rw [if_neg (by omega), if_neg h1]
theorem r_LK_emptyRow (H : ∀ u, fg_sm (fun g => g == 32) σ u → (∀ t, t < 4 → fg_R u 32 t = -1) → Q 0 u) : fg_Run d 16 0 [some (.ref 31), none] [] σ Q :=
  b_LK_emptyRow_0 (l_LK_emptyRow 4 0 σ rfl (fun u hu hr => H u hu (fun t ht => by rw [hr t ht, if_neg (by omega)])))
end
end
section
/-! A SIGNAL GOES UP: take, and the reference's goesUp -/
theorem fg_tk_none {z : fg_Z} {e : Nat} {s : Nat × Nat} {i : Nat} (h : fg_tk z e s i = none) : ∀ n, i ≤ n → fg_tk z e s n = none := by
  intro n hn
  induction n with
  | zero =>
    have : i = 0 := by omega
    subst this
    exact h
  | succ n ih =>
    by_cases e1 : i = n + 1
    · subst e1; exact h
    · rw [fg_tk, ih (by omega)]
theorem fg_tk_bd {z : fg_Z} {e : Nat} {s : Nat × Nat} : ∀ (i : Nat) (t : Nat × Nat), fg_tk z e s i = some t → t.1 ≤ s.1 ∧ t.2 ≤ s.2 := by
  intro i
  induction i with
  | zero => intro t h; cases h; exact ⟨Nat.le_refl _, Nat.le_refl _⟩
  | succ i ih =>
    intro t h
    rw [fg_tk] at h
    split at h
    · cases h
    · rename_i t0 h0
      have := ih t0 h0
      split at h
      · cases h
      · split at h
        · cases h
          exact ⟨Nat.le_trans (fg_wo_le _ _) this.1, this.2⟩
        · cases h
          exact ⟨this.1, Nat.le_trans (fg_wo_le _ _) this.2⟩
/-- behind take -/
def fg_tkp (z : fg_Z) (e : Nat) (s : Nat × Nat) (u : fg_St) : Prop := match fg_tk z e s (fg_zl z e) with
  | some t => fg_F u 31 0 = nI t.1 ∧ fg_F u 31 1 = nI t.2 ∧ ∀ q, q < 4 → fg_R u 32 q = if q < fg_zl z e then nI (fg_rw z e s q) else -1
  | none => fg_F u 31 0 = nI s.1 ∧ fg_F u 31 1 = nI s.2 ∧ ∀ q, q < 4 → fg_R u 32 q = -1
def fg_pL (g : Nat) : Bool := g == 31 || g == 32
theorem fg_shp {h : Nat} (Sh : h = 3 ∨ h = 9) : fg_pL h = false ∧ fg_pL (h + 4) = false ∧ fg_pL (h + 5) = false := by rcases Sh with rfl | rfl <;> decide
theorem fg_nm1 {p : Nat} (hp : p < 2 ^ 31) : ¬ nI p = -1 := by
  intro e
  have h1 := congrArg Int32.toInt e
  rw [nI_toInt hp] at h1
  have h2 : (-1 : Int32).toInt = -1 := rfl
  omega
section
variable {d : Nat} {Q : Int32 → fg_St → Prop} {h : Nat} {z : fg_Z} {e FF FS : Nat}
theorem l_LK_take {σ : fg_St} (Sh : h = 3 ∨ h = 9) (hz : fg_Zok z) (hX : fg_ShX σ h z) (he : e < fg_zs z) (hFF : FF < 1024) (hFS : FS < 16) (H : ∀ u, fg_sm fg_pL σ u → fg_tkp z e (FF, FS) u → Q (fg_b (fg_tk z e (FF, FS) (fg_zl z e)).isSome) u) : ∀ m i (τ : fg_St) (t : Nat × Nat), i + m = fg_zl z e → fg_tk z e (FF, FS) i = some t → fg_sm fg_pL σ τ → fg_F τ 31 0 = nI t.1 → fg_F τ 31 1 = nI t.2 → (∀ q, q < 4 → fg_R τ 32 q = if q < i then nI (fg_rw z e (FF, FS) q) else -1) → fg_Run (d + 2) 14 28 [some (.ref 31), some (.ref h), some (.int (nI e)), some (.int (nI FF)), some (.int (nI FS)), some (.int (nI i)), none] [] τ Q := by
  have hl := hz.2.1 e he
  have hs := hz.1.2.2.2
  have hf := hz.1.2.2.1
  have sp := fg_shp Sh
  intro m
  induction m with
  | zero =>
    intro i τ t hi ht hsm h0 h1 hr
    have hi : i = fg_zl z e := by omega
    subst hi
    have hX' := hX.sm hsm sp.1 sp.2.1 sp.2.2
    refine b_LK_take_28 Sh ⟨vp_in_nI (by omega) (by decide), ?_⟩
    rw [nI_clamp (by omega), hX'.2.1 e he]
    refine ⟨fun _ => ?_, fun q => absurd (nI_le (Nat.le_refl _) (by omega)) q⟩
    have := H τ hsm (by unfold fg_tkp; rw [ht]; exact ⟨h0, h1, hr⟩)
    rw [ht] at this
    exact this
  | succ m ih =>
    intro i τ t hi ht hsm h0 h1 hr
    have hX' := hX.sm hsm sp.1 sp.2.1 sp.2.2
    have hb := fg_tk_bd i t ht
    refine b_LK_take_28 Sh ⟨vp_in_nI (by omega) (by decide), ?_⟩
    rw [nI_clamp (by omega), hX'.2.1 e he]
    refine ⟨fun q => absurd q (nI_ge (by omega) (by omega)), fun _ => ⟨fun q => absurd q (nI_ge (b := 4) (by omega) (by decide)), fun _ => ?_⟩⟩
    refine fg_use (r_LK_pieceFor Sh hz hX' he (by omega) h0 h1 (by omega) (by omega) ?_)
    have hrw : fg_rw z e (FF, FS) i = fg_pce z e t.1 t.2 i := by unfold fg_rw; rw [ht]
    have hin := fg_pce_in hz (FF := t.1) (FS := t.2) he (show i < fg_zl z e by omega)
    generalize hp : fg_pce z e t.1 t.2 i = p at hin hrw
    by_cases h99 : p = 99
    · subst h99
      have hnone : fg_tk z e (FF, FS) (fg_zl z e) = none := by
        refine fg_tk_none (i := i + 1) ?_ _ (by omega)
        rw [fg_tk, ht]
        simp [hp]
      refine ⟨fun q => absurd (by rfl) q, fun _ => fg_use (b_LK_open_0 (fg_use (r_LK_emptyRow (fun u hu hru => ?_))))⟩
      have hu2 := hu.2 31 (by decide)
      have hsm2 : fg_sm fg_pL σ u := hsm.tr (((fg_sm_F (by decide)).tr (fg_sm_F (by decide))).tr (hu.wk (fun g hg => by
        unfold fg_pL at hg
        simp only [Bool.or_eq_false_iff] at hg
        exact hg.2)))
      have := H u hsm2 (by
        unfold fg_tkp
        rw [hnone]
        exact ⟨(hu2.1 0).trans rfl, (hu2.1 1).trans rfl, hru⟩)
      rw [hnone] at this
      exact this
    · have hpi : fg_pi p = nI p := if_neg h99
      rw [hpi]
      have hpb : p ≤ 24 := by omega
      refine ⟨fun _ => ⟨vp_in_nI (by omega) (by decide), fun q => ?_, fun q => ?_⟩, fun q => absurd q (fg_nm1 (by omega))⟩
      · have q : p ≤ 20 := (nI_leI (b := 20) (by omega) (by decide)).mp q
        rw [nI_clamp (by omega), nI_1]
        refine ih (i + 1) _ (fg_wo t.1 (2 ^ p), t.2) (by omega) ?_ (hsm.tr ((fg_sm_R (by decide)).tr (fg_sm_F (by decide)))) ?_ ?_ ?_
        · rw [fg_tk, ht]
          simp only [hp]
          rw [if_neg h99, if_pos (by omega)]
        · rw [fg_F_sF, if_pos ⟨rfl, rfl⟩]
          show fg_F τ 31 0 &&& _ = _
          rw [h0, fg_shl1 (by omega), fg_andn]
        · rw [fg_F_sF, if_neg (by omega)]
          exact h1
        · intro c hc
          show fg_R (fg_sR τ 32 i (nI p)) 32 c = _
          rw [fg_R_sR]
          by_cases h1 : c = i
          · rw [if_pos ⟨rfl, h1⟩, if_pos (by omega), h1, hrw]
          · rw [if_neg (fun z => h1 z.2), hr c hc]
            by_cases h2 : c < i
            · rw [if_pos h2, if_pos (by omega)]
            · rw [if_neg h2, if_neg (by omega)]
      · have q : ¬ p ≤ 20 := fun z => q ((nI_leI (b := 20) (by omega) (by decide)).mpr z)
        rw [nI_clamp (by omega), nI_1]
        refine ih (i + 1) _ (t.1, fg_wo t.2 (2 ^ (p - 20))) (by omega) ?_ (hsm.tr ((fg_sm_R (by decide)).tr (fg_sm_F (by decide)))) ?_ ?_ ?_
        · rw [fg_tk, ht]
          simp only [hp]
          rw [if_neg h99, if_neg (by omega)]
        · rw [fg_F_sF, if_neg (by omega)]
          exact h0
        · rw [fg_F_sF, if_pos ⟨rfl, rfl⟩]
          show fg_F τ 31 1 &&& _ = _
          rw [h1, show nI p - 20 = nI (p - 20) from pk_sub (b := 20) (by omega), fg_shl1 (by omega), fg_andn]
        · intro c hc
          show fg_R (fg_sR τ 32 i (nI p)) 32 c = _
          rw [fg_R_sR]
          by_cases h1 : c = i
          · rw [if_pos ⟨rfl, h1⟩, if_pos (by omega), h1, hrw]
          · rw [if_neg (fun z => h1 z.2), hr c hc]
            by_cases h2 : c < i
            · rw [if_pos h2, if_pos (by omega)]
            · rw [if_neg h2, if_neg (by omega)]
/-- take: whether the signal can go up of the flags FF and the substitutes FS; behind it fg_tkp -/
theorem r_LK_take {σ : fg_St} (Sh : h = 3 ∨ h = 9) (hz : fg_Zok z) (hX : fg_ShX σ h z) (he : e < fg_zs z) (hF : fg_F σ 31 0 = nI FF) (hS : fg_F σ 31 1 = nI FS) (hFF : FF < 1024) (hFS : FS < 16) (H : ∀ u, fg_sm fg_pL σ u → fg_tkp z e (FF, FS) u → Q (fg_b (fg_tk z e (FF, FS) (fg_zl z e)).isSome) u) : fg_Run (d + 2) 14 0 [some (.ref 31), some (.ref h), some (.int (nI e)), none, none, none, none] [] σ Q := by
  have sp := fg_shp Sh
  have hs := hz.1.2.2.2
  refine b_LK_take_0 Sh (fg_use (r_LK_emptyRow (fun u hu hr => ?_)))
  have hsm : fg_sm fg_pL σ u := hu.wk (fun g hg => by
    unfold fg_pL at hg
    simp only [Bool.or_eq_false_iff] at hg
    exact hg.2)
  have hX' := hX.sm hsm sp.1 sp.2.1 sp.2.2
  refine fg_use (r_SH_hasSignal Sh hz hX' ?_)
  rw [fg_isn_nI he (by omega)]
  refine ⟨fun _ => ?_, fun q => absurd q (by decide)⟩
  have hu2 := hu.2 31 (by decide)
  rw [(hu2.1 0).trans hF, (hu2.1 1).trans hS]
  exact l_LK_take Sh hz hX he hFF hFS H (fg_zl z e) 0 u (FF, FS) (by omega) rfl hsm ((hu2.1 0).trans hF) ((hu2.1 1).trans hS) (fun q hq => by rw [hr q hq, if_neg (by omega)])
end
end
section
/-! A SIGNAL GOES UP: the reference -/
def fg_usd (r : Nat → Int32) (v : Int32) : Nat → Bool
  | 0 => false
  | i + 1 => fg_usd r v i || decide (r i = v)
theorem fg_usd_congr {r r' : Nat → Int32} {v : Int32} : ∀ i, (∀ t, t < i → r t = r' t) → fg_usd r v i = fg_usd r' v i := by
  intro i
  induction i with
  | zero => intro _; rfl
  | succ i ih => intro h; rw [fg_usd, fg_usd, ih (fun t ht => h t (by omega)), h i (by omega)]
theorem fg_tk_some {z : fg_Z} {e : Nat} {s : Nat × Nat} {n i : Nat} (h : (fg_tk z e s n).isSome = true) (hi : i ≤ n) : ∃ t, fg_tk z e s i = some t := by
  cases h1 : fg_tk z e s i with
  | some t => exact ⟨t, rfl⟩
  | none => rw [fg_tk_none h1 n hi] at h; cases h
theorem fg_rw_in {z : fg_Z} (hz : fg_Zok z) {e : Nat} {s : Nat × Nat} (he : e < fg_zs z) {n q : Nat} (hn : n ≤ fg_zl z e) (h : (fg_tk z e s n).isSome = true) (hq : q < n) : fg_rw z e s q < fg_zf z ∨ (21 ≤ fg_rw z e s q ∧ fg_rw z e s q ≤ 20 + q) := by
  obtain ⟨t, ht⟩ := fg_tk_some h (show q ≤ n by omega)
  obtain ⟨t2, ht2⟩ := fg_tk_some h (show q + 1 ≤ n by omega)
  have hrw : fg_rw z e s q = fg_pce z e t.1 t.2 q := by unfold fg_rw; rw [ht]
  rw [hrw]
  rcases fg_pce_in hz (FF := t.1) (FS := t.2) he (show q < fg_zl z e by omega) with h1 | h1 | h1
  · rw [fg_tk, ht] at ht2
    simp [h1] at ht2
  · exact Or.inl h1.1
  · exact Or.inr h1
/-- what a row may hold -/
def fg_rok (z : fg_Z) (r : Nat → Int32) : Prop := ∀ q, q < 4 → (r q = -1 ∨ ∃ p, r q = nI p ∧ (p < fg_zf z ∨ (21 ≤ p ∧ p ≤ 24)))
theorem fg_rok_of {z : fg_Z} (hz : fg_Zok z) {e : Nat} {s t : Nat × Nat} (he : e < fg_zs z) {i : Nat} (hi : i ≤ fg_zl z e) (ht : fg_tk z e s i = some t) {r : Nat → Int32} (hr : ∀ q, q < 4 → r q = if q < i then nI (fg_rw z e s q) else -1) : fg_rok z r := by
  have hl := hz.2.1 e he
  intro q hq
  rw [hr q hq]
  by_cases h : q < i
  · rw [if_pos h]
    right
    refine ⟨_, rfl, ?_⟩
    rcases fg_rw_in hz he hi (by rw [ht]; rfl) h with q1 | q1
    · exact Or.inl q1
    · exact Or.inr (by omega)
  · rw [if_neg h]
    exact Or.inl rfl
def fg_pR (g : Nat) : Bool := g == 196
section
variable {d : Nat} {Q : Int32 → fg_St → Prop} {z : fg_Z} {e FF FS : Nat}
theorem l_MO_isUsed {σ : fg_St} {v : Int32} {n : Nat} (hn : n ≤ 4) (H : Q (fg_b (fg_usd (fg_R σ 196) v n)) σ) : ∀ m i, i + m = n → fg_Run d 132 5 [some (.ref 187), some (.int v), some (.int (nI n)), some (.int (fg_b (fg_usd (fg_R σ 196) v i))), some (.int (nI i))] [] σ Q := by
  intro m
  induction m with
  | zero =>
    intro i hi
    have hi : i = n := by omega
    subst hi
    refine b_MO_isUsed_5 ⟨fun _ => ⟨by unfold fg_b; split <;> simp, H⟩, fun q => absurd (nI_le (Nat.le_refl _) (by omega)) q⟩
  | succ m ih =>
    intro i hi
    have ih := ih (i + 1) (by omega)
    refine b_MO_isUsed_5 ⟨fun q => absurd q (nI_ge (by omega) (by omega)), fun _ => ?_⟩
    rw [nI_1, nI_clamp (by omega)]
    rw [fg_usd] at ih
    cases hu : fg_usd (fg_R σ 196) v i
    · rw [hu] at ih
      refine ⟨fun q => absurd rfl q, fun _ => ⟨vp_in_nI (by omega) (by decide), fun q => ?_, fun q => ?_⟩⟩
      · rw [decide_eq_false q] at ih
        exact ih
      · rw [decide_eq_true q] at ih
        exact ih
    · rw [hu] at ih
      exact ⟨fun _ => ih, fun q => absurd q (by decide)⟩
theorem r_MO_isUsed {σ : fg_St} {v : Int32} {n : Nat} (hn : n ≤ 4) (H : Q (fg_b (fg_usd (fg_R σ 196) v n)) σ) : fg_Run d 132 0 [some (.ref 187), some (.int v), some (.int (nI n)), none, none] [] σ Q := b_MO_isUsed_0 (l_MO_isUsed hn H n 0 (by omega))
/-- what is left, by what the row holds -/
def fg_lft (s t : Nat × Nat) (r : Nat → Int32) (i : Nat) : Prop := (∀ g, g < 10 → t.1.testBit g = (s.1.testBit g && !(fg_usd r (nI g) i))) ∧ ∀ k, 1 ≤ k → k ≤ 3 → t.2.testBit k = (s.2.testBit k && !(fg_usd r (nI (20 + k)) i))
theorem fg_4e (e j : Nat) : 4 * nI e + nI j = nI (4 * e + j) := by rw [show (4 : Int32) = nI 4 from rfl, pk_mul, nI_add]
theorem l_MO_itemFor {σ : fg_St} {t : Nat × Nat} {j : Nat} (hz : fg_Zok z) (hM : fg_ShM σ z) (he : e < fg_zs z) (hj : j < fg_zl z e) (hFS : FS < 16) (hU : fg_lft (FF, FS) t (fg_R σ 196) j) : ∀ m k, 1 ≤ k → k + m = j + 1 → Q (if fg_alf z e t.2 j m k = 0 then -1 else nI (20 + fg_alf z e t.2 j m k)) σ → fg_Run (d + 1) 133 37 [some (.ref 187), some (.int (nI e)), some (.int (nI j)), none, some (.int (nI FS)), some (.int (nI (fg_zr z e j))), some (.int (nI k))] [] σ Q := by
  have hl := hz.2.1 e he
  have hr := hz.2.2.1 e he
  have hf := hz.1.2.2.1
  have hs := hz.1.2.2.2
  intro m
  induction m with
  | zero =>
    intro k h1 hk H
    exact b_MO_itemFor_37 ⟨fun _ => H, fun q => absurd (nI_lt (by omega) (by omega)) q⟩
  | succ m ih =>
    intro k h1 hk H
    have e1 : 4 * nI e + nI k - 1 = nI (4 * e + (k - 1)) := by
      rw [fg_4e]
      rw [show nI (4 * e + k) - 1 = nI (4 * e + k - 1) from pk_sub (b := 1) (by omega)]
      congr 1
      omega
    have hk2 := hU.2 k h1 (by omega)
    refine b_MO_itemFor_37 ⟨fun q => absurd q (nI_nlt (by omega) (by omega)), fun _ => fg_use (r_MO_has (by omega) (by omega) ?_)⟩
    have ih := ih (k + 1) (by omega) (by omega)
    rw [← nI_1] at ih
    unfold fg_alf at H
    cases hb : FS.testBit k
    · have hb2 : t.2.testBit k = false := by rw [hk2]; show (FS.testBit k && _) = false; rw [hb]; rfl
      rw [hb2] at H
      exact ⟨fun _ => ih H, fun q => absurd rfl q⟩
    · refine ⟨fun q => absurd q (by decide), fun _ => ?_⟩
      rw [show (20 : Int32) = nI 20 from rfl, nI_add]
      refine fg_use (r_MO_isUsed (by omega) ?_)
      cases hu : fg_usd (fg_R σ 196) (nI (20 + k)) j
      · have hb2 : t.2.testBit k = true := by rw [hk2]; show (FS.testBit k && _) = true; rw [hb, hu]; rfl
        rw [hb2] at H
        refine ⟨fun q => absurd rfl q, fun _ => ?_⟩
        rw [e1, nI_clamp (by omega), hM.2.2 e he (k - 1) (by omega), nI_eq (by have := hr (k - 1) (by omega); omega) (by have := hr j hj; omega)]
        refine ⟨vp_in_nI (by omega) (by decide), fun q => ?_, fun q => ?_⟩
        · have hq : (fg_zr z e (k - 1) == fg_zr z e j) = false := by simpa using q
          rw [hq] at H
          exact ih H
        · have hq : (fg_zr z e (k - 1) == fg_zr z e j) = true := by simpa using q
          rw [hq] at H
          have : ¬ k = 0 := by omega
          simpa [this] using H
      · have hb2 : t.2.testBit k = false := by rw [hk2]; show (FS.testBit k && _) = false; rw [hb, hu]; rfl
        rw [hb2] at H
        exact ⟨fun _ => ih H, fun q => absurd q (by decide)⟩
theorem r_MO_itemFor {σ : fg_St} {t : Nat × Nat} {j : Nat} (hz : fg_Zok z) (hM : fg_ShM σ z) (he : e < fg_zs z) (hj : j < fg_zl z e) (hFF : FF < 1024) (hFS : FS < 16) (hU : fg_lft (FF, FS) t (fg_R σ 196) j) (H : Q (fg_pi (fg_pce z e t.1 t.2 j)) σ) : fg_Run (d + 1) 133 0 [some (.ref 187), some (.int (nI e)), some (.int (nI j)), some (.int (nI FF)), some (.int (nI FS)), none, none] [] σ Q := by
  have hl := hz.2.1 e he
  have hr := hz.2.2.1 e he j hj
  have hf := hz.1.2.2.1
  have hs := hz.1.2.2.2
  refine b_MO_itemFor_0 ?_
  rw [fg_4e, nI_clamp (by omega), hM.2.2 e he j hj]
  have hg := hU.1 (fg_zr z e j) (by omega)
  have no : t.1.testBit (fg_zr z e j) = false → fg_Run (d + 1) 133 37 [some (.ref 187), some (.int (nI e)), some (.int (nI j)), none, some (.int (nI FS)), some (.int (nI (fg_zr z e j))), some (.int 1)] [] σ Q := by
    intro hb
    refine l_MO_itemFor hz hM he hj hFS hU j 1 (by omega) (by omega) ?_
    unfold fg_pce at H
    rw [if_neg (by rw [hb]; decide)] at H
    by_cases h0 : fg_alf z e t.2 j j 1 = 0
    · rw [if_pos h0] at H ⊢
      exact H
    · rw [if_neg h0] at H ⊢
      unfold fg_pi at H
      rw [if_neg (by rcases fg_alf_lt z e t.2 j j 1 with h | h <;> omega)] at H
      exact H
  refine ⟨vp_in_nI (by omega) (by decide), fg_use (r_MO_has (by omega) (by omega) ?_)⟩
  cases hb : FF.testBit (fg_zr z e j)
  · exact ⟨fun _ => no (by rw [hg]; show (FF.testBit _ && _) = false; rw [hb]; rfl), fun q => absurd rfl q⟩
  · refine ⟨fun q => absurd q (by decide), fun _ => fg_use (r_MO_isUsed (by omega) ?_)⟩
    cases hu : fg_usd (fg_R σ 196) (nI (fg_zr z e j)) j
    · have hb2 : t.1.testBit (fg_zr z e j) = true := by rw [hg]; show (FF.testBit _ && _) = true; rw [hb, hu]; rfl
      refine ⟨fun q => absurd rfl q, fun _ => ?_⟩
      unfold fg_pce at H
      rw [if_pos hb2] at H
      unfold fg_pi at H
      rw [if_neg (by omega)] at H
      exact H
    · exact ⟨fun _ => no (by rw [hg]; show (FF.testBit _ && _) = false; rw [hb, hu]; rfl), fun q => absurd q (by decide)⟩
theorem l_MO_goesUp {σ : fg_St} (hz : fg_Zok z) (hM : fg_ShM σ z) (he : e < fg_zs z) (hFF : FF < 1024) (hFS : FS < 16) (H : ∀ u, fg_sm fg_pR σ u → ((fg_tk z e (FF, FS) (fg_zl z e)).isSome = true → ∀ q, q < 4 → fg_R u 196 q = if q < fg_zl z e then nI (fg_rw z e (FF, FS) q) else -1) → fg_rok z (fg_R u 196) → Q (fg_b (fg_tk z e (FF, FS) (fg_zl z e)).isSome) u) : ∀ m i (τ : fg_St) (t : Nat × Nat), i + m = fg_zl z e → fg_tk z e (FF, FS) i = some t → fg_sm fg_pR σ τ → fg_lft (FF, FS) t (fg_R τ 196) i → (∀ q, q < 4 → fg_R τ 196 q = if q < i then nI (fg_rw z e (FF, FS) q) else -1) → fg_Run (d + 2) 134 26 [some (.ref 187), some (.int (nI e)), some (.int (nI FF)), some (.int (nI FS)), some (.int (nI i))] [] τ Q := by
  have hl := hz.2.1 e he
  have hs := hz.1.2.2.2
  have hf := hz.1.2.2.1
  intro m
  induction m with
  | zero =>
    intro i τ t hi ht hsm hU hr
    have hi : i = fg_zl z e := by omega
    subst hi
    have hM' := hM.sm hsm (by decide) (by decide) (by decide)
    refine b_MO_goesUp_26 ⟨vp_in_nI (by omega) (by decide), ?_⟩
    rw [nI_clamp (by omega), hM'.2.1 e he]
    refine ⟨fun _ => ?_, fun q => absurd (nI_le (Nat.le_refl _) (by omega)) q⟩
    have := H τ hsm (fun _ => hr) (fg_rok_of hz he (Nat.le_refl _) ht hr)
    rw [ht] at this
    exact this
  | succ m ih =>
    intro i τ t hi ht hsm hU hr
    have hM' := hM.sm hsm (by decide) (by decide) (by decide)
    refine b_MO_goesUp_26 ⟨vp_in_nI (by omega) (by decide), ?_⟩
    rw [nI_clamp (by omega), hM'.2.1 e he]
    refine ⟨fun q => absurd q (nI_ge (by omega) (by omega)), fun _ => ?_⟩
    refine fg_use (r_MO_itemFor hz hM' he (by omega) hFF hFS hU ?_)
    have hrw : fg_rw z e (FF, FS) i = fg_pce z e t.1 t.2 i := by unfold fg_rw; rw [ht]
    have hin := fg_pce_in hz (FF := t.1) (FS := t.2) he (show i < fg_zl z e by omega)
    have hbd := fg_tk_bd i t ht
    generalize hp : fg_pce z e t.1 t.2 i = p at hin hrw
    rw [nI_clamp (by omega), nI_1]
    refine ⟨vp_in_nI (by omega) (by decide), vp_in_nI (by omega) (by decide), ?_⟩
    rw [show fg_R (fg_sR τ 196 i (fg_pi p)) 196 i = fg_pi p by rw [fg_R_sR, if_pos ⟨rfl, rfl⟩]]
    have hsm2 : ∀ x, fg_sm fg_pR σ (fg_sR τ 196 i x) := fun x => hsm.tr (fg_sm_R (by decide))
    by_cases h99 : p = 99
    · subst h99
      have hnone : fg_tk z e (FF, FS) (fg_zl z e) = none := by
        refine fg_tk_none (i := i + 1) ?_ _ (by omega)
        rw [fg_tk, ht]
        simp [hp]
      refine ⟨fun q => absurd (by rfl) q, fun _ => ?_⟩
      have := H _ (hsm2 (fg_pi 99)) (fun q => by rw [hnone] at q; cases q) (fg_rok_of hz he (show i ≤ fg_zl z e by omega) ht (fun c hc => by
        rw [fg_R_sR]
        by_cases h1 : c = i
        · rw [if_pos ⟨rfl, h1⟩, if_neg (by omega)]
          rfl
        · rw [if_neg (fun z => h1 z.2), hr c hc]))
      rw [hnone] at this
      exact this
    · have hpi : fg_pi p = nI p := if_neg h99
      rw [hpi]
      have hpb : p ≤ 24 := by omega
      refine ⟨fun _ => ?_, fun q => absurd q (fg_nm1 (by omega))⟩
      have hrow : ∀ c, c < 4 → fg_R (fg_sR τ 196 i (nI p)) 196 c = if c < i + 1 then nI (fg_rw z e (FF, FS) c) else -1 := by
        intro c hc
        rw [fg_R_sR]
        by_cases h1 : c = i
        · rw [if_pos ⟨rfl, h1⟩, if_pos (by omega), h1, hrw]
        · rw [if_neg (fun z => h1 z.2), hr c hc]
          by_cases h2 : c < i
          · rw [if_pos h2, if_pos (by omega)]
          · rw [if_neg h2, if_neg (by omega)]
      have hus : ∀ v, fg_usd (fg_R (fg_sR τ 196 i (nI p)) 196) v (i + 1) = (fg_usd (fg_R τ 196) v i || decide (nI p = v)) := by
        intro v
        rw [fg_usd, fg_usd_congr (r := fg_R (fg_sR τ 196 i (nI p)) 196) (r' := fg_R τ 196) i (fun c hc => by rw [fg_R_sR, if_neg (by omega)])]
        rw [show fg_R (fg_sR τ 196 i (nI p)) 196 i = nI p by rw [fg_R_sR, if_pos ⟨rfl, rfl⟩]]
      have e1 : t.1 < 2 ^ 32 := by have := hbd.1; simp only at this; omega
      have e2 : t.2 < 2 ^ 32 := by have := hbd.2; simp only at this; omega
      by_cases hp20 : p < 20
      · refine ih (i + 1) _ (fg_wo t.1 (2 ^ p), t.2) (by omega) ?_ (hsm2 _) ⟨fun g hg => ?_, fun k h1 h3 => ?_⟩ hrow
        · rw [fg_tk, ht]
          simp only [hp]
          rw [if_neg h99, if_pos hp20]
        · rw [hus]
          show (fg_wo t.1 (2 ^ p)).testBit g = _
          rw [fg_wo_bit e1, hU.1 g hg, Nat.testBit_two_pow]
          have : decide (nI p = nI g) = decide (p = g) := by simp only [nI_eq (show p < 2 ^ 31 by omega) (show g < 2 ^ 31 by omega)]
          rw [this]
          cases (FF, FS).1.testBit g <;> cases fg_usd (fg_R τ 196) (nI g) i <;> simp
        · rw [hus]
          show t.2.testBit k = _
          rw [hU.2 k h1 h3, decide_eq_false (fun q => by have := (nI_eq (by omega) (by omega)).mp q; omega)]
          simp
      · refine ih (i + 1) _ (t.1, fg_wo t.2 (2 ^ (p - 20))) (by omega) ?_ (hsm2 _) ⟨fun g hg => ?_, fun k h1 h3 => ?_⟩ hrow
        · rw [fg_tk, ht]
          simp only [hp]
          rw [if_neg h99, if_neg hp20]
        · rw [hus]
          show t.1.testBit g = _
          rw [hU.1 g hg, decide_eq_false (fun q => by have := (nI_eq (by omega) (by omega)).mp q; omega)]
          simp
        · rw [hus]
          show (fg_wo t.2 (2 ^ (p - 20))).testBit k = _
          rw [fg_wo_bit e2, hU.2 k h1 h3, Nat.testBit_two_pow]
          have : decide (nI p = nI (20 + k)) = decide (p - 20 = k) := by
            simp only [nI_eq (show p < 2 ^ 31 by omega) (show 20 + k < 2 ^ 31 by omega)]
            congr 1
            apply propext
            omega
          rw [this]
          cases (FF, FS).2.testBit k <;> cases fg_usd (fg_R τ 196) (nI (20 + k)) i <;> simp
theorem l_MO_goesUp0 {y1 y2 y3 : Int32} : ∀ m i (σ : fg_St), i + m = 4 → (∀ u, fg_sm fg_pR σ u → (∀ t, t < 4 → fg_R u 196 t = if t < i then fg_R σ 196 t else -1) → fg_Run (d + 1) 134 26 [some (.ref 187), some (.int y1), some (.int y2), some (.int y3), some (.int 0)] [] u Q) → fg_Run (d + 1) 134 3 [some (.ref 187), some (.int y1), some (.int y2), some (.int y3), some (.int (nI i))] [] σ Q := by
  intro m
  induction m with
  | zero =>
    intro i σ hi H
    have hi : i = 4 := by omega
    subst hi
    exact b_MO_goesUp_3 ⟨fun _ => H σ fg_sm.rfl' (fun t ht => by rw [if_pos ht]), fun q => absurd (nI_le (a := 4) (b := 4) (by decide) (by decide)) q⟩
  | succ m ih =>
    intro i σ hi H
    refine b_MO_goesUp_3 ⟨fun q => absurd q (nI_ge (b := 4) (by omega) (by decide)), fun _ => ⟨vp_in_nI (by omega) (by decide), ?_⟩⟩
    rw [nI_clamp (by omega), nI_1]
    refine ih (i + 1) _ (by omega) (fun u hu hr => H u ((fg_sm_R (by decide)).tr hu) (fun t ht => ?_))
    rw [hr t ht, fg_R_sR]
    by_cases h1 : t < i
    · rw [if_pos (by omega), if_pos h1, if_neg (by omega)]
    · by_cases h2 : t = i
      · rw [if_pos (by omega), if_neg h1, if_pos ⟨rfl, h2⟩]
      · rw [if_neg (by omega), if_neg h1]
/-- goesUp: as take -/
theorem r_MO_goesUp {σ : fg_St} (hz : fg_Zok z) (hM : fg_ShM σ z) (he : e < fg_zs z) (hFF : FF < 1024) (hFS : FS < 16) (H : ∀ u, fg_sm fg_pR σ u → ((fg_tk z e (FF, FS) (fg_zl z e)).isSome = true → ∀ q, q < 4 → fg_R u 196 q = if q < fg_zl z e then nI (fg_rw z e (FF, FS) q) else -1) → fg_rok z (fg_R u 196) → Q (fg_b (fg_tk z e (FF, FS) (fg_zl z e)).isSome) u) : fg_Run (d + 2) 134 0 [some (.ref 187), some (.int (nI e)), some (.int (nI FF)), some (.int (nI FS)), none] [] σ Q := by
  refine b_MO_goesUp_0 (l_MO_goesUp0 4 0 σ rfl (fun u hu hr => ?_))
  refine l_MO_goesUp hz hM he hFF hFS H (fg_zl z e) 0 u (FF, FS) (by omega) rfl hu ⟨fun g _ => ?_, fun k _ _ => ?_⟩ (fun q hq => by rw [hr q hq, if_neg (by omega), if_neg (by omega)])
  · simp [fg_usd]
  · simp [fg_usd]
end
end
section
/-! WHAT IS FREE, HOW A FLAG LOOKS: the class -/
section
variable {d : Nat} {σ : fg_St} {Q : Int32 → fg_St → Prop} {h : Nat} {z : fg_Z} {w : Nat → Int32}
def fg_v10 (w : Nat → Int32) (i g : Nat) : Bool := !(decide (w (30 + g) = 1)) && (decide (i ≤ g) || decide (w (20 + g) = -1))
theorem l_DK_freeFlags (hz : fg_Zok z) (hD : fg_DkX σ 15 z w) (H : Q (nI (fg_set (fg_v10 w 10) (fg_zf z))) σ) : ∀ m i, i + m = 10 → fg_Run (d + 1) 3 14 [some (.ref 15), none, some (.int (nI (fg_set (fg_v10 w i) (fg_zf z)))), some (.int (nI i))] [] σ Q := by
  have hf := hz.1.2.2.1
  intro m
  induction m with
  | zero =>
    intro i hi
    have hi : i = 10 := by omega
    subst hi
    exact b_DK_freeFlags_14 ⟨fun _ => H, fun q => absurd (nI_le (a := 10) (b := 10) (by decide) (by decide)) q⟩
  | succ m ih =>
    intro i hi
    have ih := ih (i + 1) (by omega)
    refine b_DK_freeFlags_14 ⟨fun q => absurd q (nI_ge (b := 10) (by omega) (by decide)), fun _ => ⟨vp_in_nI (by omega) (by decide), ?_⟩⟩
    rw [nI_clamp (by omega), nI_1]
    refine ⟨fun q => ?_, fun q => ?_⟩
    · rw [show fg_set (fg_v10 w i) (fg_zf z) = fg_set (fg_v10 w (i + 1)) (fg_zf z) from fg_set_ext (fun g hg => ?_)]
      · exact ih
      · unfold fg_v10
        by_cases e : g = i
        · subst e
          have h2 : fg_R σ 20 g = w (20 + g) := (hD.2.1 g hg).2
          rw [q] at h2
          simp [← h2]
        · have : decide (i ≤ g) = decide (i + 1 ≤ g) := by
            congr 1
            apply propext
            omega
          rw [this]
    · rw [fg_shl1 (by omega), fg_andn, fg_set_out _ _ _ (by omega)]
      rw [show fg_set (fun g => fg_v10 w i g && !(g == i)) (fg_zf z) = fg_set (fg_v10 w (i + 1)) (fg_zf z) from fg_set_ext (fun g hg => ?_)]
      · exact ih
      · unfold fg_v10
        by_cases e : g = i
        · subst e
          have h2 : fg_R σ 20 g = w (20 + g) := (hD.2.1 g hg).2
          have h3 : ¬ w (20 + g) = -1 := by rw [← h2]; exact q
          simp [h3]
        · have : decide (i ≤ g) = decide (i + 1 ≤ g) := by
            congr 1
            apply propext
            omega
          rw [this]
          simp [e]
theorem r_DK_freeFlags (Sh : h = 3 ∨ h = 9) (hz : fg_Zok z) (hX : fg_ShX σ h z) (hD : fg_DkX σ 15 z w) (hW : fg_Wk z w) (H : Q (nI (fg_set (fg_fre w) (fg_zf z))) σ) : fg_Run (d + 1) 3 0 [some (.ref 15), some (.ref h), none, none] [] σ Q := by
  have hf := hz.1.2.2.1
  refine b_DK_freeFlags_0 Sh (fg_use (r_SH_allFlags Sh hz hX ?_))
  have h7 : fg_F σ 15 7 = nI (fg_set (fun g => decide (w (30 + g) = 1)) (fg_zf z)) := hD.2.2.1
  rw [h7, ← fg_set_all, fg_andn, fg_wo_set _ _ _ _ (by omega) (Nat.le_refl _)]
  rw [show fg_set (fun g => true && !(decide (w (30 + g) = 1))) (fg_zf z) = fg_set (fg_v10 w 0) (fg_zf z) from fg_set_ext (fun g _ => by simp [fg_v10])]
  refine l_DK_freeFlags hz hD ?_ 10 0 rfl
  rw [show fg_set (fg_v10 w 10) (fg_zf z) = fg_set (fg_fre w) (fg_zf z) from fg_set_ext (fun g hg => ?_)]
  · exact H
  · unfold fg_v10 fg_fre
    rw [decide_eq_false (show ¬ 10 ≤ g by omega)]
    rcases hW.1 g hg with e | e
    · rw [e]; simp
    · rw [e]; simp
theorem r_DK_freeSubstitutes (Sh : h = 3 ∨ h = 9) (hz : fg_Zok z) (hX : fg_ShX σ h z) (hD : fg_DkX σ 15 z w) (H : Q (nI (fg_set (fg_frs w) (fg_zN z + 1))) σ) : fg_Run (d + 1) 4 0 [some (.ref 15), some (.ref h)] [] σ Q := by
  have hn := hz.1.2.1
  refine b_DK_freeSubstitutes_0 Sh (fg_use (r_SH_allSubstitutes Sh hz hX ?_))
  have h8 : fg_F σ 15 8 = nI (fg_set (fun k => decide (1 ≤ k ∧ ¬ w (39 + k) = -1)) 4) := hD.2.2.2.1
  rw [h8, ← fg_als_all _ (by omega), fg_andn, fg_wo_set _ _ _ _ (by omega) (by omega)]
  rw [show fg_set (fun g => fg_als g && !(decide (1 ≤ g ∧ ¬ w (39 + g) = -1))) (fg_zN z + 1) = fg_set (fg_frs w) (fg_zN z + 1) from fg_set_ext (fun g _ => ?_)]
  · exact H
  · unfold fg_als fg_frs
    by_cases h1 : 1 ≤ g
    · by_cases h2 : w (39 + g) = -1
      · simp [h1, h2]
      · simp [h1, h2]
    · simp [h1]
/-- lookIn -/
theorem r_DK_lookIn {g k a b hz wd : Nat} (hg : g < 10) (hk : k ≤ 3) (ha : a ≤ 4) (hb : b ≤ 4) (hh : hz ≤ 2) (hw : wd ≤ 1) (e0 : fg_R σ 16 g = nI k) (e1 : fg_R σ 17 g = nI a) (e2 : fg_R σ 18 g = nI b) (H : Q (nI (fg_lk k a b hz wd)) σ) : fg_Run (d + 2) 5 0 [some (.ref 15), some (.int (nI g)), some (.int (nI hz)), some (.int (nI wd))] [] σ Q := by
  refine b_DK_lookIn_0 ⟨fun q => absurd q (nI_pos (by omega)), fun _ => ⟨fun _ => ?_, fun q => absurd (nI_lt (b := 10) hg (by decide)) q⟩⟩
  rw [nI_clamp (by omega), e0, e1, e2]
  exact ⟨vp_in_nI hg (by decide), vp_in_nI hg (by decide), vp_in_nI hg (by decide), fg_use (r_FS_seenPattern hk ha hb hh hw H)⟩
end
/-! the deck's and the row's relation only looks at their own handles -/
theorem fg_DkX.sm {P : Nat → Bool} {σ u : fg_St} {h : Nat} {z : fg_Z} {w : Nat → Int32} (hD : fg_DkX σ h z w) (s : fg_sm P σ u) (h0 : P h = false) (hr : ∀ k, k < 7 → P (h + 1 + k) = false) : fg_DkX u h z w := by
  have f := (s.2 h h0).1
  have r := fun k hk => (s.2 (h + 1 + k) (hr k hk)).2
  obtain ⟨d1, d2, d3, d4, d5, d6, d7⟩ := hD
  refine ⟨fun g hg => ?_, fun g hg => ?_, (f 7).trans d3, (f 8).trans d4, ⟨(f 9).trans d5.1, (f 10).trans d5.2.1, (f 11).trans d5.2.2⟩, fun q hq => (r 5 (by omega) q).trans (d6 q hq), fun q hq => (r 6 (by omega) q).trans (d7 q hq)⟩
  · obtain ⟨k, a, b, e1, e2, e3, e4, e5⟩ := d1 g hg
    exact ⟨k, a, b, e1, (r 0 (by omega) g).trans e2, (r 1 (by omega) g).trans e3, (r 2 (by omega) g).trans e4, e5⟩
  · exact ⟨(r 3 (by omega) g).trans (d2 g hg).1, (r 4 (by omega) g).trans (d2 g hg).2⟩
theorem fg_Dk.w {z : fg_Z} {f : Nat → Int32} {r : Nat → Nat → Int32} {w w' : Nat → Int32} (hD : fg_Dk z f r w) (hz : fg_Zok z) (e : ∀ i, i < 61 → w' i = w i) : fg_Dk z f r w' := by
  have hf := hz.1.2.2.1
  obtain ⟨d1, d2, d3, d4, d5, d6, d7⟩ := hD
  refine ⟨fun g hg => ?_, fun g hg => ?_, ?_, ?_, ⟨d5.1.trans (e 60 (by omega)).symm, d5.2.1.trans (e 58 (by omega)).symm, d5.2.2.trans (e 59 (by omega)).symm⟩, fun q hq => (d6 q hq).trans (e _ (by omega)).symm, fun q hq => (d7 q hq).trans (e _ (by omega)).symm⟩
  · obtain ⟨k, a, b, e1, e2, e3, e4, e5⟩ := d1 g hg
    exact ⟨k, a, b, e1, e2, e3, e4, (e g (by omega)).trans e5⟩
  · exact ⟨(d2 g hg).1.trans (e _ (by omega)).symm, (d2 g hg).2.trans (e _ (by omega)).symm⟩
  · rw [d3]
    congr 1
    exact fg_set_ext (fun g hg => by rw [e _ (by omega)])
  · rw [d4]
    congr 1
    exact fg_set_ext (fun g hg => by rw [e _ (by omega)])
theorem fg_Wk.w {z : fg_Z} {w w' : Nat → Int32} (hW : fg_Wk z w) (hz : fg_Zok z) (e : ∀ i, i < 61 → w' i = w i) : fg_Wk z w' := by
  have hf := hz.1.2.2.1
  obtain ⟨d1, d2, ⟨d3, d4, d5⟩, d6, d7, d8, d9, d10, d11⟩ := hW
  refine ⟨fun g hg => ?_, fun g hg => ?_, ⟨?_, ?_, ?_⟩, fun g hg => ?_, fun k h1 h3 => ?_, fun h hh => ?_, fun h j hh hj => ?_, fun g h hg hh => ?_, fun k h h1 h3 hh => ?_⟩
  · rw [e _ (by omega)]; exact d1 g hg
  · rw [e _ (by omega), e _ (by omega)]; exact d2 g hg
  · rw [e _ (by omega)]; exact d3
  · rw [e _ (by omega)]; exact d4
  · rw [e _ (by omega)]; exact d5
  · rw [e _ (by omega)]; exact d6 g hg
  · rw [e _ (by omega)]; exact d7 k h1 h3
  · rw [e _ (by omega)]
    rcases d8 h hh with q | q
    · exact Or.inl ⟨q.1, fun j hj => by rw [e _ (by omega)]; exact q.2 j hj⟩
    · exact Or.inr q
  · rw [e _ (by omega)]; exact d9 h j hh hj
  · rw [e _ (by omega), d10 g h hg hh]
    exact ⟨fun ⟨j, hj, q⟩ => ⟨j, hj, by rw [e _ (by omega)]; exact q⟩, fun ⟨j, hj, q⟩ => ⟨j, hj, by rw [e _ (by omega)] at q; exact q⟩⟩
  · rw [e _ (by omega), d11 k h h1 h3 hh]
    exact ⟨fun ⟨j, hj, q⟩ => ⟨j, hj, by rw [e _ (by omega)]; exact q⟩, fun ⟨j, hj, q⟩ => ⟨j, hj, by rw [e _ (by omega)] at q; exact q⟩⟩
end
section
/-! HOW SIGNALS LOOK: the class's watch -/
def fg_upb (z : fg_Z) (s : Nat × Nat) (e : Nat) : Bool := (fg_tk z e s (fg_zl z e)).isSome
/-- what stands at place j if the signal can go up; 99: nothing -/
def fg_rx (z : fg_Z) (s : Nat × Nat) (e j : Nat) : Nat := if fg_upb z s e && decide (j < fg_zl z e) then fg_rw z e s j else 99
def fg_Lx (z : fg_Z) (s : Nat × Nat) (lf : Nat → Nat) (e j : Nat) : Nat := if fg_rx z s e j = 99 then 255 else if fg_rx z s e j < 20 then lf (fg_rx z s e j) else 180 + fg_rx z s e j
def fg_sg (z : fg_Z) (s : Nat × Nat) (lf : Nat → Nat) (e : Nat) : Nat := ((fg_Lx z s lf e 0 * 256 + fg_Lx z s lf e 1) * 256 + fg_Lx z s lf e 2) * 256 + fg_Lx z s lf e 3
theorem fg_rx_in {z : fg_Z} (hz : fg_Zok z) {e : Nat} {s : Nat × Nat} (he : e < fg_zs z) (j : Nat) : fg_rx z s e j = 99 ∨ fg_rx z s e j < fg_zf z ∨ (21 ≤ fg_rx z s e j ∧ fg_rx z s e j ≤ 24) := by
  have hl := hz.2.1 e he
  unfold fg_rx
  split
  · rename_i h
    simp only [Bool.and_eq_true, decide_eq_true_eq] at h
    rcases fg_rw_in hz he (Nat.le_refl _) h.1 h.2 with q | q
    · exact Or.inr (Or.inl q)
    · exact Or.inr (Or.inr (by omega))
  · exact Or.inl rfl
theorem fg_Lx_le {z : fg_Z} (hz : fg_Zok z) {s : Nat × Nat} {lf : Nat → Nat} (hlf : ∀ g, g < fg_zf z → lf g < 200) {e : Nat} (he : e < fg_zs z) (j : Nat) : fg_Lx z s lf e j ≤ 255 := by
  unfold fg_Lx
  have hf := hz.1.2.2.1
  rcases fg_rx_in hz (s := s) he j with h | h | h
  · rw [if_pos h]; omega
  · rw [if_neg (by omega), if_pos (by omega)]
    have := hlf _ h
    omega
  · rw [if_neg (by omega), if_neg (by omega)]; omega
theorem fg_tkp_row {z : fg_Z} (hz : fg_Zok z) {e : Nat} {s : Nat × Nat} (he : e < fg_zs z) {u : fg_St} (h : fg_tkp z e s u) : ∀ q, q < 4 → fg_R u 32 q = fg_pi (fg_rx z s e q) := by
  have hf := hz.1.2.2.1
  intro q hq
  unfold fg_tkp at h
  cases ht : fg_tk z e s (fg_zl z e) with
  | none =>
    rw [ht] at h
    rw [h.2.2 q hq]
    have : fg_rx z s e q = 99 := by
      unfold fg_rx fg_upb
      rw [ht]
      rfl
    rw [this]
    rfl
  | some t =>
    rw [ht] at h
    rw [h.2.2 q hq]
    have hu : (fg_tk z e s (fg_zl z e)).isSome = true := by rw [ht]; rfl
    by_cases hl : q < fg_zl z e
    · have : fg_rx z s e q = fg_rw z e s q := by
        unfold fg_rx fg_upb
        rw [hu]
        simp [hl]
      rw [this, if_pos hl]
      unfold fg_pi
      rw [if_neg]
      rcases fg_rw_in hz he (Nat.le_refl _) hu hl with h | h <;> omega
    · have : fg_rx z s e q = 99 := by
        unfold fg_rx fg_upb
        simp [hl]
      rw [this, if_neg hl]
      rfl
def fg_pW (g : Nat) : Bool := g == 31 || g == 32 || g == 33 || g == 34
theorem fg_pLW : ∀ g, fg_pW g = false → fg_pL g = false := by
  intro g h
  unfold fg_pW at h
  unfold fg_pL
  simp only [Bool.or_eq_false_iff] at h ⊢
  exact ⟨h.1.1.1, h.1.1.2⟩
theorem fg_shpW {h : Nat} (Sh : h = 3 ∨ h = 9) : fg_pW h = false ∧ fg_pW (h + 4) = false ∧ fg_pW (h + 5) = false := by rcases Sh with rfl | rfl <;> decide
section
variable {d : Nat} {Q : Int32 → fg_St → Prop} {h : Nat} {z : fg_Z} {T : Nat}
/-- what is free of what is not torn -/
def fg_s0 (z : fg_Z) (T : Nat) : Nat × Nat := (fg_wo (2 ^ fg_zf z - 1) T, 2 ^ (fg_zN z + 1) - 2)
theorem fg_s0_lt (hz : fg_Zok z) : (fg_s0 z T).1 < 1024 ∧ (fg_s0 z T).2 < 16 := by
  have h1 := fg_p10 hz.1.2.2.1
  have h2 : 2 ^ (fg_zN z + 1) ≤ 2 ^ 4 := Nat.pow_le_pow_right (by decide) (by have := hz.1.2.1; omega)
  have h3 := fg_wo_le (2 ^ fg_zf z - 1) T
  have h4 : 1 ≤ 2 ^ fg_zf z := Nat.one_le_two_pow
  unfold fg_s0
  simp only
  omega
theorem l_WA_raiseAll2 {y3 : Int32} {e : Nat} (Sh : h = 3 ∨ h = 9) (he : e < 10) : ∀ m j (τ : fg_St), j + m = 4 → (∀ u, fg_sm (fun g => g == 34) τ u → (∀ k, fg_R u 34 k = if e * 4 + j ≤ k ∧ k < e * 4 + 4 then fg_R τ 32 (k - e * 4) else fg_R τ 34 k) → fg_Run (d + 1) 54 8 [some (.ref 33), some (.ref h), some (.ref 31), some (.int y3), some (.int (nI (e + 1))), none] [] u Q) → fg_Run (d + 1) 54 66 [some (.ref 33), some (.ref h), some (.ref 31), some (.int y3), some (.int (nI e)), some (.int (nI j))] [] τ Q := by
  intro m
  induction m with
  | zero =>
    intro j τ hj H
    have hj : j = 4 := by omega
    subst hj
    refine b_WA_raiseAll_66 Sh ⟨fun _ => ?_, fun q => absurd (nI_le (a := 4) (b := 4) (by decide) (by decide)) q⟩
    rw [nI_1]
    exact H τ fg_sm.rfl' (fun k => by rw [if_neg (by omega)])
  | succ m ih =>
    intro j τ hj H
    refine b_WA_raiseAll_66 Sh ⟨fun q => absurd q (nI_ge (b := 4) (by omega) (by decide)), fun _ => ⟨vp_in_nI (by omega) (by decide), ?_⟩⟩
    rw [fg_lit4, nI_clamp (by omega), nI_clamp (by omega), nI_1]
    refine ⟨vp_in_nI (by omega) (by decide), ih (j + 1) _ (by omega) (fun u hu hr => H u ((fg_sm_R (by rfl)).tr hu) (fun k => ?_))⟩
    rw [hr k]
    by_cases h1 : e * 4 + (j + 1) ≤ k ∧ k < e * 4 + 4
    · rw [if_pos h1, if_pos (by omega)]
      rfl
    · rw [if_neg h1, fg_R_sR]
      by_cases h2 : k = e * 4 + j
      · rw [if_pos ⟨rfl, h2⟩, if_pos (by omega), h2]
        congr 1
        omega
      · rw [if_neg (fun q => h2 q.2), if_neg (by omega)]
theorem l_WA_raiseAll {σ : fg_St} (Sh : h = 3 ∨ h = 9) (hz : fg_Zok z) (hX : fg_ShX σ h z) (hT : T < 2 ^ 31) (H : ∀ u, fg_sm fg_pW σ u → fg_F u 33 3 = nI (fg_set (fg_upb z (fg_s0 z T)) (fg_zs z)) → (∀ e j, e < fg_zs z → j < 4 → fg_R u 34 (e * 4 + j) = fg_pi (fg_rx z (fg_s0 z T) e j)) → Q 0 u) : ∀ m i (τ : fg_St), i + m = fg_zs z → fg_sm fg_pW σ τ → fg_F τ 33 3 = nI (fg_set (fg_upb z (fg_s0 z T)) i) → (∀ e j, e < i → j < 4 → fg_R τ 34 (e * 4 + j) = fg_pi (fg_rx z (fg_s0 z T) e j)) → fg_Run (d + 3) 54 8 [some (.ref 33), some (.ref h), some (.ref 31), some (.int (nI T)), some (.int (nI i)), none] [] τ Q := by
  have hs := hz.1.2.2.2
  have hf := hz.1.2.2.1
  have sp := fg_shpW Sh
  have hb := fg_s0_lt (T := T) hz
  intro m
  induction m with
  | zero =>
    intro i τ hi hsm hu hr
    have hi : i = fg_zs z := by omega
    subst hi
    have hX' := hX.sm hsm sp.1 sp.2.1 sp.2.2
    refine b_WA_raiseAll_8 Sh ⟨fun _ => H τ hsm hu hr, fun q => absurd ?_ q⟩
    rw [hX'.1.2.2.2]
    exact nI_le (Nat.le_refl _) (by omega)
  | succ m ih =>
    intro i τ hi hsm hu hr
    have hX' := hX.sm hsm sp.1 sp.2.1 sp.2.2
    refine b_WA_raiseAll_8 Sh ⟨fun q => absurd q (by rw [hX'.1.2.2.2]; exact nI_ge (by omega) (by omega)), fun _ => ⟨fun q => absurd q (nI_ge (b := 10) (by omega) (by decide)), fun _ => ?_⟩⟩
    refine fg_use (r_SH_allFlags Sh hz hX' (fg_use (r_SH_allSubstitutes Sh hz hX' (fg_use (b_LK_open_0 ?_)))))
    rw [fg_andn]
    have s1 : fg_sm fg_pW τ (fg_sF (fg_sF τ 31 0 (nI (fg_s0 z T).1)) 31 1 (nI (fg_s0 z T).2)) := (fg_sm_F (by decide)).tr (fg_sm_F (by decide))
    have hX1 := hX'.sm s1 sp.1 sp.2.1 sp.2.2
    refine fg_use (r_LK_take (FF := (fg_s0 z T).1) (FS := (fg_s0 z T).2) Sh hz hX1 (show i < fg_zs z by omega) rfl rfl hb.1 hb.2 (fun u hsu htk => ?_))
    have hrow := fg_tkp_row hz (show i < fg_zs z by omega) htk
    have s2 : fg_sm fg_pW σ u := hsm.tr (s1.tr (hsu.wk fg_pLW))
    have u33 := hsu.2 33 (by decide)
    have u34 := hsu.2 34 (by decide)
    have hset := fg_set_step (p := fg_upb z (fg_s0 z T)) (n := i) (by omega)
    have go : ∀ τ2 : fg_St, fg_sm fg_pW σ τ2 → (∀ k, fg_R τ2 32 k = fg_R u 32 k) → (∀ k, fg_R τ2 34 k = fg_R τ 34 k) → fg_F τ2 33 3 = nI (fg_set (fg_upb z (fg_s0 z T)) (i + 1)) → fg_Run (d + 3) 54 66 [some (.ref 33), some (.ref h), some (.ref 31), some (.int (nI T)), some (.int (nI i)), some (.int (nI 0))] [] τ2 Q := by
      intro τ2 t1 t2 t3 t4
      refine l_WA_raiseAll2 Sh (by omega) 4 0 τ2 rfl (fun v hv hrv => ?_)
      have v33 := hv.2 33 (by decide)
      refine ih (i + 1) v (by omega) (t1.tr (hv.wk (fun g hg => ?_))) ((v33.1 3).trans t4) (fun e j he hj => ?_)
      · unfold fg_pW at hg
        simp only [Bool.or_eq_false_iff] at hg
        exact hg.2
      · rw [hrv]
        by_cases e1 : e = i
        · subst e1
          rw [if_pos (by omega), t2, show e * 4 + j - e * 4 = j by omega, hrow j hj]
        · rw [if_neg (by omega), t3, hr e j (by omega) hj]
    have hup : (fg_tk z i ((fg_s0 z T).1, (fg_s0 z T).2) (fg_zl z i)).isSome = fg_upb z (fg_s0 z T) i := rfl
    rw [hup]
    have f33 : fg_F u 33 3 = nI (fg_set (fg_upb z (fg_s0 z T)) i) := (u33.1 3).trans hu
    cases hq : fg_upb z (fg_s0 z T) i
    · rw [hq, if_neg (by decide)] at hset
      refine ⟨fun _ => go u s2 (fun _ => rfl) (fun k => u34.2 k) ?_, fun q => absurd rfl q⟩
      rw [f33, ← hset]
      exact (fg_or _ 0).symm ▸ (by rw [Nat.or_zero])
    · rw [hq, if_pos rfl] at hset
      refine ⟨fun q => absurd q (by decide), fun _ => go _ (s2.tr (fg_sm_F (by decide))) (fun _ => rfl) (fun k => u34.2 k) ?_⟩
      rw [fg_F_sF, if_pos ⟨rfl, rfl⟩, f33, ← hset]
/-- raiseAll: which signals can go up of what is not torn, and their rows -/
theorem r_WA_raiseAll {σ : fg_St} (Sh : h = 3 ∨ h = 9) (hz : fg_Zok z) (hX : fg_ShX σ h z) (hT : T < 2 ^ 31) (H : ∀ u, fg_sm fg_pW σ u → fg_F u 33 3 = nI (fg_set (fg_upb z (fg_s0 z T)) (fg_zs z)) → (∀ e j, e < fg_zs z → j < 4 → fg_R u 34 (e * 4 + j) = fg_pi (fg_rx z (fg_s0 z T) e j)) → Q 0 u) : fg_Run (d + 3) 54 0 [some (.ref 33), some (.ref h), some (.ref 31), some (.int (nI T)), none, none] [] σ Q :=
  b_WA_raiseAll_0 Sh (l_WA_raiseAll Sh hz hX hT H (fg_zs z) 0 _ (by omega) (fg_sm_F (by decide)) rfl (fun e j he _ => absurd he (by omega)))
end
end
section
/-! HOW SIGNALS LOOK: see, sign, likeOf, clearOnes -/
/-- a flag's look out of the reference's row -/
def fg_lw (w : Nat → Int32) (hz wd g : Nat) : Nat := fg_lk ((w g).toNatClampNeg / 100) ((w g).toNatClampNeg / 10 % 10) ((w g).toNatClampNeg % 10) hz wd
theorem fg_lw_eq {w : Nat → Int32} {hz wd g k a b : Nat} (hk : k ≤ 3) (ha : a ≤ 4) (hb : b ≤ 4) (e : w g = nI (100 * k + 10 * a + b)) : fg_lw w hz wd g = fg_lk k a b hz wd := by
  unfold fg_lw
  rw [e, nI_clamp (by omega)]
  congr 1 <;> omega
theorem fg_col_le {c hz : Nat} (h : c ≤ 4) : fg_col c hz ≤ 4 := by
  unfold fg_col
  split
  · exact h
  · split
    · omega
    · split <;> omega
theorem fg_lk_lt {k a b hz wd : Nat} (hk : k ≤ 3) (ha : a ≤ 4) (hb : b ≤ 4) : fg_lk k a b hz wd < 200 := by
  unfold fg_lk
  have h1 := fg_col_le (hz := hz) ha
  have h2 := fg_col_le (hz := hz) hb
  split <;> omega
/-- alike -/
def fg_lke (z : fg_Z) (s : Nat × Nat) (lf : Nat → Nat) (e u : Nat) : Bool := fg_upb z s e && (fg_upb z s u && fg_sg z s lf u == fg_sg z s lf e)
def fg_clr (z : fg_Z) (s : Nat × Nat) (lf : Nat → Nat) (e : Nat) : Bool := fg_upb z s e && decide (∀ u, u < fg_zs z → u ≠ e → fg_lke z s lf e u = false)
def fg_pS (g : Nat) : Bool := g == 35 || g == 36
theorem fg_shpS {h : Nat} (Sh : h = 3 ∨ h = 9) : fg_pS h = false ∧ fg_pS (h + 4) = false ∧ fg_pS (h + 5) = false := by rcases Sh with rfl | rfl <;> decide
section
variable {d : Nat} {Q : Int32 → fg_St → Prop} {h : Nat} {z : fg_Z} {s : Nat × Nat} {lf : Nat → Nat}
theorem fg_any_col {σ : fg_St} {a0 a1 : Int32} (H : ∀ x, Q x σ) : fg_Run d 109 0 [some (.int a0), some (.int a1)] [] σ Q := b_FS_seenColour_0 ⟨fun _ => ⟨fun _ => ⟨fun _ => H _, fun _ => H _⟩, fun _ => H _⟩, fun _ => H _⟩
theorem fg_any_pat {σ : fg_St} {a0 a1 a2 a3 a4 : Int32} (H : ∀ x, Q x σ) : fg_Run (d + 1) 108 0 [some (.int a0), some (.int a1), some (.int a2), some (.int a3), some (.int a4), none, none, none] [] σ Q := by
  refine b_FS_seenPattern_0 ⟨fun _ => fg_use (fg_any_col fun _ => fg_use (fg_any_col fun _ => H _)), fun _ => ⟨fun _ => ⟨fun _ => fg_use (fg_any_col fun _ => fg_use (fg_any_col fun _ => H _)), fun _ => fg_use (fg_any_col fun _ => fg_use (fg_any_col fun _ => H _))⟩, fun _ => ⟨fun _ => fg_use (fg_any_col fun _ => fg_use (fg_any_col fun _ => H _)), fun _ => fg_use (fg_any_col fun _ => fg_use (fg_any_col fun _ => H _))⟩⟩⟩
theorem fg_any_lookIn {σ : fg_St} {g : Nat} {a1 a2 : Int32} (hg : g < 10) (H : ∀ x, Q x σ) : fg_Run (d + 2) 5 0 [some (.ref 15), some (.int (nI g)), some (.int a1), some (.int a2)] [] σ Q := by
  refine b_DK_lookIn_0 ⟨fun _ => H _, fun _ => ⟨fun _ => ?_, fun _ => H _⟩⟩
  exact ⟨vp_in_nI hg (by decide), vp_in_nI hg (by decide), vp_in_nI hg (by decide), fg_use (fg_any_pat fun _ => H _)⟩
theorem r_WA_lookOfPiece {σ : fg_St} {p : Nat} (hp : p = 99 ∨ p < 10 ∨ (21 ≤ p ∧ p ≤ 24)) (hl : p < 10 → fg_R σ 35 p = nI (lf p)) (H : Q (nI (if p = 99 then 255 else if p < 20 then lf p else 180 + p)) σ) : fg_Run d 57 0 [some (.ref 33), some (.int (fg_pi p))] [] σ Q := by
  refine b_WA_lookOfPiece_0 ?_
  by_cases h99 : p = 99
  · rw [if_pos h99] at H
    have : fg_pi p = -1 := if_pos h99
    rw [this]
    exact ⟨fun _ => ⟨fun _ => H, fun q => absurd (by decide) q⟩, fun q => absurd (by decide) q⟩
  · have : fg_pi p = nI p := if_neg h99
    rw [if_neg h99] at H
    rw [this]
    refine ⟨fun q => ?_, fun q => ?_⟩
    · have q : p ≤ 20 := (nI_leI (b := 20) (by omega) (by decide)).mp q
      rw [if_pos (by omega)] at H
      refine ⟨fun q => absurd q (nI_pos (by omega)), fun _ => ⟨fun q => absurd q (nI_ge (b := 10) (by omega) (by decide)), fun _ => ⟨vp_in_nI (by omega) (by decide), ?_⟩⟩⟩
      rw [nI_clamp (by omega), hl (by omega)]
      exact H
    · have q : ¬ p ≤ 20 := fun z => q ((nI_leI (b := 20) (by omega) (by decide)).mpr z)
      rw [if_neg (by omega)] at H
      rw [show (200 : Int32) + nI p - 20 = nI (180 + p) by
        rw [show (200 : Int32) = nI 200 from rfl, show (20 : Int32) = nI 20 from rfl, nI_add, pk_sub (by omega)]
        congr 1
        omega]
      exact H
theorem fg_pack {a b : Nat} (ha : a < 2 ^ 24) (hb : b ≤ 255) : (nI a <<< ((8 : Int32) &&& 31)) ||| nI b = nI (a * 256 + b) := by
  rw [pk_shlN (n := a) ((8 : Int32) &&& 31) 8 (by decide) (by omega), fg_or]
  congr 1
  have := Nat.two_pow_add_eq_or_of_lt (i := 8) (b := b) (by omega) a
  rw [show a * 2 ^ 8 = 2 ^ 8 * a by omega, ← this]
/-- the four looks of a signal, packed -/
theorem l_WA_sign1 {σ : fg_St} {S e : Nat} (Sh : h = 3 ∨ h = 9) (hz : fg_Zok z) (he : e < fg_zs z) (hlf : ∀ g, g < fg_zf z → lf g < 200) (hr : ∀ e j, e < fg_zs z → j < 4 → fg_R σ 34 (e * 4 + j) = fg_pi (fg_rx z s e j)) (hl : ∀ g, g < fg_zf z → fg_R σ 35 g = nI (lf g)) (H : fg_Run (d + 1) 56 2 [some (.ref 33), some (.ref h), some (.int (nI S)), some (.int (nI (e + 1))), none, none] [] (fg_sR σ 36 e (nI (fg_sg z s lf e))) Q) : fg_Run (d + 1) 56 30 [some (.ref 33), some (.ref h), some (.int (nI S)), some (.int (nI e)), some (.int 0), some (.int 0)] [] σ Q := by
  have hs := hz.1.2.2.2
  have hf := hz.1.2.2.1
  have hL := fun j => fg_Lx_le hz (s := s) hlf he j
  have hn : ∀ g, ¬ fg_zf z ≤ g → g < fg_zf z := fun g h => by omega
  have step : ∀ (a j : Nat), j < 4 → a < 2 ^ 24 → fg_Run (d + 1) 56 30 [some (.ref 33), some (.ref h), some (.int (nI S)), some (.int (nI e)), some (.int (nI (a * 256 + fg_Lx z s lf e j))), some (.int (nI (j + 1)))] [] σ Q → fg_Run (d + 1) 56 30 [some (.ref 33), some (.ref h), some (.int (nI S)), some (.int (nI e)), some (.int (nI a)), some (.int (nI j))] [] σ Q := by
    intro a j hj ha H
    refine b_WA_sign_30 Sh ⟨fun q => absurd q (nI_ge (b := 4) (by omega) (by decide)), fun _ => ?_⟩
    rw [fg_lit4, nI_clamp (by omega), nI_1, hr e j he hj]
    refine ⟨vp_in_nI (by omega) (by decide), fg_use (r_WA_lookOfPiece (lf := fun g => if g < fg_zf z then lf g else (fg_R σ 35 g).toBitVec.toNat) ?_ (fun hp => ?_) ?_)⟩
    · rcases fg_rx_in hz (s := s) he j with q | q | q
      · exact Or.inl q
      · exact Or.inr (Or.inl (by omega))
      · exact Or.inr (Or.inr q)
    · show fg_R σ 35 (fg_rx z s e j) = nI (if fg_rx z s e j < fg_zf z then lf (fg_rx z s e j) else (fg_R σ 35 (fg_rx z s e j)).toBitVec.toNat)
      split
      · rename_i hq
        exact hl _ hq
      · obtain ⟨n, hn, e⟩ := fg_of32 (fg_R σ 35 (fg_rx z s e j))
        rw [e, pk_tn hn]
    · have : (if fg_rx z s e j = 99 then 255 else if fg_rx z s e j < 20 then (if fg_rx z s e j < fg_zf z then lf (fg_rx z s e j) else (fg_R σ 35 (fg_rx z s e j)).toBitVec.toNat) else 180 + fg_rx z s e j) = fg_Lx z s lf e j := by
        unfold fg_Lx
        rcases fg_rx_in hz (s := s) he j with q | q | q
        · rw [if_pos q, if_pos q]
        · simp [show ¬ fg_rx z s e j = 99 by omega, show fg_rx z s e j < 20 by omega, q]
        · simp [show ¬ fg_rx z s e j = 99 by omega, show ¬ fg_rx z s e j < 20 by omega]
      simp only [this]
      rw [fg_pack ha (hL j)]
      exact H
  have h0 := hL 0
  have h1 := hL 1
  have h2 := hL 2
  have h3 := hL 3
  refine step 0 0 (by omega) (by omega) (step _ 1 (by omega) (by omega) (step _ 2 (by omega) (by omega) (step _ 3 (by omega) (by omega) ?_)))
  refine b_WA_sign_30 Sh ⟨fun _ => ?_, fun q => absurd (nI_le (a := 4) (b := 4) (by decide) (by decide)) q⟩
  rw [nI_clamp (by omega), nI_1]
  refine ⟨vp_in_nI (by omega) (by decide), ?_⟩
  have : (((0 * 256 + fg_Lx z s lf e 0) * 256 + fg_Lx z s lf e 1) * 256 + fg_Lx z s lf e 2) * 256 + fg_Lx z s lf e 3 = fg_sg z s lf e := by
    unfold fg_sg
    omega
  rw [this]
  exact H
theorem l_WA_sign {σ : fg_St} {S : Nat} (Sh : h = 3 ∨ h = 9) (hz : fg_Zok z) (hX : fg_ShX σ h z) (hS : S < 1024) (hlf : ∀ g, g < fg_zf z → lf g < 200) (hr : ∀ e j, e < fg_zs z → j < 4 → fg_R σ 34 (e * 4 + j) = fg_pi (fg_rx z s e j)) (hl : ∀ g, g < fg_zf z → fg_R σ 35 g = nI (lf g)) (H : ∀ u, fg_sm (fun g => g == 36) σ u → (∀ e, e < fg_zs z → fg_R u 36 e = if S.testBit e then nI (fg_sg z s lf e) else fg_R σ 36 e) → Q 0 u) : ∀ m i (τ : fg_St), i + m = fg_zs z → fg_sm (fun g => g == 36) σ τ → (∀ e, e < fg_zs z → fg_R τ 36 e = if e < i ∧ S.testBit e = true then nI (fg_sg z s lf e) else fg_R σ 36 e) → fg_Run (d + 1) 56 2 [some (.ref 33), some (.ref h), some (.int (nI S)), some (.int (nI i)), none, none] [] τ Q := by
  have hs := hz.1.2.2.2
  have sp : (fun g => g == 36) h = false ∧ (fun g => g == 36) (h + 4) = false ∧ (fun g => g == 36) (h + 5) = false := by rcases Sh with rfl | rfl <;> decide
  intro m
  induction m with
  | zero =>
    intro i τ hi hsm hq
    have hi : i = fg_zs z := by omega
    subst hi
    have hX' := hX.sm hsm sp.1 sp.2.1 sp.2.2
    refine b_WA_sign_2 Sh ⟨fun _ => H τ hsm (fun e he => ?_), fun q => absurd ?_ q⟩
    · rw [hq e he]
      by_cases hb : S.testBit e = true
      · rw [if_pos ⟨he, hb⟩, if_pos hb]
      · rw [if_neg (fun q => hb q.2), if_neg hb]
    · rw [hX'.1.2.2.2]
      exact nI_le (Nat.le_refl _) (by omega)
  | succ m ih =>
    intro i τ hi hsm hq
    have hX' := hX.sm hsm sp.1 sp.2.1 sp.2.2
    refine b_WA_sign_2 Sh ⟨fun q => absurd q (by rw [hX'.1.2.2.2]; exact nI_ge (by omega) (by omega)), fun _ => ⟨fun q => absurd q (nI_ge (b := 10) (by omega) (by decide)), fun _ => fg_use (r_FS_has (by omega) (by omega) ?_)⟩⟩
    cases hb : S.testBit i
    · refine ⟨fun _ => ?_, fun q => absurd rfl q⟩
      rw [nI_1]
      refine ih (i + 1) τ (by omega) hsm (fun e he => ?_)
      rw [hq e he]
      by_cases h1 : e < i ∧ S.testBit e = true
      · rw [if_pos h1, if_pos ⟨by omega, h1.2⟩]
      · rw [if_neg h1, if_neg]
        intro q
        by_cases e1 : e = i
        · rw [e1, hb] at q
          cases q.2
        · exact h1 ⟨by omega, q.2⟩
    · refine ⟨fun q => absurd q (by decide), fun _ => ?_⟩
      refine l_WA_sign1 Sh hz (show i < fg_zs z by omega) hlf (fun e j he hj => ((hsm.2 34 (by decide)).2 _).trans (hr e j he hj)) (fun g hg => ((hsm.2 35 (by decide)).2 _).trans (hl g hg)) ?_
      refine ih (i + 1) _ (by omega) (hsm.tr (fg_sm_R (by decide))) (fun e he => ?_)
      rw [fg_R_sR]
      by_cases e1 : e = i
      · rw [if_pos ⟨rfl, e1⟩, e1, if_pos ⟨by omega, hb⟩]
      · rw [if_neg (fun q => e1 q.2), hq e he]
        by_cases h1 : e < i ∧ S.testBit e = true
        · rw [if_pos h1, if_pos ⟨by omega, h1.2⟩]
        · rw [if_neg h1, if_neg (fun q => h1 ⟨by omega, q.2⟩)]
theorem r_WA_sign {σ : fg_St} {S : Nat} (Sh : h = 3 ∨ h = 9) (hz : fg_Zok z) (hX : fg_ShX σ h z) (hS : S < 1024) (hlf : ∀ g, g < fg_zf z → lf g < 200) (hr : ∀ e j, e < fg_zs z → j < 4 → fg_R σ 34 (e * 4 + j) = fg_pi (fg_rx z s e j)) (hl : ∀ g, g < fg_zf z → fg_R σ 35 g = nI (lf g)) (H : ∀ u, fg_sm (fun g => g == 36) σ u → (∀ e, e < fg_zs z → fg_R u 36 e = if S.testBit e then nI (fg_sg z s lf e) else fg_R σ 36 e) → Q 0 u) : fg_Run (d + 1) 56 0 [some (.ref 33), some (.ref h), some (.int (nI S)), none, none, none] [] σ Q :=
  b_WA_sign_0 Sh (l_WA_sign Sh hz hX hS hlf hr hl H (fg_zs z) 0 σ (by omega) fg_sm.rfl' (fun e _ => by rw [if_neg (by omega)]))
end
end
section
/-! HOW SIGNALS LOOK: see, likeOf, clearOnes, the class's clear set -/
section
variable {d : Nat} {Q : Int32 → fg_St → Prop} {h : Nat} {z : fg_Z} {s : Nat × Nat} {lf : Nat → Nat}
theorem fg_w2 {hz wd : Nat} (hh : hz ≤ 2) (hw : wd ≤ 1) : nI (2 * hz + wd) / 2 = nI hz ∧ nI (2 * hz + wd) - nI (2 * hz + wd) / 2 * 2 = nI wd := by
  constructor
  · rw [show (2 : Int32) = nI 2 from rfl, pk_div (by omega) (by decide) (by decide)]
    congr 1
    omega
  · rw [show (2 : Int32) = nI 2 from rfl, pk_rem (by omega) (by decide) (by decide)]
    congr 1
    omega
theorem fg_lw_lt {σ : fg_St} {w : Nat → Int32} {hz wd : Nat} (hD : fg_DkX σ 15 z w) : ∀ g, g < fg_zf z → fg_lw w hz wd g < 200 := by
  intro g hg
  obtain ⟨k, a, b, e1, e2, e3, e4, e5⟩ := hD.1 g hg
  rw [fg_lw_eq e1.1 e1.2.1 e1.2.2 e5]
  exact fg_lk_lt e1.1 e1.2.1 e1.2.2
/-- see: the looks of the flags and the packed looks of the signals that can go up -/
theorem l_WA_see {σ : fg_St} {w : Nat → Int32} {hz wd : Nat} (Sh : h = 3 ∨ h = 9) (hzo : fg_Zok z) (hX : fg_ShX σ h z) (hD : fg_DkX σ 15 z w) (hh : hz ≤ 2) (hw : wd ≤ 1) (hu : fg_F σ 33 3 = nI (fg_set (fg_upb z s) (fg_zs z))) (hr : ∀ e j, e < fg_zs z → j < 4 → fg_R σ 34 (e * 4 + j) = fg_pi (fg_rx z s e j)) (H : ∀ u, fg_sm fg_pS σ u → (∀ g, g < fg_zf z → fg_R u 35 g = nI (fg_lw w hz wd g)) → (∀ e, e < fg_zs z → fg_upb z s e = true → fg_R u 36 e = nI (fg_sg z s (fg_lw w hz wd) e)) → Q 0 u) : ∀ m i (τ : fg_St), i + m = 10 → fg_sm fg_pS σ τ → (∀ g, g < fg_zf z → g < i → fg_R τ 35 g = nI (fg_lw w hz wd g)) → fg_Run (d + 3) 55 3 [some (.ref 33), some (.ref h), some (.ref 15), some (.int (nI (2 * hz + wd))), some (.int (nI i))] [] τ Q := by
  have hs := hzo.1.2.2.2
  have hf := hzo.1.2.2.1
  have sp := fg_shpS Sh
  have hw2 := fg_w2 hh hw
  intro m
  induction m with
  | zero =>
    intro i τ hi hsm hl
    have hi : i = 10 := by omega
    subst hi
    refine b_WA_see_3 Sh ⟨fun _ => ?_, fun q => absurd (nI_le (a := 10) (b := 10) (by decide) (by decide)) q⟩
    have hX' := hX.sm hsm sp.1 sp.2.1 sp.2.2
    rw [((hsm.2 33 (by decide)).1 3).trans hu]
    have hb : fg_set (fg_upb z s) (fg_zs z) < 1024 := Nat.lt_of_lt_of_le (fg_set_lt _ _) (fg_p10 hs)
    refine fg_use (r_WA_sign Sh hzo hX' hb (fg_lw_lt hD) (fun e j he hj => ((hsm.2 34 (by decide)).2 _).trans (hr e j he hj)) (fun g hg => hl g hg (by omega)) (fun u hsu hsg => ?_))
    refine H u (hsm.tr (hsu.wk (fun g hg => ?_))) (fun g hg => ((hsu.2 35 (by decide)).2 g).trans (hl g hg (by omega))) (fun e he hup => ?_)
    · unfold fg_pS at hg
      simp only [Bool.or_eq_false_iff] at hg
      exact hg.2
    · rw [hsg e he, if_pos]
      rw [fg_set_bit, decide_eq_true he, hup]
      rfl
  | succ m ih =>
    intro i τ hi hsm hl
    refine b_WA_see_3 Sh ⟨fun q => absurd q (nI_ge (b := 10) (by omega) (by decide)), fun _ => ?_⟩
    rw [hw2.2, hw2.1, nI_clamp (by omega), nI_1]
    have go : ∀ x : Int32, (i < fg_zf z → x = nI (fg_lw w hz wd i)) → vp_in (nI i) 10 ∧ fg_Run (d + 3) 55 3 [some (.ref 33), some (.ref h), some (.ref 15), some (.int (nI (2 * hz + wd))), some (.int (nI (i + 1)))] [] (fg_sR τ 35 i x) Q := by
      intro x hx
      refine ⟨vp_in_nI (by omega) (by decide), ih (i + 1) _ (by omega) (hsm.tr (fg_sm_R (by decide))) (fun g hg hi2 => ?_)⟩
      rw [fg_R_sR]
      by_cases e1 : g = i
      · rw [if_pos ⟨rfl, e1⟩, e1]
        exact hx (by omega)
      · rw [if_neg (fun q => e1 q.2)]
        exact hl g hg (by omega)
    by_cases hg : i < fg_zf z
    · obtain ⟨k, a, b, e1, e2, e3, e4, e5⟩ := hD.1 i hg
      refine fg_use (r_DK_lookIn (by omega) e1.1 e1.2.1 e1.2.2 hh hw (((hsm.2 16 (by decide)).2 i).trans e2) (((hsm.2 17 (by decide)).2 i).trans e3) (((hsm.2 18 (by decide)).2 i).trans e4) ?_)
      refine go _ (fun _ => ?_)
      rw [fg_lw_eq e1.1 e1.2.1 e1.2.2 e5]
    · exact fg_use (fg_any_lookIn (by omega) (fun x => go x (fun q => absurd q hg)))
theorem r_WA_see {σ : fg_St} {w : Nat → Int32} {hz wd : Nat} (Sh : h = 3 ∨ h = 9) (hzo : fg_Zok z) (hX : fg_ShX σ h z) (hD : fg_DkX σ 15 z w) (hh : hz ≤ 2) (hw : wd ≤ 1) (hu : fg_F σ 33 3 = nI (fg_set (fg_upb z s) (fg_zs z))) (hr : ∀ e j, e < fg_zs z → j < 4 → fg_R σ 34 (e * 4 + j) = fg_pi (fg_rx z s e j)) (H : ∀ u, fg_sm fg_pS σ u → (∀ g, g < fg_zf z → fg_R u 35 g = nI (fg_lw w hz wd g)) → (∀ e, e < fg_zs z → fg_upb z s e = true → fg_R u 36 e = nI (fg_sg z s (fg_lw w hz wd) e)) → Q 0 u) : fg_Run (d + 3) 55 0 [some (.ref 33), some (.ref h), some (.ref 15), some (.int (nI (2 * hz + wd))), none] [] σ Q :=
  b_WA_see_0 Sh (l_WA_see Sh hzo hX hD hh hw hu hr H 10 0 σ rfl fg_sm.rfl' (fun g _ hg => absurd hg (by omega)))
theorem fg_sg_lt (hz : fg_Zok z) (hlf : ∀ g, g < fg_zf z → lf g < 200) {e : Nat} (he : e < fg_zs z) : fg_sg z s lf e < 2 ^ 32 := by
  have h0 := fg_Lx_le hz (s := s) hlf he 0
  have h1 := fg_Lx_le hz (s := s) hlf he 1
  have h2 := fg_Lx_le hz (s := s) hlf he 2
  have h3 := fg_Lx_le hz (s := s) hlf he 3
  unfold fg_sg
  omega
theorem fg_nIeq {a b : Nat} (ha : a < 2 ^ 32) (hb : b < 2 ^ 32) : nI a = nI b ↔ a = b := by
  constructor
  · intro e
    have := congrArg (fun x : Int32 => x.toBitVec.toNat) e
    simp only [pk_tn ha, pk_tn hb] at this
    exact this
  · intro e
    rw [e]
/-- the class's watch as it stands behind see -/
def fg_Wt2 (z : fg_Z) (s : Nat × Nat) (lf : Nat → Nat) (σ : fg_St) : Prop := fg_F σ 33 3 = nI (fg_set (fg_upb z s) (fg_zs z)) ∧ ∀ e, e < fg_zs z → fg_upb z s e = true → fg_R σ 36 e = nI (fg_sg z s lf e)
theorem l_WA_likeOf {σ : fg_St} {e : Nat} (Sh : h = 3 ∨ h = 9) (hz : fg_Zok z) (hX : fg_ShX σ h z) (hlf : ∀ g, g < fg_zf z → lf g < 200) (hw : fg_Wt2 z s lf σ) (he : e < fg_zs z) (hup : fg_upb z s e = true) (H : Q (nI (fg_set (fg_lke z s lf e) (fg_zs z))) σ) : ∀ m i, i + m = fg_zs z → fg_Run (d + 1) 58 26 [some (.ref 33), some (.ref h), some (.int (nI e)), some (.int (nI (fg_set (fg_lke z s lf e) i))), some (.int (nI i))] [] σ Q := by
  have hs := hz.1.2.2.2
  have hb : fg_set (fg_upb z s) (fg_zs z) < 1024 := Nat.lt_of_lt_of_le (fg_set_lt _ _) (fg_p10 hs)
  intro m
  induction m with
  | zero =>
    intro i hi
    have hi : i = fg_zs z := by omega
    subst hi
    refine b_WA_likeOf_26 Sh ⟨fun _ => H, fun q => absurd ?_ q⟩
    rw [hX.1.2.2.2]
    exact nI_le (Nat.le_refl _) (by omega)
  | succ m ih =>
    intro i hi
    have ih := ih (i + 1) (by omega)
    have hst := fg_set_step (p := fg_lke z s lf e) (n := i) (by omega)
    refine b_WA_likeOf_26 Sh ⟨fun q => absurd q (by rw [hX.1.2.2.2]; exact nI_ge (by omega) (by omega)), fun _ => ⟨fun q => absurd q (nI_ge (b := 10) (by omega) (by decide)), fun _ => ?_⟩⟩
    rw [hw.1]
    refine fg_use (r_FS_has (by omega) (by omega) ?_)
    rw [nI_1, nI_clamp (by omega), nI_clamp (by omega)]
    have hbit : (fg_set (fg_upb z s) (fg_zs z)).testBit i = fg_upb z s i := by rw [fg_set_bit, decide_eq_true (by omega)]; rfl
    rw [hbit]
    have no : fg_lke z s lf e i = false → nI (fg_set (fg_lke z s lf e) i) = nI (fg_set (fg_lke z s lf e) (i + 1)) := by
      intro q
      rw [fg_set, q]
      simp
    cases hu : fg_upb z s i
    · refine ⟨fun _ => ?_, fun q => absurd rfl q⟩
      rw [no (by unfold fg_lke; rw [hu]; simp)]
      exact ih
    · refine ⟨fun q => absurd q (by decide), fun _ => ⟨vp_in_nI (by omega) (by decide), vp_in_nI (by omega) (by decide), ?_⟩⟩
      rw [hw.2 i (by omega) hu, hw.2 e he hup, fg_nIeq (fg_sg_lt hz hlf (by omega)) (fg_sg_lt hz hlf he)]
      refine ⟨fun q => ?_, fun q => ?_⟩
      · rw [no (by unfold fg_lke; rw [hu, hup]; simpa using q)]
        exact ih
      · rw [if_pos (by unfold fg_lke; rw [hu, hup]; simpa using q)] at hst
        rw [hst]
        exact ih
/-- likeOf -/
theorem r_WA_likeOf {σ : fg_St} {e : Nat} (Sh : h = 3 ∨ h = 9) (hz : fg_Zok z) (hX : fg_ShX σ h z) (hlf : ∀ g, g < fg_zf z → lf g < 200) (hw : fg_Wt2 z s lf σ) (he : e < fg_zs z) (H : Q (nI (fg_set (fg_lke z s lf e) (fg_zs z))) σ) : fg_Run (d + 1) 58 0 [some (.ref 33), some (.ref h), some (.int (nI e)), none, none] [] σ Q := by
  have hs := hz.1.2.2.2
  have hb : fg_set (fg_upb z s) (fg_zs z) < 1024 := Nat.lt_of_lt_of_le (fg_set_lt _ _) (fg_p10 hs)
  refine b_WA_likeOf_0 Sh (fg_use (r_SH_hasSignal Sh hz hX ?_))
  rw [fg_isn_nI he (by omega)]
  refine ⟨fun q => absurd q (by decide), fun _ => ?_⟩
  rw [hw.1]
  refine fg_use (r_FS_has (by omega) (by omega) ?_)
  have hbit : (fg_set (fg_upb z s) (fg_zs z)).testBit e = fg_upb z s e := by rw [fg_set_bit, decide_eq_true he]; rfl
  rw [hbit]
  cases hu : fg_upb z s e
  · refine ⟨fun q => absurd rfl q, fun _ => ?_⟩
    have : fg_set (fg_lke z s lf e) (fg_zs z) = 0 := by
      apply Nat.eq_of_testBit_eq
      intro i
      rw [fg_set_bit]
      unfold fg_lke
      rw [hu]
      simp
    rw [this] at H
    exact H
  · exact ⟨fun _ => l_WA_likeOf Sh hz hX hlf hw he hu H (fg_zs z) 0 (by omega), fun q => absurd q (by decide)⟩
end
end
section
/-! THE CLASS'S CLEAR SET -/
section
variable {d : Nat} {Q : Int32 → fg_St → Prop} {h : Nat} {z : fg_Z} {s : Nat × Nat} {lf : Nat → Nat}
/-- who was found confused when pairs (o, e) with e < i, or e = i and o < j, were looked at -/
def fg_cf (z : fg_Z) (s : Nat × Nat) (lf : Nat → Nat) (i j C : Nat) : Prop := C < 1024 ∧ ∀ x, C.testBit x = true ↔ ∃ o e, o < e ∧ (e < i ∨ (e = i ∧ o < j)) ∧ fg_lke z s lf e o = true ∧ (x = o ∨ x = e)
theorem l_WA_clearOnes2 {σ : fg_St} {i : Nat} (Sh : h = 3 ∨ h = 9) (hz : fg_Zok z) (hlf : ∀ g, g < fg_zf z → lf g < 200) (hw : fg_Wt2 z s lf σ) (hi : i < fg_zs z) (H : ∀ C, fg_cf z s lf (i + 1) 0 C → fg_Run (d + 1) 59 4 [some (.ref 33), some (.ref h), some (.int (nI C)), some (.int (nI (i + 1))), none] [] σ Q) : ∀ m j C, j + m = i → fg_cf z s lf i j C → fg_Run (d + 1) 59 21 [some (.ref 33), some (.ref h), some (.int (nI C)), some (.int (nI i)), some (.int (nI j))] [] σ Q := by
  have hs := hz.1.2.2.2
  have hb : fg_set (fg_upb z s) (fg_zs z) < 1024 := Nat.lt_of_lt_of_le (fg_set_lt _ _) (fg_p10 hs)
  intro m
  induction m with
  | zero =>
    intro j C hj hC
    have hj : j = i := by omega
    subst hj
    refine b_WA_clearOnes_21 Sh ⟨fun _ => ?_, fun q => absurd (nI_le (Nat.le_refl _) (by omega)) q⟩
    rw [nI_1]
    refine H C ⟨hC.1, fun x => (hC.2 x).trans ⟨fun ⟨o, e, q1, q2, q3⟩ => ⟨o, e, q1, Or.inl (by omega), q3⟩, fun ⟨o, e, q1, q2, q3⟩ => ⟨o, e, q1, by omega, q3⟩⟩⟩
  | succ m ih =>
    intro j C hj hC
    refine b_WA_clearOnes_21 Sh ⟨fun q => absurd q (nI_ge (by omega) (by omega)), fun _ => ⟨vp_in_nI (by omega) (by decide), vp_in_nI (by omega) (by decide), ?_⟩⟩
    rw [nI_clamp (by omega), nI_clamp (by omega), nI_1, hw.1]
    have hbi : ∀ k, k < fg_zs z → (fg_set (fg_upb z s) (fg_zs z)).testBit k = fg_upb z s k := fun k hk => by rw [fg_set_bit, decide_eq_true hk]; rfl
    have no : fg_lke z s lf i j = false → fg_Run (d + 1) 59 21 [some (.ref 33), some (.ref h), some (.int (nI C)), some (.int (nI i)), some (.int (nI (j + 1)))] [] σ Q := by
      intro hn
      refine ih (j + 1) C (by omega) ⟨hC.1, fun x => (hC.2 x).trans ⟨fun ⟨o, e, q1, q2, q3⟩ => ⟨o, e, q1, by omega, q3⟩, fun ⟨o, e, q1, q2, q3⟩ => ⟨o, e, q1, ?_, q3⟩⟩⟩
      rcases q2 with q2 | q2
      · exact Or.inl q2
      · by_cases e1 : o = j
        · rw [q2.1, e1, hn] at q3
          exact absurd q3.1 (by decide)
        · exact Or.inr ⟨q2.1, by omega⟩
    have lkn : fg_upb z s i = false ∨ fg_upb z s j = false → fg_lke z s lf i j = false := by
      intro q
      unfold fg_lke
      rcases q with q | q <;> rw [q] <;> simp
    refine ⟨fun q => no ?_, fun q => fg_use (r_FS_has (by omega) (by omega) ?_)⟩
    · cases h1 : fg_upb z s i
      · exact lkn (Or.inl h1)
      · cases h2 : fg_upb z s j
        · exact lkn (Or.inr h2)
        · rw [hw.2 i hi h1, hw.2 j (by omega) h2, fg_nIeq (fg_sg_lt hz hlf (by omega)) (fg_sg_lt hz hlf hi)] at q
          unfold fg_lke
          rw [h1, h2]
          simpa using q
    · rw [hbi i hi]
      cases h1 : fg_upb z s i
      · exact ⟨fun _ => no (lkn (Or.inl h1)), fun q => absurd rfl q⟩
      · refine ⟨fun q => absurd q (by decide), fun _ => ?_⟩
        rw [hw.1]
        refine fg_use (r_FS_has (by omega) (by omega) ?_)
        rw [hbi j (by omega)]
        cases h2 : fg_upb z s j
        · exact ⟨fun _ => no (lkn (Or.inr h2)), fun q => absurd rfl q⟩
        · refine ⟨fun q => absurd q (by decide), fun _ => ?_⟩
          rw [hw.2 i hi h1, hw.2 j (by omega) h2, fg_nIeq (fg_sg_lt hz hlf (by omega)) (fg_sg_lt hz hlf hi)] at q
          have hy : fg_lke z s lf i j = true := by
            unfold fg_lke
            rw [h1, h2]
            simpa using q
          rw [fg_shl1 (by omega), fg_shl1 (by omega), fg_or, fg_or]
          have p1 : 2 ^ i < 2 ^ 10 := Nat.pow_lt_pow_right (by decide) (by omega)
          have p2 : 2 ^ j < 2 ^ 10 := Nat.pow_lt_pow_right (by decide) (by omega)
          refine ih (j + 1) _ (by omega) ⟨Nat.or_lt_two_pow (n := 10) hC.1 (Nat.or_lt_two_pow p1 p2), fun x => ?_⟩
          rw [Nat.testBit_or, Nat.testBit_or, Nat.testBit_two_pow, Nat.testBit_two_pow]
          simp only [Bool.or_eq_true, decide_eq_true_eq]
          rw [hC.2 x]
          constructor
          · rintro (⟨o, e, q1, q2, q3⟩ | q | q)
            · exact ⟨o, e, q1, by omega, q3⟩
            · exact ⟨j, i, by omega, Or.inr ⟨rfl, by omega⟩, hy, Or.inr q.symm⟩
            · exact ⟨j, i, by omega, Or.inr ⟨rfl, by omega⟩, hy, Or.inl q.symm⟩
          · rintro ⟨o, e, q1, q2, q3⟩
            rcases q2 with q2 | q2
            · exact Or.inl ⟨o, e, q1, Or.inl q2, q3⟩
            · by_cases e1 : o = j
              · right
                rcases q3.2 with q | q
                · right; rw [q, e1]
                · left; rw [q, q2.1]
              · exact Or.inl ⟨o, e, q1, Or.inr ⟨q2.1, by omega⟩, q3⟩
theorem fg_lke_sym (e u : Nat) : fg_lke z s lf e u = fg_lke z s lf u e := by
  unfold fg_lke
  have : (fg_sg z s lf u == fg_sg z s lf e) = (fg_sg z s lf e == fg_sg z s lf u) := by
    by_cases q : fg_sg z s lf u = fg_sg z s lf e
    · rw [q]
    · have q2 : ¬ fg_sg z s lf e = fg_sg z s lf u := fun x => q x.symm
      rw [show (fg_sg z s lf u == fg_sg z s lf e) = false by simpa using q, show (fg_sg z s lf e == fg_sg z s lf u) = false by simpa using q2]
  rw [this]
  cases fg_upb z s e <;> cases fg_upb z s u <;> rfl
theorem fg_cf_end {C : Nat} (hC : fg_cf z s lf (fg_zs z) 0 C) : fg_wo (fg_set (fg_upb z s) (fg_zs z)) C = fg_set (fg_clr z s lf) (fg_zs z) ∨ 31 < fg_zs z := by
  rcases Nat.lt_or_ge 31 (fg_zs z) with h31 | h31
  · exact Or.inr h31
  left
  apply Nat.eq_of_testBit_eq
  intro x
  have hl : fg_set (fg_upb z s) (fg_zs z) < 2 ^ 32 := Nat.lt_of_lt_of_le (fg_set_lt _ _) (Nat.pow_le_pow_right (by decide) (by omega))
  rw [fg_wo_bit hl, fg_set_bit, fg_set_bit]
  by_cases hx : x < fg_zs z
  · rw [decide_eq_true hx, Bool.true_and, Bool.true_and]
    unfold fg_clr
    congr 1
    have key : C.testBit x = true ↔ ¬ ∀ u, u < fg_zs z → u ≠ x → fg_lke z s lf x u = false := by
      rw [hC.2 x]
      constructor
      · rintro ⟨o, e, q1, q2, q3, q4⟩ hall
        rcases q4 with q | q
        · have := hall e (by omega) (by omega)
          rw [q, fg_lke_sym, q3] at this
          cases this
        · have := hall o (by omega) (by omega)
          rw [q, q3] at this
          cases this
      · intro hn
        apply Classical.byContradiction
        intro hno
        apply hn
        intro u hu hne
        cases hq : fg_lke z s lf x u with
        | false => rfl
        | true =>
          exfalso
          apply hno
          rcases Nat.lt_or_ge u x with hlt | hge
          · exact ⟨u, x, hlt, Or.inl hx, hq, Or.inr rfl⟩
          · exact ⟨x, u, by omega, Or.inl hu, by rw [fg_lke_sym]; exact hq, Or.inl rfl⟩
    by_cases hc : C.testBit x = true
    · rw [hc, decide_eq_false (key.mp hc)]
      rfl
    · have hc2 : C.testBit x = false := by simpa using hc
      rw [hc2, decide_eq_true (Classical.not_not.mp (fun q => hc (key.mpr q)))]
      rfl
  · rw [decide_eq_false hx]
    rfl
theorem l_WA_clearOnes {σ : fg_St} (Sh : h = 3 ∨ h = 9) (hz : fg_Zok z) (hX : fg_ShX σ h z) (hlf : ∀ g, g < fg_zf z → lf g < 200) (hw : fg_Wt2 z s lf σ) (H : Q (nI (fg_set (fg_clr z s lf) (fg_zs z))) σ) : ∀ m i C, i + m = fg_zs z → fg_cf z s lf i 0 C → fg_Run (d + 1) 59 4 [some (.ref 33), some (.ref h), some (.int (nI C)), some (.int (nI i)), none] [] σ Q := by
  have hs := hz.1.2.2.2
  intro m
  induction m with
  | zero =>
    intro i C hi hC
    have hi : i = fg_zs z := by omega
    subst hi
    refine b_WA_clearOnes_4 Sh ⟨fun _ => ?_, fun q => absurd ?_ q⟩
    · rw [hw.1, fg_andn]
      rcases fg_cf_end hC with e | e
      · rw [e]; exact H
      · omega
    · rw [hX.1.2.2.2]
      exact nI_le (Nat.le_refl _) (by omega)
  | succ m ih =>
    intro i C hi hC
    refine b_WA_clearOnes_4 Sh ⟨fun q => absurd q (by rw [hX.1.2.2.2]; exact nI_ge (by omega) (by omega)), fun _ => ⟨fun q => absurd q (nI_ge (b := 10) (by omega) (by decide)), fun _ => ?_⟩⟩
    exact l_WA_clearOnes2 Sh hz hlf hw (by omega) (fun C2 hC2 => ih (i + 1) C2 (by omega) hC2) i 0 C (by omega) hC
theorem r_WA_clearOnes {σ : fg_St} (Sh : h = 3 ∨ h = 9) (hz : fg_Zok z) (hX : fg_ShX σ h z) (hlf : ∀ g, g < fg_zf z → lf g < 200) (hw : fg_Wt2 z s lf σ) (H : Q (nI (fg_set (fg_clr z s lf) (fg_zs z))) σ) : fg_Run (d + 1) 59 0 [some (.ref 33), some (.ref h), none, none, none] [] σ Q :=
  b_WA_clearOnes_0 Sh (l_WA_clearOnes Sh hz hX hlf hw H (fg_zs z) 0 0 (by omega) ⟨by decide, fun x => by
    rw [Nat.zero_testBit]
    exact ⟨fun q => (by cases q), fun ⟨o, e, q1, q2, q3⟩ => (by omega)⟩⟩)
end
end
section
/-! HOW SIGNALS LOOK: the reference -/
/-- which flags are torn -/
def fg_tn (z : fg_Z) (w : Nat → Int32) : Nat := fg_set (fun g => decide (w (30 + g) = 1)) (fg_zf z)
/-- the class's state and the row that it stands for -/
def fg_XI (σ : fg_St) (z : fg_Z) (w : Nat → Int32) : Prop := (σ.1 = 3 ∨ σ.1 = 9) ∧ fg_Zok z ∧ fg_ShX σ σ.1 z ∧ fg_DkX σ 15 z w ∧ fg_Wk z w
/-- the rows' patterns are such -/
def fg_Pt (z : fg_Z) (w : Nat → Int32) : Prop := ∀ g, g < fg_zf z → ∃ k a b : Nat, (k ≤ 3 ∧ a ≤ 4 ∧ b ≤ 4) ∧ w g = nI (100 * k + 10 * a + b)
def fg_MI (σ : fg_St) (z : fg_Z) : Prop := fg_Zok z ∧ fg_ShM σ z ∧ fg_Wk z (fg_R σ 191) ∧ fg_Pt z (fg_R σ 191)
def fg_pX (g : Nat) : Bool := g == 31 || g == 32 || g == 33 || g == 34 || g == 35 || g == 36 || g == 38 || g == 39 || g == 40
def fg_pM (g : Nat) : Bool := g == 196 || g == 197 || g == 198 || g == 199 || g == 200 || g == 203
theorem fg_shpX {h : Nat} (Sh : h = 3 ∨ h = 9) : fg_pX h = false ∧ fg_pX (h + 4) = false ∧ fg_pX (h + 5) = false := by rcases Sh with rfl | rfl <;> decide
theorem fg_XI.sm {σ u : fg_St} {z : fg_Z} {w : Nat → Int32} (h : fg_XI σ z w) (s : fg_sm fg_pX σ u) : fg_XI u z w := by
  obtain ⟨h1, h2, h3, h4, h5⟩ := h
  have sp := fg_shpX h1
  refine ⟨by rw [s.1.1]; exact h1, h2, by rw [s.1.1]; exact h3.sm s sp.1 sp.2.1 sp.2.2, h4.sm s (by decide) (fun k hk => ?_), h5⟩
  have : ∀ k, k < 7 → fg_pX (15 + 1 + k) = false := by decide
  exact this k hk
theorem fg_MI.sm {σ u : fg_St} {z : fg_Z} (h : fg_MI σ z) (s : fg_sm fg_pM σ u) : fg_MI u z := by
  obtain ⟨h1, h2, h3, h4⟩ := h
  have e := (s.2 191 (by decide)).2
  have e2 : fg_R u 191 = fg_R σ 191 := funext e
  exact ⟨h1, h2.sm s (by decide) (by decide) (by decide), by rw [e2]; exact h3, by rw [e2]; exact h4⟩
theorem fg_pWX : ∀ g, fg_pX g = false → fg_pW g = false := by
  intro g h
  unfold fg_pX at h
  unfold fg_pW
  simp only [Bool.or_eq_false_iff] at h ⊢
  exact ⟨⟨⟨h.1.1.1.1.1.1.1.1, h.1.1.1.1.1.1.1.2⟩, h.1.1.1.1.1.1.2⟩, h.1.1.1.1.1.2⟩
theorem fg_pSX : ∀ g, fg_pX g = false → fg_pS g = false := by
  intro g h
  unfold fg_pX at h
  unfold fg_pS
  simp only [Bool.or_eq_false_iff] at h ⊢
  exact ⟨h.1.1.1.1.2, h.1.1.1.2⟩
theorem fg_pRM : ∀ g, fg_pM g = false → fg_pR g = false := by
  intro g h
  unfold fg_pM at h
  unfold fg_pR
  simp only [Bool.or_eq_false_iff] at h
  exact h.1.1.1.1.1
section
variable {d : Nat} {Q : Int32 → fg_St → Prop} {z : fg_Z} {w : Nat → Int32}
/-- the class's watch, with its rows and looks -/
def fg_Wt3 (z : fg_Z) (s : Nat × Nat) (lf : Nat → Nat) (u : fg_St) : Prop := fg_Wt2 z s lf u ∧ (∀ e j, e < fg_zs z → j < 4 → fg_R u 34 (e * 4 + j) = fg_pi (fg_rx z s e j)) ∧ ∀ g, g < fg_zf z → fg_R u 35 g = nI (lf g)
theorem fg_tn_lt (hz : fg_Zok z) : fg_tn z w < 1024 := Nat.lt_of_lt_of_le (fg_set_lt _ _) (fg_p10 hz.1.2.2.1)
theorem r_FS_watchIn {σ : fg_St} {hz wd : Nat} (hX : fg_XI σ z w) (hh : hz ≤ 2) (hw : wd ≤ 1) (H : ∀ u, fg_sm fg_pX σ u → fg_Wt3 z (fg_s0 z (fg_tn z w)) (fg_lw w hz wd) u → Q 0 u) : fg_Run (d + 4) 95 0 [some (.ref 0), some (.int (nI (2 * hz + wd)))] [] σ Q := by
  obtain ⟨h1, h2, h3, h4, h5⟩ := id hX
  have ht := fg_tn_lt (w := w) h2
  refine b_FS_watchIn_0 ?_
  have h7 : fg_F σ 15 7 = nI (fg_tn z w) := h4.2.2.1
  rw [h7]
  refine fg_use (r_WA_raiseAll h1 h2 h3 (by omega) (fun u hsu huf hrow => ?_))
  have hX2 := hX.sm (hsu.wk fg_pWX)
  obtain ⟨g1, g2, g3, g4, g5⟩ := id hX2
  refine fg_use (r_WA_see g1 g2 g3 g4 hh hw huf hrow (fun v hsv hlk hsg => ?_))
  refine H v ((hsu.wk fg_pWX).tr (hsv.wk fg_pSX)) ⟨⟨((hsv.2 33 (by decide)).1 3).trans huf, hsg⟩, fun e j he hj => ((hsv.2 34 (by decide)).2 _).trans (hrow e j he hj), hlk⟩
theorem r_FS_clearNow {σ : fg_St} {hz wd : Nat} (hX : fg_XI σ z w) (hh : hz ≤ 2) (hw : wd ≤ 1) (e1 : w 58 = nI hz) (e2 : w 59 = nI wd) (H : ∀ u, fg_sm fg_pX σ u → Q (nI (fg_set (fg_clr z (fg_s0 z (fg_tn z w)) (fg_lw w hz wd)) (fg_zs z))) u) : fg_Run (d + 5) 96 0 [some (.ref 0)] [] σ Q := by
  have h5 := hX.2.2.2.1.2.2.2.2.1
  have f10 : fg_F σ 15 10 = nI hz := h5.2.1.trans e1
  have f11 : fg_F σ 15 11 = nI wd := h5.2.2.trans e2
  refine b_FS_clearNow_0 (fg_use (b_DK_weatherNumber_0 ?_))
  rw [f10, f11, show (2 : Int32) * nI hz + nI wd = nI (2 * hz + wd) by rw [show (2 : Int32) = nI 2 from rfl, pk_mul, nI_add]]
  refine fg_use (r_FS_watchIn hX hh hw (fun u hsu hw3 => ?_))
  obtain ⟨g1, g2, g3, g4, g5⟩ := hX.sm hsu
  exact fg_use (r_WA_clearOnes g1 g2 g3 (fg_lw_lt g4) hw3.1 (H u hsu))
end
end
