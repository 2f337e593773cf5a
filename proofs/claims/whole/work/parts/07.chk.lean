def fg_mw : List (Nat × Nat × Nat × Nat) := [(351, 349, 350, 76), (712, 710, 711, 76), (541, 539, 540, 76), (489, 487, 488, 76), (501, 499, 500, 76), (561, 559, 560, 76), (683, 681, 682, 76), (749, 747, 748, 76), (753, 751, 752, 76), (719, 717, 718, 76), (727, 725, 726, 76), (355, 353, 354, 76), (740, 738, 739, 76), (509, 507, 508, 79), (513, 511, 512, 79), (525, 523, 524, 79), (517, 515, 516, 79), (839, 837, 838, 78), (847, 845, 846, 78), (477, 475, 476, 78), (641, 639, 640, 78), (859, 857, 858, 78), (708, 706, 707, 77), (793, 791, 792, 77), (473, 471, 472, 77), (613, 611, 612, 81), (814, 812, 813, 81), (818, 816, 817, 81), (825, 823, 824, 81), (421, 419, 420, 75), (359, 357, 358, 75), (691, 689, 690, 75), (671, 669, 670, 75), (521, 519, 520, 75), (805, 803, 804, 75), (598, 596, 597, 75), (493, 491, 492, 75), (505, 503, 504, 75), (453, 451, 452, 75), (461, 459, 460, 75), (465, 463, 464, 75), (469, 467, 468, 75), (529, 527, 528, 75), (622, 620, 621, 75), (408, 406, 407, 74), (417, 415, 416, 74), (425, 423, 424, 74), (437, 435, 436, 74), (429, 427, 428, 74), (445, 443, 444, 74), (449, 447, 448, 74), (457, 455, 456, 74), (433, 431, 432, 74), (441, 439, 440, 74), (549, 547, 548, 80), (557, 555, 556, 80), (571, 569, 570, 80), (576, 574, 575, 80), (645, 643, 644, 80), (580, 578, 579, 80), (403, 401, 402, 73), (413, 411, 412, 73), (481, 479, 480, 73), (485, 483, 484, 73), (667, 665, 666, 73), (677, 675, 676, 73), (687, 685, 686, 73), (695, 693, 694, 73), (699, 697, 698, 73), (723, 721, 722, 73), (731, 729, 730, 73), (745, 743, 744, 73), (757, 755, 756, 73), (761, 759, 760, 73), (765, 763, 764, 73), (789, 787, 788, 73), (797, 795, 796, 73), (801, 799, 800, 73), (810, 808, 809, 73), (829, 827, 828, 73), (835, 833, 834, 73), (843, 841, 842, 73), (851, 849, 850, 73), (855, 853, 854, 73), (863, 861, 862, 73), (867, 865, 866, 73), (872, 870, 871, 73), (532, 531, 0, 73), (703, 702, 14, 73), (735, 734, 15, 73), (773, 772, 17, 73), (769, 768, 16, 73), (781, 780, 18, 73), (785, 784, 19, 73), (497, 496, 0, 73), (545, 544, 2, 73), (537, 536, 1, 73), (584, 583, 3, 73), (606, 605, 6, 73), (602, 601, 5, 73), (594, 593, 4, 73), (618, 617, 7, 73), (627, 626, 8, 73), (631, 630, 9, 73), (637, 636, 10, 73), (651, 650, 11, 73), (655, 654, 12, 73), (660, 659, 13, 73), (564, 563, 0, 73), (567, 566, 0, 73), (998, 997, 0, 83), (1075, 1074, 0, 83), (1072, 1071, 0, 83), (1216, 1215, 59, 83), (1190, 1189, 55, 83), (1198, 1197, 56, 83), (994, 992, 993, 83), (1008, 1007, 20, 83), (1016, 1015, 22, 83), (1024, 1023, 24, 83), (1020, 1019, 23, 83), (1030, 1029, 25, 83), (1034, 1033, 26, 83), (1012, 1011, 21, 83), (1037, 1036, 0, 83), (1041, 1040, 27, 83), (1004, 1002, 1003, 83), (1048, 1046, 1047, 83), (1112, 1111, 38, 83), (1065, 1064, 30, 83), (1120, 1119, 40, 83), (1069, 1068, 31, 83), (1087, 1086, 34, 83), (1083, 1082, 33, 83), (1079, 1078, 32, 83), (1116, 1115, 39, 83), (1138, 1137, 0, 83), (1135, 1134, 0, 83), (1132, 1131, 43, 83), (1146, 1145, 45, 83), (1142, 1141, 44, 83), (1128, 1127, 42, 83), (1124, 1123, 41, 83), (1150, 1149, 46, 83), (1162, 1161, 49, 83), (1158, 1157, 48, 83), (1166, 1165, 50, 83), (1091, 1090, 35, 83), (1095, 1094, 36, 83), (1061, 1060, 29, 83), (1154, 1153, 47, 83), (1056, 1055, 28, 83), (1052, 1050, 1051, 83), (1103, 1102, 37, 83), (1099, 1097, 1098, 83), (1170, 1169, 51, 83), (1178, 1177, 53, 83), (1182, 1181, 54, 83), (1174, 1173, 52, 83), (1108, 1106, 1107, 83), (1186, 1184, 1185, 83), (1208, 1207, 58, 83), (1204, 1203, 57, 83), (1194, 1192, 1193, 83), (1212, 1210, 1211, 83), (1220, 1218, 1219, 83), (1233, 1232, 61, 83), (1228, 1227, 60, 83), (1237, 1236, 62, 83), (1224, 1222, 1223, 83), (1245, 1244, 63, 83), (1241, 1239, 1240, 83), (1258, 1257, 65, 83), (1253, 1252, 64, 83), (1249, 1247, 1248, 83), (1266, 1265, 66, 83), (1270, 1269, 67, 83), (1262, 1260, 1261, 83), (1274, 1272, 1273, 83), (1279, 1277, 1278, 83), (1292, 1291, 69, 83), (1300, 1299, 70, 83), (1304, 1303, 71, 83), (1288, 1287, 68, 83), (1284, 1282, 1283, 83), (1308, 1306, 1307, 83), (1312, 1310, 1311, 83), (1316, 1314, 1315, 83), (1322, 1320, 1321, 83), (1326, 1324, 1325, 83), (1330, 1328, 1329, 83), (1334, 1332, 1333, 83), (1338, 1336, 1337, 83), (1342, 1340, 1341, 83), (1346, 1344, 1345, 83), (587, 586, 0, 84)]
def fg_sta : List Bool := [false, false, false, false, false, false, false, false, false, false, false, false, false, false, false, false, false, false, false, false, false, false, false, false, false, false, false, false, false, false, false, false, false, false, false, false, false, false, false, false, false, false, false, false, false, false, false, false, false, false, false, false, false, false, false, false, false, false, false, false, false, false, false, false, false, false, false, false, false, false, false, false, false, false, false, false, false, false, false, false, false, false, false, false, false, false, false, true, false, false, false, false, false, false, false, false, false, false, false, false, false, false, false, false, false, false, false, false, true, true, true, true, true, false, false, false, false, false, false, false, false, false, false, false, true, false, false, false, false, false, false, false, false, false, false, false, true, true, false, false, false, false, false, false, false, false, false, false, false, false, false, false, false, false, false, false, false, false, false, false, false, false, false, false, false, false, false, false, false, false, false, false, false, false, false, false, false, false, false, false, false, false, false, false, false, false, false, false, false, false, false, false, false, false, false, true]
/-! THE TABLES HELD AGAINST THE CLASS FILES -/
def fg_w (w : Nat) (c : Jvm.Cond) : Bool := decide (lw_tbl[w]? = some c)
def fg_cq : ClassFile.Cond → Nat
  | .eq => 0
  | .ne => 1
  | .lt => 2
  | .ge => 3
  | .gt => 4
  | .le => 5
/-- what a field's instruction must be -/
def fg_fk (own : String) (x a b w : Nat) : Bool := match vwCl[a]? with
  | some q => decide (b < q.2.2) && fg_w w (.fieldLink own x (q.2.1 b).1 (q.2.1 b).2.1 (q.2.1 b).2.2.1)
  | none => false
def fg_fp (a b : Nat) (ty : FieldType) : Bool := match vwCl[a]? with
  | some q => decide ((q.2.1 b).2.2.2 = false) && decide (parseFieldDescriptor (q.2.1 b).2.2.1 = some ty)
  | none => false
def fg_np (d : String) (n : Nat) : Bool := decide ((parseMethodDescriptor d).map (fun d => d.parameters.length) = some n)
def fg_ri : Option FieldType → Bool
  | some .int => true
  | some .boolean => true
  | _ => false
def fg_rz : Option FieldType → Bool
  | none => true
  | _ => false
/-- what a call's instruction must be -/
def fg_ckc (own : String) (x a b w : Nat) (v : Bool) : Bool := match fg_mt[a]? with
  | some y => fg_w w (.methodLink own x y.1) && (fg_np y.1.desc b && (match v with
    | true => fg_rz y.2.2.2
    | false => fg_ri y.2.2.2))
  | none => false
def fg_cki (own : String) (ret : Option FieldType) (pc len : Nat) (ins : Instr) (op a b : Nat) (v : Int32) (w : Nat) : Bool := match op with
  | 0 => (match ins with
    | .iconst n => Nat.beq len 1 && decide (Int32.ofInt n = v)
    | .bipush n => Nat.beq len 2 && decide ((Int8.ofInt n).toInt32 = v)
    | .sipush n => Nat.beq len 3 && decide ((Int16.ofInt n).toInt32 = v)
    | .ldc x => Nat.beq len 2 && fg_w w (.constant own x v)
    | .ldc_w x => Nat.beq len 3 && fg_w w (.constant own x v)
    | _ => false)
  | 1 => (match ins with
    | .lconst n => Nat.beq len 1 && Nat.beq n.val a
    | .ldc2_w x => Nat.beq len 3 && fg_w w (.constantLong own x (Int64.ofNat a))
    | _ => false)
  | 2 => (match ins with
    | .iload_n k => Nat.beq len 1 && Nat.beq k.val a
    | .iload k => Nat.beq len 2 && Nat.beq k a
    | _ => false)
  | 3 => (match ins with
    | .aload_n k => Nat.beq len 1 && Nat.beq k.val a
    | .aload k => Nat.beq len 2 && Nat.beq k a
    | _ => false)
  | 4 => (match ins with
    | .lload_n k => Nat.beq len 1 && Nat.beq k.val a
    | .lload k => Nat.beq len 2 && Nat.beq k a
    | _ => false)
  | 5 => (match ins with
    | .istore_n k => Nat.beq len 1 && Nat.beq k.val a
    | .istore k => Nat.beq len 2 && Nat.beq k a
    | _ => false)
  | 6 => (match ins with
    | .astore_n k => Nat.beq len 1 && Nat.beq k.val a
    | .astore k => Nat.beq len 2 && Nat.beq k a
    | _ => false)
  | 7 => (match ins with
    | .lstore_n k => Nat.beq len 1 && Nat.beq k.val a
    | .lstore k => Nat.beq len 2 && Nat.beq k a
    | _ => false)
  | 8 => (match ins with
    | .iinc k n => Nat.beq len 3 && (Nat.beq k a && decide (Int32.ofInt n = v))
    | _ => false)
  | 9 => (match b with
    | 0 => Nat.beq len 1 && decide (ins = .iadd)
    | 1 => Nat.beq len 1 && decide (ins = .isub)
    | 2 => Nat.beq len 1 && decide (ins = .imul)
    | 3 => Nat.beq len 1 && decide (ins = .iand)
    | 4 => Nat.beq len 1 && decide (ins = .ior)
    | 5 => Nat.beq len 1 && decide (ins = .ixor)
    | 6 => Nat.beq len 1 && decide (ins = .ishl)
    | 7 => Nat.beq len 1 && decide (ins = .ishr)
    | _ => Nat.beq len 1 && decide (ins = .iushr))
  | 10 => Nat.beq len 1 && decide (ins = .idiv)
  | 11 => Nat.beq len 1 && decide (ins = .irem)
  | 12 => Nat.beq len 1 && decide (ins = .ineg)
  | 13 => Nat.beq len 1 && decide (ins = .i2l)
  | 14 => Nat.beq len 1 && decide (ins = .l2i)
  | 15 => (match b with
    | 0 => Nat.beq len 1 && decide (ins = .ladd)
    | 1 => Nat.beq len 1 && decide (ins = .lmul)
    | _ => Nat.beq len 1 && decide (ins = .land))
  | 16 => Nat.beq len 1 && decide (ins = .ldiv)
  | 17 => Nat.beq len 1 && decide (ins = .lrem)
  | 18 => Nat.beq len 1 && decide (ins = .lcmp)
  | 19 => Nat.beq len 1 && decide (ins = .dup)
  | 20 => Nat.beq len 1 && decide (ins = .pop)
  | 21 => Nat.beq len 1 && decide (ins = .dup2)
  | 22 => (match ins with
    | .goto off => Nat.beq len 3 && decide ((pc : Int) + off = (a : Int))
    | _ => false)
  | 23 => (match ins with
    | .ifCond o off => Nat.beq len 3 && (Nat.beq (fg_cq o) b && decide ((pc : Int) + off = (a : Int)))
    | _ => false)
  | 24 => (match ins with
    | .if_icmp o off => Nat.beq len 3 && (Nat.beq (fg_cq o) b && decide ((pc : Int) + off = (a : Int)))
    | _ => false)
  | 25 => (match ins with
    | .tableswitch df lo hi offs => (match fg_swt[a]? with
      | some q => decide (lo = 0) && (decide (hi = (q.1.length : Int) - 1) && (Nat.ble q.1.length 1000 && (decide ((pc : Int) + df = (q.2 : Int)) && decide (offs.toList.map (fun o => (pc : Int) + o) = q.1.map (fun t : Nat => (t : Int))))))
      | none => false)
    | _ => false)
  | 26 => (match ins with
    | .getfield x => Nat.beq len 3 && (fg_fk own x a b w && !(fg_rf a b))
    | _ => false)
  | 27 => (match ins with
    | .getfield x => Nat.beq len 3 && (fg_fk own x a b w && fg_rf a b)
    | _ => false)
  | 28 => (match ins with
    | .putfield x => Nat.beq len 3 && (fg_fk own x a b w && (!(fg_rf a b) && fg_fp a b .int))
    | _ => false)
  | 29 => (match ins with
    | .putfield x => Nat.beq len 3 && (fg_fk own x a b w && (!(fg_rf a b) && fg_fp a b .boolean))
    | _ => false)
  | 30 => (match ins with
    | .putfield x => Nat.beq len 3 && (fg_fk own x a b w && (Nat.beq a 9 && ((Nat.beq b 1 || Nat.beq b 2) && fg_fp a b (.object "FlagSignals$Ship"))))
    | _ => false)
  | 31 => Nat.beq len 1 && decide (ins = .iaload)
  | 32 => Nat.beq len 1 && decide (ins = .iastore)
  | 33 => Nat.beq len 1 && decide (ins = .baload)
  | 34 => Nat.beq len 1 && decide (ins = .bastore)
  | 35 => Nat.beq len 1 && decide (ins = .aaload)
  | 36 => Nat.beq len 1 && decide (ins = .arraylength)
  | 37 => (match ins with
    | .invokevirtual x => Nat.beq len 3 && (fg_ckc own x a b w false && !(fg_sta.getD a false))
    | _ => false)
  | 38 => (match ins with
    | .invokevirtual x => Nat.beq len 3 && (fg_ckc own x a b w true && !(fg_sta.getD a false))
    | _ => false)
  | 39 => (match ins with
    | .invokestatic x => Nat.beq len 3 && (fg_ckc own x a b w false && fg_sta.getD a false)
    | _ => false)
  | 40 => (match ins with
    | .invokestatic x => Nat.beq len 3 && (fg_ckc own x a b w true && fg_sta.getD a false)
    | _ => false)
  | 41 => (match ins with
    | .invokestatic x => Nat.beq len 3 && ((match fg_mt[a]? with
      | some y => decide (fg_nest[w]? = some (.methodLinkNest own x y.1 "FlagSignals")) && (fg_np y.1.desc b && fg_ri y.2.2.2)
      | none => false) && fg_sta.getD a false)
    | _ => false)
  | 42 => (match ins with
    | .invokestatic x => Nat.beq len 3 && fg_w w (.methodLink own x arraycopyName)
    | _ => false)
  | 46 => (match ins with
    | .invokestatic x => Nat.beq len 3 && fg_w w (.methodLink own x Lib.Math.min.name)
    | _ => false)
  | 47 => (match ins with
    | .invokestatic x => Nat.beq len 3 && fg_w w (.methodLink own x Lib.Math.max.name)
    | _ => false)
  | 43 => Nat.beq len 1 && (decide (ins = .ireturn) && decide (ret = some .int))
  | 44 => Nat.beq len 1 && (decide (ins = .ireturn) && decide (ret = some .boolean))
  | 45 => Nat.beq len 1 && (decide (ins = .return_) && decide (ret = none))
  | _ => false
def fg_ckI (own : String) (cc : ByteArray) (ret : Option FieldType) (q : fg_I) : Bool := match decode cc q.1 with
  | .ok r => Nat.beq q.2.1 (q.1 + r.2) && fg_cki own ret q.1 r.2 r.1 q.2.2.1 q.2.2.2.1 q.2.2.2.2.1 q.2.2.2.2.2.1 q.2.2.2.2.2.2
  | .error _ => false
/-- a method's own words -/
def fg_mck (i : Nat) : Bool := match fg_mt[i]?, fg_mw[i]? with
  | some y, some p => ((match fg_sta.getD i false with
    | true => fg_w p.2.1 (.static y.1)
    | false => fg_w p.2.1 (.instanceMethod y.1) && fg_w p.2.2.1 (.selects y.1.cls y.1 y.1)) && (fg_w p.2.2.2 (.initialized y.1.cls) && (decide (y.1.cls ≠ "java/lang/invoke/MethodHandle" ∧ y.1.cls ≠ "java/lang/invoke/VarHandle") && (plainName y.1.cls && Nat.ble y.2.2.1 11))))
  | _, _ => false
def fg_ckm (i : Nat) : Bool := match fg_mt[i]? with
  | some y => (fg_cd.getD i []).all (fg_ckI y.1.cls y.2.1 y.2.2.2)
  | none => false
theorem fg_mc_0 : Jvm.Cond.code yX0_rig cX0_rig 3 none ∈ lw_tbl := List.mem_append_right _ (List.mem_append_right _ (List.mem_append_left _ (List.mem_of_getElem? (i := 39) rfl)))
theorem fg_mc_1 : Jvm.Cond.code yX0_become cX0_become 2 none ∈ lw_tbl := List.mem_append_right _ (List.mem_append_right _ (List.mem_append_right _ (List.mem_append_left _ (List.mem_of_getElem? (i := 160) rfl))))
theorem fg_mc_2 : Jvm.Cond.code yX0_weatherNumber cX0_weatherNumber 1 (some .int) ∈ lw_tbl := List.mem_append_right _ (List.mem_append_right _ (List.mem_append_left _ (List.mem_of_getElem? (i := 229) rfl)))
theorem fg_mc_3 : Jvm.Cond.code yX0_freeFlags cX0_freeFlags 4 (some .int) ∈ lw_tbl := List.mem_append_right _ (List.mem_append_right _ (List.mem_append_left _ (List.mem_of_getElem? (i := 177) rfl)))
theorem fg_mc_4 : Jvm.Cond.code yX0_freeSubstitutes cX0_freeSubstitutes 2 (some .int) ∈ lw_tbl := List.mem_append_right _ (List.mem_append_right _ (List.mem_append_left _ (List.mem_of_getElem? (i := 189) rfl)))
theorem fg_mc_5 : Jvm.Cond.code yX0_lookIn cX0_lookIn 4 (some .int) ∈ lw_tbl := List.mem_append_right _ (List.mem_append_right _ (List.mem_append_right _ (List.mem_append_left _ (List.mem_of_getElem? (i := 9) rfl))))
theorem fg_mc_6 : Jvm.Cond.code yX0_lineOf cX0_lineOf 3 (some .int) ∈ lw_tbl := List.mem_append_right _ (List.mem_append_right _ (List.mem_append_right _ (List.mem_append_left _ (List.mem_of_getElem? (i := 131) rfl))))
theorem fg_mc_7 : Jvm.Cond.code yX0_canBeSewn cX0_canBeSewn 2 (some .boolean) ∈ lw_tbl := List.mem_append_right _ (List.mem_append_right _ (List.mem_append_right _ (List.mem_append_left _ (List.mem_of_getElem? (i := 197) rfl))))
theorem fg_mc_8 : Jvm.Cond.code yX0_mend cX0_mend 2 none ∈ lw_tbl := List.mem_append_right _ (List.mem_append_right _ (List.mem_append_right _ (List.mem_append_left _ (List.mem_of_getElem? (i := 201) rfl))))
theorem fg_mc_9 : Jvm.Cond.code yX0_raise cX0_raise 7 (some .int) ∈ lw_tbl := List.mem_append_right _ (List.mem_append_right _ (List.mem_append_right _ (List.mem_append_left _ (List.mem_of_getElem? (i := 167) rfl))))
theorem fg_mc_10 : Jvm.Cond.code yX0_lower cX0_lower 5 (some .int) ∈ lw_tbl := List.mem_append_right _ (List.mem_append_right _ (List.mem_append_right _ (List.mem_append_left _ (List.mem_of_getElem? (i := 175) rfl))))
theorem fg_mc_11 : Jvm.Cond.code yX0_emptyLine cX0_emptyLine 3 none ∈ lw_tbl := List.mem_append_right _ (List.mem_append_right _ (List.mem_append_left _ (List.mem_of_getElem? (i := 43) rfl)))
theorem fg_mc_12 : Jvm.Cond.code yX0_passDay cX0_passDay 3 none ∈ lw_tbl := List.mem_append_right _ (List.mem_append_right _ (List.mem_append_right _ (List.mem_append_left _ (List.mem_of_getElem? (i := 188) rfl))))
theorem fg_mc_13 : Jvm.Cond.code yX2_open cX2_open 3 none ∈ lw_tbl := List.mem_append_right _ (List.mem_append_right _ (List.mem_append_left _ (List.mem_of_getElem? (i := 197) rfl)))
theorem fg_mc_14 : Jvm.Cond.code yX2_take cX2_take 7 (some .boolean) ∈ lw_tbl := List.mem_append_right _ (List.mem_append_right _ (List.mem_append_left _ (List.mem_of_getElem? (i := 201) rfl)))
theorem fg_mc_15 : Jvm.Cond.code yX2_pieceFor cX2_pieceFor 6 (some .int) ∈ lw_tbl := List.mem_append_right _ (List.mem_append_right _ (List.mem_append_left _ (List.mem_of_getElem? (i := 213) rfl)))
theorem fg_mc_16 : Jvm.Cond.code yX2_emptyRow cX2_emptyRow 2 none ∈ lw_tbl := List.mem_append_right _ (List.mem_append_right _ (List.mem_append_left _ (List.mem_of_getElem? (i := 205) rfl)))
theorem fg_mc_17 : Jvm.Cond.code yX3_addRead cX3_addRead 3 (some .boolean) ∈ lw_tbl := List.mem_append_right _ (List.mem_append_right _ (List.mem_append_right _ (List.mem_append_right _ (List.mem_append_left _ (List.mem_of_getElem? (i := 47) rfl)))))
theorem fg_mc_18 : Jvm.Cond.code yX3_addEntry cX3_addEntry 3 (some .boolean) ∈ lw_tbl := List.mem_append_right _ (List.mem_append_right _ (List.mem_append_right _ (List.mem_append_right _ (List.mem_append_left _ (List.mem_of_getElem? (i := 55) rfl)))))
theorem fg_mc_19 : Jvm.Cond.code yX3_wipe cX3_wipe 1 none ∈ lw_tbl := List.mem_append_right _ (List.mem_append_right _ (List.mem_append_left _ (List.mem_of_getElem? (i := 165) rfl)))
theorem fg_mc_20 : Jvm.Cond.code yX3_fits cX3_fits 4 (some .boolean) ∈ lw_tbl := List.mem_append_right _ (List.mem_append_right _ (List.mem_append_right _ (List.mem_append_left _ (List.mem_of_getElem? (i := 89) rfl))))
theorem fg_mc_21 : Jvm.Cond.code yX3_firstFalse cX3_firstFalse 4 (some .int) ∈ lw_tbl := List.mem_append_right _ (List.mem_append_right _ (List.mem_append_right _ (List.mem_append_right _ (List.mem_append_left _ (List.mem_of_getElem? (i := 67) rfl)))))
theorem fg_mc_22 : Jvm.Cond.code yX4_remember cX4_remember 2 none ∈ lw_tbl := List.mem_append_right _ (List.mem_append_right _ (List.mem_append_right _ (List.mem_append_left _ (List.mem_of_getElem? (i := 156) rfl))))
theorem fg_mc_23 : Jvm.Cond.code yX4_giveBack cX4_giveBack 2 none ∈ lw_tbl := List.mem_append_right _ (List.mem_append_right _ (List.mem_append_right _ (List.mem_append_right _ (List.mem_append_left _ (List.mem_of_getElem? (i := 1) rfl)))))
theorem fg_mc_24 : Jvm.Cond.code yX4_forget cX4_forget 1 none ∈ lw_tbl := List.mem_append_right _ (List.mem_append_right _ (List.mem_append_left _ (List.mem_of_getElem? (i := 161) rfl)))
theorem fg_mc_25 : Jvm.Cond.code yX5_largestGroup cX5_largestGroup 3 (some .int) ∈ lw_tbl := List.mem_append_right _ (List.mem_append_right _ (List.mem_append_right _ (List.mem_append_left _ (List.mem_of_getElem? (i := 61) rfl))))
theorem fg_mc_26 : Jvm.Cond.code yX5_plan cX5_plan 3 none ∈ lw_tbl := List.mem_append_right _ (List.mem_append_right _ (List.mem_append_right _ (List.mem_append_right _ (List.mem_append_left _ (List.mem_of_getElem? (i := 22) rfl)))))
theorem fg_mc_27 : Jvm.Cond.code yX5_fewestOf cX5_fewestOf 6 (some .int) ∈ lw_tbl := List.mem_append_right _ (List.mem_append_right _ (List.mem_append_right _ (List.mem_append_right _ (List.mem_append_left _ (List.mem_of_getElem? (i := 26) rfl)))))
theorem fg_mc_28 : Jvm.Cond.code yX5_firstGroup cX5_firstGroup 3 (some .int) ∈ lw_tbl := List.mem_append_right _ (List.mem_append_right _ (List.mem_append_right _ (List.mem_append_right _ (List.mem_append_left _ (List.mem_of_getElem? (i := 33) rfl)))))
theorem fg_mc_29 : Jvm.Cond.code yX6_strike cX6_strike 1 none ∈ lw_tbl := List.mem_append_right _ (List.mem_append_right _ (List.mem_append_left _ (List.mem_of_getElem? (i := 109) rfl)))
theorem fg_mc_30 : Jvm.Cond.code yX6_stands cX6_stands 1 (some .boolean) ∈ lw_tbl := List.mem_append_right _ (List.mem_append_right _ (List.mem_append_left _ (List.mem_of_getElem? (i := 47) rfl)))
theorem fg_mc_31 : Jvm.Cond.code yX6_hasLine cX6_hasLine 2 (some .boolean) ∈ lw_tbl := List.mem_append_right _ (List.mem_append_right _ (List.mem_append_right _ (List.mem_append_left _ (List.mem_of_getElem? (i := 139) rfl))))
theorem fg_mc_32 : Jvm.Cond.code yX6_hasFlag cX6_hasFlag 2 (some .boolean) ∈ lw_tbl := List.mem_append_right _ (List.mem_append_right _ (List.mem_append_right _ (List.mem_append_left _ (List.mem_of_getElem? (i := 119) rfl))))
theorem fg_mc_33 : Jvm.Cond.code yX6_hasSignal cX6_hasSignal 2 (some .boolean) ∈ lw_tbl := List.mem_append_right _ (List.mem_append_right _ (List.mem_append_left _ (List.mem_of_getElem? (i := 209) rfl)))
theorem fg_mc_34 : Jvm.Cond.code yX6_hasAll cX6_hasAll 2 (some .boolean) ∈ lw_tbl := List.mem_append_right _ (List.mem_append_right _ (List.mem_append_right _ (List.mem_append_right _ (List.mem_append_left _ (List.mem_of_getElem? (i := 13) rfl)))))
theorem fg_mc_35 : Jvm.Cond.code yX6_allSignals cX6_allSignals 1 (some .int) ∈ lw_tbl := List.mem_append_right _ (List.mem_append_right _ (List.mem_append_right _ (List.mem_append_left _ (List.mem_of_getElem? (i := 46) rfl))))
theorem fg_mc_36 : Jvm.Cond.code yX6_allFlags cX6_allFlags 1 (some .int) ∈ lw_tbl := List.mem_append_right _ (List.mem_append_right _ (List.mem_append_left _ (List.mem_of_getElem? (i := 181) rfl)))
theorem fg_mc_37 : Jvm.Cond.code yX6_allSubstitutes cX6_allSubstitutes 1 (some .int) ∈ lw_tbl := List.mem_append_right _ (List.mem_append_right _ (List.mem_append_left _ (List.mem_of_getElem? (i := 193) rfl)))
theorem fg_mc_38 : Jvm.Cond.code yX6_addFlag cX6_addFlag 4 none ∈ lw_tbl := List.mem_append_right _ (List.mem_append_right _ (List.mem_append_left _ (List.mem_of_getElem? (i := 141) rfl)))
theorem fg_mc_39 : Jvm.Cond.code yX6_startSignal cX6_startSignal 2 none ∈ lw_tbl := List.mem_append_right _ (List.mem_append_right _ (List.mem_append_left _ (List.mem_of_getElem? (i := 149) rfl)))
theorem fg_mc_40 : Jvm.Cond.code yX6_addToSignal cX6_addToSignal 2 none ∈ lw_tbl := List.mem_append_right _ (List.mem_append_right _ (List.mem_append_left _ (List.mem_of_getElem? (i := 153) rfl)))
theorem fg_mc_41 : Jvm.Cond.code yX6_endSignal cX6_endSignal 1 none ∈ lw_tbl := List.mem_append_right _ (List.mem_append_right _ (List.mem_append_left _ (List.mem_of_getElem? (i := 157) rfl)))
theorem fg_mc_42 : Jvm.Cond.code yX6_flagAt cX6_flagAt 4 (some .int) ∈ lw_tbl := List.mem_append_right _ (List.mem_append_right _ (List.mem_append_left _ (List.mem_of_getElem? (i := 217) rfl)))
theorem fg_mc_43 : Jvm.Cond.code yX6_signalsWith cX6_signalsWith 5 (some .int) ∈ lw_tbl := List.mem_append_right _ (List.mem_append_right _ (List.mem_append_right _ (List.mem_append_left _ (List.mem_of_getElem? (i := 70) rfl))))
theorem fg_mc_44 : Jvm.Cond.code yX7_append cX7_append 2 (some .boolean) ∈ lw_tbl := List.mem_append_right _ (List.mem_append_right _ (List.mem_append_left _ (List.mem_of_getElem? (i := 96) rfl)))
theorem fg_mc_45 : Jvm.Cond.code yX7_parseInto cX7_parseInto 3 (some .int) ∈ lw_tbl := List.mem_append_right _ (List.mem_append_right _ (List.mem_append_left _ (List.mem_of_getElem? (i := 105) rfl)))
theorem fg_mc_46 : Jvm.Cond.code yX7_nextLetter cX7_nextLetter 1 (some .int) ∈ lw_tbl := List.mem_append_right _ (List.mem_append_right _ (List.mem_append_left _ (List.mem_of_getElem? (i := 113) rfl)))
theorem fg_mc_47 : Jvm.Cond.code yX7_blame cX7_blame 3 none ∈ lw_tbl := List.mem_append_right _ (List.mem_append_right _ (List.mem_append_left _ (List.mem_of_getElem? (i := 125) rfl)))
theorem fg_mc_48 : Jvm.Cond.code yX7_parseLines cX7_parseLines 4 none ∈ lw_tbl := List.mem_append_right _ (List.mem_append_right _ (List.mem_append_left _ (List.mem_of_getElem? (i := 117) rfl)))
theorem fg_mc_49 : Jvm.Cond.code yX7_parseClause cX7_parseClause 3 none ∈ lw_tbl := List.mem_append_right _ (List.mem_append_right _ (List.mem_append_left _ (List.mem_of_getElem? (i := 133) rfl)))
theorem fg_mc_50 : Jvm.Cond.code yX7_parseFlag cX7_parseFlag 5 none ∈ lw_tbl := List.mem_append_right _ (List.mem_append_right _ (List.mem_append_left _ (List.mem_of_getElem? (i := 137) rfl)))
theorem fg_mc_51 : Jvm.Cond.code yX7_parseSignal cX7_parseSignal 3 none ∈ lw_tbl := List.mem_append_right _ (List.mem_append_right _ (List.mem_append_left _ (List.mem_of_getElem? (i := 145) rfl)))
theorem fg_mc_52 : Jvm.Cond.code yX7_pass cX7_pass 2 none ∈ lw_tbl := List.mem_append_right _ (List.mem_append_right _ (List.mem_append_left _ (List.mem_of_getElem? (i := 121) rfl)))
theorem fg_mc_53 : Jvm.Cond.code yX7_parseNumber cX7_parseNumber 5 (some .int) ∈ lw_tbl := List.mem_append_right _ (List.mem_append_right _ (List.mem_append_left _ (List.mem_of_getElem? (i := 129) rfl)))
theorem fg_mc_54 : Jvm.Cond.code yX8_raiseAll cX8_raiseAll 6 none ∈ lw_tbl := List.mem_append_right _ (List.mem_append_right _ (List.mem_append_left _ (List.mem_of_getElem? (i := 237) rfl)))
theorem fg_mc_55 : Jvm.Cond.code yX8_see cX8_see 5 none ∈ lw_tbl := List.mem_append_right _ (List.mem_append_right _ (List.mem_append_right _ (List.mem_append_left _ (List.mem_of_getElem? (i := 5) rfl))))
theorem fg_mc_56 : Jvm.Cond.code yX8_sign cX8_sign 6 none ∈ lw_tbl := List.mem_append_right _ (List.mem_append_right _ (List.mem_append_right _ (List.mem_append_left _ (List.mem_of_getElem? (i := 19) rfl))))
theorem fg_mc_57 : Jvm.Cond.code yX8_lookOfPiece cX8_lookOfPiece 2 (some .int) ∈ lw_tbl := List.mem_append_right _ (List.mem_append_right _ (List.mem_append_right _ (List.mem_append_left _ (List.mem_of_getElem? (i := 24) rfl))))
theorem fg_mc_58 : Jvm.Cond.code yX8_likeOf cX8_likeOf 5 (some .int) ∈ lw_tbl := List.mem_append_right _ (List.mem_append_right _ (List.mem_append_right _ (List.mem_append_left _ (List.mem_of_getElem? (i := 93) rfl))))
theorem fg_mc_59 : Jvm.Cond.code yX8_clearOnes cX8_clearOnes 5 (some .int) ∈ lw_tbl := List.mem_append_right _ (List.mem_append_right _ (List.mem_append_right _ (List.mem_append_left _ (List.mem_of_getElem? (i := 28) rfl))))
theorem fg_mc_60 : Jvm.Cond.code yX9_feed cX9_feed 2 (some .int) ∈ lw_tbl := List.mem_append_right _ (List.mem_append_right _ (List.mem_append_left _ (List.mem_of_getElem? (i := 91) rfl)))
theorem fg_mc_61 : Jvm.Cond.code yX9_ship cX9_ship 4 (some .int) ∈ lw_tbl := List.mem_append_right _ (List.mem_append_right _ (List.mem_append_left _ (List.mem_of_getElem? (i := 101) rfl)))
theorem fg_mc_62 : Jvm.Cond.code yX9_fault cX9_fault 1 (some .int) ∈ lw_tbl := List.mem_append_right _ (List.mem_append_right _ (List.mem_append_left _ (List.mem_of_getElem? (i := 169) rfl)))
theorem fg_mc_63 : Jvm.Cond.code yX9_told cX9_told 2 (some .int) ∈ lw_tbl := List.mem_append_right _ (List.mem_append_right _ (List.mem_append_left _ (List.mem_of_getElem? (i := 173) rfl)))
theorem fg_mc_64 : Jvm.Cond.code yX9_flag cX9_flag 3 (some .int) ∈ lw_tbl := List.mem_append_right _ (List.mem_append_right _ (List.mem_append_right _ (List.mem_append_left _ (List.mem_of_getElem? (i := 115) rfl))))
theorem fg_mc_65 : Jvm.Cond.code yX9_signal cX9_signal 3 (some .int) ∈ lw_tbl := List.mem_append_right _ (List.mem_append_right _ (List.mem_append_right _ (List.mem_append_left _ (List.mem_of_getElem? (i := 125) rfl))))
theorem fg_mc_66 : Jvm.Cond.code yX9_line cX9_line 3 (some .int) ∈ lw_tbl := List.mem_append_right _ (List.mem_append_right _ (List.mem_append_right _ (List.mem_append_left _ (List.mem_of_getElem? (i := 135) rfl))))
theorem fg_mc_67 : Jvm.Cond.code yX9_needs cX9_needs 3 (some .int) ∈ lw_tbl := List.mem_append_right _ (List.mem_append_right _ (List.mem_append_right _ (List.mem_append_left _ (List.mem_of_getElem? (i := 143) rfl))))
theorem fg_mc_68 : Jvm.Cond.code yX9_hoist cX9_hoist 3 (some .int) ∈ lw_tbl := List.mem_append_right _ (List.mem_append_right _ (List.mem_append_right _ (List.mem_append_left _ (List.mem_of_getElem? (i := 147) rfl))))
theorem fg_mc_69 : Jvm.Cond.code yX9_haul cX9_haul 2 (some .int) ∈ lw_tbl := List.mem_append_right _ (List.mem_append_right _ (List.mem_append_right _ (List.mem_append_left _ (List.mem_of_getElem? (i := 171) rfl))))
theorem fg_mc_70 : Jvm.Cond.code yX9_day cX9_day 4 (some .int) ∈ lw_tbl := List.mem_append_right _ (List.mem_append_right _ (List.mem_append_right _ (List.mem_append_left _ (List.mem_of_getElem? (i := 179) rfl))))
theorem fg_mc_71 : Jvm.Cond.code yX9_sew cX9_sew 3 (some .int) ∈ lw_tbl := List.mem_append_right _ (List.mem_append_right _ (List.mem_append_right _ (List.mem_append_left _ (List.mem_of_getElem? (i := 193) rfl))))
theorem fg_mc_72 : Jvm.Cond.code yX9_anew cX9_anew 5 (some .int) ∈ lw_tbl := List.mem_append_right _ (List.mem_append_right _ (List.mem_append_right _ (List.mem_append_left _ (List.mem_of_getElem? (i := 205) rfl))))
theorem fg_mc_73 : Jvm.Cond.code yX9_weather cX9_weather 4 (some .int) ∈ lw_tbl := List.mem_append_right _ (List.mem_append_right _ (List.mem_append_right _ (List.mem_append_left _ (List.mem_of_getElem? (i := 209) rfl))))
theorem fg_mc_74 : Jvm.Cond.code yX9_drift cX9_drift 4 (some .int) ∈ lw_tbl := List.mem_append_right _ (List.mem_append_right _ (List.mem_append_right _ (List.mem_append_left _ (List.mem_of_getElem? (i := 213) rfl))))
theorem fg_mc_75 : Jvm.Cond.code yX9_undo cX9_undo 1 (some .int) ∈ lw_tbl := List.mem_append_right _ (List.mem_append_right _ (List.mem_append_right _ (List.mem_append_left _ (List.mem_of_getElem? (i := 237) rfl))))
theorem fg_mc_76 : Jvm.Cond.code yX9_look cX9_look 4 (some .int) ∈ lw_tbl := List.mem_append_right _ (List.mem_append_right _ (List.mem_append_right _ (List.mem_append_right _ (List.mem_append_left _ (List.mem_of_getElem? (i := 5) rfl)))))
theorem fg_mc_77 : Jvm.Cond.code yX9_together cX9_together 2 (some .int) ∈ lw_tbl := List.mem_append_right _ (List.mem_append_right _ (List.mem_append_right _ (List.mem_append_right _ (List.mem_append_left _ (List.mem_of_getElem? (i := 9) rfl)))))
theorem fg_mc_78 : Jvm.Cond.code yX9_turns cX9_turns 3 (some .int) ∈ lw_tbl := List.mem_append_right _ (List.mem_append_right _ (List.mem_append_right _ (List.mem_append_right _ (List.mem_append_left _ (List.mem_of_getElem? (i := 18) rfl)))))
theorem fg_mc_79 : Jvm.Cond.code yX9_clear cX9_clear 6 (some .int) ∈ lw_tbl := List.mem_append_right _ (List.mem_append_right _ (List.mem_append_right _ (List.mem_append_right _ (List.mem_append_left _ (List.mem_of_getElem? (i := 37) rfl)))))
theorem fg_mc_80 : Jvm.Cond.code yX9_read cX9_read 3 (some .int) ∈ lw_tbl := List.mem_append_right _ (List.mem_append_right _ (List.mem_append_right _ (List.mem_append_right _ (List.mem_append_left _ (List.mem_of_getElem? (i := 43) rfl)))))
theorem fg_mc_81 : Jvm.Cond.code yX9_write cX9_write 3 (some .int) ∈ lw_tbl := List.mem_append_right _ (List.mem_append_right _ (List.mem_append_right _ (List.mem_append_right _ (List.mem_append_left _ (List.mem_of_getElem? (i := 51) rfl)))))
theorem fg_mc_82 : Jvm.Cond.code yX9_tear cX9_tear 2 (some .int) ∈ lw_tbl := List.mem_append_right _ (List.mem_append_right _ (List.mem_append_right _ (List.mem_append_right _ (List.mem_append_left _ (List.mem_of_getElem? (i := 59) rfl)))))
theorem fg_mc_83 : Jvm.Cond.code yX9_judge cX9_judge 1 (some .int) ∈ lw_tbl := List.mem_append_right _ (List.mem_append_right _ (List.mem_append_right _ (List.mem_append_right _ (List.mem_append_left _ (List.mem_of_getElem? (i := 63) rfl)))))
theorem fg_mc_84 : Jvm.Cond.code yX9_seed cX9_seed 3 (some .int) ∈ lw_tbl := List.mem_append_right _ (List.mem_append_right _ (List.mem_append_right _ (List.mem_append_right _ (List.mem_append_left _ (List.mem_of_getElem? (i := 71) rfl)))))
theorem fg_mc_85 : Jvm.Cond.code yX9_keep cX9_keep 2 (some .int) ∈ lw_tbl := List.mem_append_right _ (List.mem_append_right _ (List.mem_append_right _ (List.mem_append_right _ (List.mem_append_left _ (List.mem_of_getElem? (i := 75) rfl)))))
theorem fg_mc_86 : Jvm.Cond.code yX9_goBack cX9_goBack 2 (some .int) ∈ lw_tbl := List.mem_append_right _ (List.mem_append_right _ (List.mem_append_right _ (List.mem_append_right _ (List.mem_append_left _ (List.mem_of_getElem? (i := 80) rfl)))))
theorem fg_mc_87 : Jvm.Cond.code yX9_has cX9_has 2 (some .boolean) ∈ lw_tbl := List.mem_append_right _ (List.mem_append_right _ (List.mem_append_left _ (List.mem_of_getElem? (i := 220) rfl)))
theorem fg_mc_88 : Jvm.Cond.code yX9_canHoist cX9_canHoist 3 (some .boolean) ∈ lw_tbl := List.mem_append_right _ (List.mem_append_right _ (List.mem_append_right _ (List.mem_append_left _ (List.mem_of_getElem? (i := 151) rfl))))
theorem fg_mc_89 : Jvm.Cond.code yX9_refusedDays cX9_refusedDays 2 (some .int) ∈ lw_tbl := List.mem_append_right _ (List.mem_append_right _ (List.mem_append_right _ (List.mem_append_left _ (List.mem_of_getElem? (i := 183) rfl))))
theorem fg_mc_90 : Jvm.Cond.code yX9_draw cX9_draw 2 (some .int) ∈ lw_tbl := List.mem_append_right _ (List.mem_append_right _ (List.mem_append_right _ (List.mem_append_left _ (List.mem_of_getElem? (i := 221) rfl))))
theorem fg_mc_91 : Jvm.Cond.code yX9_actByDraws cX9_actByDraws 3 none ∈ lw_tbl := List.mem_append_right _ (List.mem_append_right _ (List.mem_append_right _ (List.mem_append_left _ (List.mem_of_getElem? (i := 217) rfl))))
theorem fg_mc_92 : Jvm.Cond.code yX9_hoistDrawn cX9_hoistDrawn 3 none ∈ lw_tbl := List.mem_append_right _ (List.mem_append_right _ (List.mem_append_right _ (List.mem_append_left _ (List.mem_of_getElem? (i := 229) rfl))))
theorem fg_mc_93 : Jvm.Cond.code yX9_sewDrawn cX9_sewDrawn 2 none ∈ lw_tbl := List.mem_append_right _ (List.mem_append_right _ (List.mem_append_right _ (List.mem_append_left _ (List.mem_of_getElem? (i := 233) rfl))))
theorem fg_mc_94 : Jvm.Cond.code yX9_readySignals cX9_readySignals 3 (some .int) ∈ lw_tbl := List.mem_append_right _ (List.mem_append_right _ (List.mem_append_left _ (List.mem_of_getElem? (i := 185) rfl)))
theorem fg_mc_95 : Jvm.Cond.code yX9_watchIn cX9_watchIn 2 none ∈ lw_tbl := List.mem_append_right _ (List.mem_append_right _ (List.mem_append_left _ (List.mem_of_getElem? (i := 233) rfl)))
theorem fg_mc_96 : Jvm.Cond.code yX9_clearNow cX9_clearNow 1 (some .int) ∈ lw_tbl := List.mem_append_right _ (List.mem_append_right _ (List.mem_append_left _ (List.mem_of_getElem? (i := 225) rfl)))
theorem fg_mc_97 : Jvm.Cond.code yX9_clearest cX9_clearest 5 (some .int) ∈ lw_tbl := List.mem_append_right _ (List.mem_append_right _ (List.mem_append_right _ (List.mem_append_left _ (List.mem_of_getElem? (i := 32) rfl))))
theorem fg_mc_98 : Jvm.Cond.code yX9_flyTogether cX9_flyTogether 3 (some .boolean) ∈ lw_tbl := List.mem_append_right _ (List.mem_append_right _ (List.mem_append_right _ (List.mem_append_left _ (List.mem_of_getElem? (i := 54) rfl))))
theorem fg_mc_99 : Jvm.Cond.code yX9_groupWithin cX9_groupWithin 3 none ∈ lw_tbl := List.mem_append_right _ (List.mem_append_right _ (List.mem_append_right _ (List.mem_append_left _ (List.mem_of_getElem? (i := 50) rfl))))
theorem fg_mc_100 : Jvm.Cond.code yX9_mostTogether cX9_mostTogether 1 (some .int) ∈ lw_tbl := List.mem_append_right _ (List.mem_append_right _ (List.mem_append_right _ (List.mem_append_left _ (List.mem_of_getElem? (i := 42) rfl))))
theorem fg_mc_101 : Jvm.Cond.code yX9_neededFlag cX9_neededFlag 5 (some .int) ∈ lw_tbl := List.mem_append_right _ (List.mem_append_right _ (List.mem_append_right _ (List.mem_append_left _ (List.mem_of_getElem? (i := 66) rfl))))
theorem fg_mc_102 : Jvm.Cond.code yX9_betterFlag cX9_betterFlag 7 (some .int) ∈ lw_tbl := List.mem_append_right _ (List.mem_append_right _ (List.mem_append_right _ (List.mem_append_left _ (List.mem_of_getElem? (i := 75) rfl))))
theorem fg_mc_103 : Jvm.Cond.code yX9_countClearWith cX9_countClearWith 4 (some .int) ∈ lw_tbl := List.mem_append_right _ (List.mem_append_right _ (List.mem_append_right _ (List.mem_append_left _ (List.mem_of_getElem? (i := 79) rfl))))
theorem fg_mc_104 : Jvm.Cond.code yX9_possibleWeathers cX9_possibleWeathers 3 (some .int) ∈ lw_tbl := List.mem_append_right _ (List.mem_append_right _ (List.mem_append_right _ (List.mem_append_left _ (List.mem_of_getElem? (i := 85) rfl))))
theorem fg_mc_105 : Jvm.Cond.code yX9_askedSignal cX9_askedSignal 6 (some .int) ∈ lw_tbl := List.mem_append_right _ (List.mem_append_right _ (List.mem_append_right _ (List.mem_append_left _ (List.mem_of_getElem? (i := 99) rfl))))
theorem fg_mc_106 : Jvm.Cond.code yX9_fillLikes cX9_fillLikes 3 none ∈ lw_tbl := List.mem_append_right _ (List.mem_append_right _ (List.mem_append_right _ (List.mem_append_left _ (List.mem_of_getElem? (i := 103) rfl))))
theorem fg_mc_107 : Jvm.Cond.code yX9_greatestPart cX9_greatestPart 7 (some .int) ∈ lw_tbl := List.mem_append_right _ (List.mem_append_right _ (List.mem_append_right _ (List.mem_append_left _ (List.mem_of_getElem? (i := 108) rfl))))
theorem fg_mc_108 : Jvm.Cond.code yX9_seenPattern cX9_seenPattern 8 (some .int) ∈ lw_tbl := List.mem_append_right _ (List.mem_append_right _ (List.mem_append_right _ (List.mem_append_left _ (List.mem_of_getElem? (i := 12) rfl))))
theorem fg_mc_109 : Jvm.Cond.code yX9_seenColour cX9_seenColour 2 (some .int) ∈ lw_tbl := List.mem_append_right _ (List.mem_append_right _ (List.mem_append_right _ (List.mem_append_left _ (List.mem_of_getElem? (i := 15) rfl))))
theorem fg_mc_110 : Jvm.Cond.code yX10_in cX10_in 6 (some .boolean) ∈ lw_tbl := List.mem_append_right _ (List.mem_append_right _ (List.mem_append_right _ (List.mem_append_right _ (List.mem_append_left _ (List.mem_of_getElem? (i := 206) rfl)))))
theorem fg_mc_111 : Jvm.Cond.code yX10_has cX10_has 2 (some .boolean) ∈ lw_tbl := List.mem_append_right _ (List.mem_append_right _ (List.mem_append_right _ (List.mem_append_right _ (List.mem_append_right _ (List.mem_append_left _ (List.mem_of_getElem? (i := 43) rfl))))))
theorem fg_mc_112 : Jvm.Cond.code yX10_bits cX10_bits 3 (some .int) ∈ lw_tbl := List.mem_append_right _ (List.mem_append_right _ (List.mem_append_right _ (List.mem_append_right _ (List.mem_append_right _ (List.mem_append_left _ (List.mem_of_getElem? (i := 40) rfl))))))
theorem fg_mc_113 : Jvm.Cond.code yX10_isLine cX10_isLine 2 (some .boolean) ∈ lw_tbl := List.mem_append_right _ (List.mem_append_right _ (List.mem_append_right _ (List.mem_append_right _ (List.mem_append_right _ (List.mem_append_left _ (List.mem_of_getElem? (i := 184) rfl))))))
theorem fg_mc_114 : Jvm.Cond.code yX10_isFlag cX10_isFlag 2 (some .boolean) ∈ lw_tbl := List.mem_append_right _ (List.mem_append_right _ (List.mem_append_right _ (List.mem_append_right _ (List.mem_append_right _ (List.mem_append_left _ (List.mem_of_getElem? (i := 158) rfl))))))
theorem fg_mc_115 : Jvm.Cond.code yX10_isSignal cX10_isSignal 2 (some .boolean) ∈ lw_tbl := List.mem_append_right _ (List.mem_append_right _ (List.mem_append_right _ (List.mem_append_right _ (List.mem_append_right _ (List.mem_append_left _ (List.mem_of_getElem? (i := 166) rfl))))))
theorem fg_mc_116 : Jvm.Cond.code yX10_feed cX10_feed 2 (some .int) ∈ lw_tbl := List.mem_append_right _ (List.mem_append_right _ (List.mem_append_right _ (List.mem_append_right _ (List.mem_append_left _ (List.mem_of_getElem? (i := 202) rfl)))))
theorem fg_mc_117 : Jvm.Cond.code yX10_here cX10_here 1 (some .int) ∈ lw_tbl := List.mem_append_right _ (List.mem_append_right _ (List.mem_append_right _ (List.mem_append_right _ (List.mem_append_left _ (List.mem_of_getElem? (i := 216) rfl)))))
theorem fg_mc_118 : Jvm.Cond.code yX10_fails cX10_fails 3 (some .int) ∈ lw_tbl := List.mem_append_right _ (List.mem_append_right _ (List.mem_append_right _ (List.mem_append_right _ (List.mem_append_left _ (List.mem_of_getElem? (i := 224) rfl)))))
theorem fg_mc_119 : Jvm.Cond.code yX10_takeNumber cX10_takeNumber 5 (some .int) ∈ lw_tbl := List.mem_append_right _ (List.mem_append_right _ (List.mem_append_right _ (List.mem_append_right _ (List.mem_append_left _ (List.mem_of_getElem? (i := 232) rfl)))))
theorem fg_mc_120 : Jvm.Cond.code yX10_takeLines cX10_takeLines 2 (some .int) ∈ lw_tbl := List.mem_append_right _ (List.mem_append_right _ (List.mem_append_right _ (List.mem_append_right _ (List.mem_append_left _ (List.mem_of_getElem? (i := 228) rfl)))))
theorem fg_mc_121 : Jvm.Cond.code yX10_takeFlag cX10_takeFlag 4 (some .int) ∈ lw_tbl := List.mem_append_right _ (List.mem_append_right _ (List.mem_append_right _ (List.mem_append_right _ (List.mem_append_left _ (List.mem_of_getElem? (i := 238) rfl)))))
theorem fg_mc_122 : Jvm.Cond.code yX10_takeSignal cX10_takeSignal 3 (some .int) ∈ lw_tbl := List.mem_append_right _ (List.mem_append_right _ (List.mem_append_right _ (List.mem_append_right _ (List.mem_append_right _ (List.mem_append_left _ (List.mem_of_getElem? (i := 2) rfl))))))
theorem fg_mc_123 : Jvm.Cond.code yX10_takeClause cX10_takeClause 5 (some .int) ∈ lw_tbl := List.mem_append_right _ (List.mem_append_right _ (List.mem_append_right _ (List.mem_append_right _ (List.mem_append_left _ (List.mem_of_getElem? (i := 220) rfl)))))
theorem fg_mc_124 : Jvm.Cond.code yX10_copyRow cX10_copyRow 4 none ∈ lw_tbl := List.mem_append_right _ (List.mem_append_right _ (List.mem_append_right _ (List.mem_append_right _ (List.mem_append_right _ (List.mem_append_left _ (List.mem_of_getElem? (i := 5) rfl))))))
theorem fg_mc_125 : Jvm.Cond.code yX10_beginAll cX10_beginAll 2 none ∈ lw_tbl := List.mem_append_right _ (List.mem_append_right _ (List.mem_append_right _ (List.mem_append_right _ (List.mem_append_right _ (List.mem_append_left _ (List.mem_of_getElem? (i := 9) rfl))))))
theorem fg_mc_126 : Jvm.Cond.code yX10_ship cX10_ship 2 (some .int) ∈ lw_tbl := List.mem_append_right _ (List.mem_append_right _ (List.mem_append_right _ (List.mem_append_right _ (List.mem_append_left _ (List.mem_of_getElem? (i := 212) rfl)))))
theorem fg_mc_127 : Jvm.Cond.code yX10_fault cX10_fault 1 (some .int) ∈ lw_tbl := List.mem_append_right _ (List.mem_append_right _ (List.mem_append_right _ (List.mem_append_right _ (List.mem_append_right _ (List.mem_append_left _ (List.mem_of_getElem? (i := 16) rfl))))))
theorem fg_mc_128 : Jvm.Cond.code yX10_freeFlags cX10_freeFlags 3 (some .int) ∈ lw_tbl := List.mem_append_right _ (List.mem_append_right _ (List.mem_append_right _ (List.mem_append_right _ (List.mem_append_right _ (List.mem_append_left _ (List.mem_of_getElem? (i := 80) rfl))))))
theorem fg_mc_129 : Jvm.Cond.code yX10_tornFlags cX10_tornFlags 3 (some .int) ∈ lw_tbl := List.mem_append_right _ (List.mem_append_right _ (List.mem_append_right _ (List.mem_append_right _ (List.mem_append_right _ (List.mem_append_left _ (List.mem_of_getElem? (i := 33) rfl))))))
theorem fg_mc_130 : Jvm.Cond.code yX10_freeSubs cX10_freeSubs 3 (some .int) ∈ lw_tbl := List.mem_append_right _ (List.mem_append_right _ (List.mem_append_right _ (List.mem_append_right _ (List.mem_append_right _ (List.mem_append_left _ (List.mem_of_getElem? (i := 88) rfl))))))
theorem fg_mc_131 : Jvm.Cond.code yX10_allSubs cX10_allSubs 3 (some .int) ∈ lw_tbl := List.mem_append_right _ (List.mem_append_right _ (List.mem_append_right _ (List.mem_append_right _ (List.mem_append_right _ (List.mem_append_left _ (List.mem_of_getElem? (i := 37) rfl))))))
theorem fg_mc_132 : Jvm.Cond.code yX10_isUsed cX10_isUsed 5 (some .boolean) ∈ lw_tbl := List.mem_append_right _ (List.mem_append_right _ (List.mem_append_right _ (List.mem_append_right _ (List.mem_append_right _ (List.mem_append_left _ (List.mem_of_getElem? (i := 55) rfl))))))
theorem fg_mc_133 : Jvm.Cond.code yX10_itemFor cX10_itemFor 7 (some .int) ∈ lw_tbl := List.mem_append_right _ (List.mem_append_right _ (List.mem_append_right _ (List.mem_append_right _ (List.mem_append_right _ (List.mem_append_left _ (List.mem_of_getElem? (i := 51) rfl))))))
theorem fg_mc_134 : Jvm.Cond.code yX10_goesUp cX10_goesUp 5 (some .boolean) ∈ lw_tbl := List.mem_append_right _ (List.mem_append_right _ (List.mem_append_right _ (List.mem_append_right _ (List.mem_append_right _ (List.mem_append_left _ (List.mem_of_getElem? (i := 47) rfl))))))
theorem fg_mc_135 : Jvm.Cond.code yX10_canGoUp cX10_canGoUp 3 (some .int) ∈ lw_tbl := List.mem_append_right _ (List.mem_append_right _ (List.mem_append_right _ (List.mem_append_right _ (List.mem_append_right _ (List.mem_append_left _ (List.mem_of_getElem? (i := 84) rfl))))))
theorem fg_mc_136 : Jvm.Cond.code yX10_seenColour cX10_seenColour 2 (some .int) ∈ lw_tbl := List.mem_append_right _ (List.mem_append_right _ (List.mem_append_right _ (List.mem_append_right _ (List.mem_append_right _ (List.mem_append_left _ (List.mem_of_getElem? (i := 106) rfl))))))
theorem fg_mc_137 : Jvm.Cond.code yX10_lookOf cX10_lookOf 7 (some .int) ∈ lw_tbl := List.mem_append_right _ (List.mem_append_right _ (List.mem_append_right _ (List.mem_append_right _ (List.mem_append_right _ (List.mem_append_left _ (List.mem_of_getElem? (i := 103) rfl))))))
theorem fg_mc_138 : Jvm.Cond.code yX10_layLooks cX10_layLooks 6 none ∈ lw_tbl := List.mem_append_right _ (List.mem_append_right _ (List.mem_append_right _ (List.mem_append_right _ (List.mem_append_right _ (List.mem_append_left _ (List.mem_of_getElem? (i := 100) rfl))))))
theorem fg_mc_139 : Jvm.Cond.code yX10_isLike cX10_isLike 5 (some .boolean) ∈ lw_tbl := List.mem_append_right _ (List.mem_append_right _ (List.mem_append_right _ (List.mem_append_right _ (List.mem_append_right _ (List.mem_append_left _ (List.mem_of_getElem? (i := 114) rfl))))))
theorem fg_mc_140 : Jvm.Cond.code yX10_likeOf cX10_likeOf 4 (some .int) ∈ lw_tbl := List.mem_append_right _ (List.mem_append_right _ (List.mem_append_right _ (List.mem_append_right _ (List.mem_append_right _ (List.mem_append_left _ (List.mem_of_getElem? (i := 110) rfl))))))
theorem fg_mc_141 : Jvm.Cond.code yX10_clearIn cX10_clearIn 5 (some .int) ∈ lw_tbl := List.mem_append_right _ (List.mem_append_right _ (List.mem_append_right _ (List.mem_append_right _ (List.mem_append_right _ (List.mem_append_left _ (List.mem_of_getElem? (i := 96) rfl))))))
theorem fg_mc_142 : Jvm.Cond.code yX10_clearNow cX10_clearNow 1 (some .int) ∈ lw_tbl := List.mem_append_right _ (List.mem_append_right _ (List.mem_append_right _ (List.mem_append_right _ (List.mem_append_right _ (List.mem_append_left _ (List.mem_of_getElem? (i := 92) rfl))))))
theorem fg_mc_143 : Jvm.Cond.code yX10_clearest cX10_clearest 5 (some .int) ∈ lw_tbl := List.mem_append_right _ (List.mem_append_right _ (List.mem_append_right _ (List.mem_append_right _ (List.mem_append_right _ (List.mem_append_left _ (List.mem_of_getElem? (i := 118) rfl))))))
theorem fg_mc_144 : Jvm.Cond.code yX10_isToldIn cX10_isToldIn 5 (some .boolean) ∈ lw_tbl := List.mem_append_right _ (List.mem_append_right _ (List.mem_append_right _ (List.mem_append_right _ (List.mem_append_right _ (List.mem_append_left _ (List.mem_of_getElem? (i := 130) rfl))))))
theorem fg_mc_145 : Jvm.Cond.code yX10_needed cX10_needed 6 (some .int) ∈ lw_tbl := List.mem_append_right _ (List.mem_append_right _ (List.mem_append_right _ (List.mem_append_right _ (List.mem_append_right _ (List.mem_append_left _ (List.mem_of_getElem? (i := 126) rfl))))))
theorem fg_mc_146 : Jvm.Cond.code yX10_better cX10_better 8 (some .int) ∈ lw_tbl := List.mem_append_right _ (List.mem_append_right _ (List.mem_append_right _ (List.mem_append_right _ (List.mem_append_right _ (List.mem_append_left _ (List.mem_of_getElem? (i := 134) rfl))))))
theorem fg_mc_147 : Jvm.Cond.code yX10_rowFlags cX10_rowFlags 3 (some .int) ∈ lw_tbl := List.mem_append_right _ (List.mem_append_right _ (List.mem_append_right _ (List.mem_append_right _ (List.mem_append_right _ (List.mem_append_left _ (List.mem_of_getElem? (i := 59) rfl))))))
theorem fg_mc_148 : Jvm.Cond.code yX10_rowSubs cX10_rowSubs 3 (some .int) ∈ lw_tbl := List.mem_append_right _ (List.mem_append_right _ (List.mem_append_right _ (List.mem_append_right _ (List.mem_append_right _ (List.mem_append_left _ (List.mem_of_getElem? (i := 63) rfl))))))
theorem fg_mc_149 : Jvm.Cond.code yX10_fly cX10_fly 6 (some .boolean) ∈ lw_tbl := List.mem_append_right _ (List.mem_append_right _ (List.mem_append_right _ (List.mem_append_right _ (List.mem_append_right _ (List.mem_append_left _ (List.mem_of_getElem? (i := 29) rfl))))))
theorem fg_mc_150 : Jvm.Cond.code yX10_mostTogether cX10_mostTogether 3 (some .int) ∈ lw_tbl := List.mem_append_right _ (List.mem_append_right _ (List.mem_append_right _ (List.mem_append_right _ (List.mem_append_right _ (List.mem_append_left _ (List.mem_of_getElem? (i := 122) rfl))))))
theorem fg_mc_151 : Jvm.Cond.code yX10_areSignals cX10_areSignals 2 (some .boolean) ∈ lw_tbl := List.mem_append_right _ (List.mem_append_right _ (List.mem_append_right _ (List.mem_append_right _ (List.mem_append_right _ (List.mem_append_left _ (List.mem_of_getElem? (i := 24) rfl))))))
theorem fg_mc_152 : Jvm.Cond.code yX10_together cX10_together 2 (some .int) ∈ lw_tbl := List.mem_append_right _ (List.mem_append_right _ (List.mem_append_right _ (List.mem_append_right _ (List.mem_append_right _ (List.mem_append_left _ (List.mem_of_getElem? (i := 20) rfl))))))
theorem fg_mc_153 : Jvm.Cond.code yX10_findTurns cX10_findTurns 6 none ∈ lw_tbl := List.mem_append_right _ (List.mem_append_right _ (List.mem_append_right _ (List.mem_append_right _ (List.mem_append_right _ (List.mem_append_left _ (List.mem_of_getElem? (i := 71) rfl))))))
theorem fg_mc_154 : Jvm.Cond.code yX10_turns cX10_turns 5 (some .int) ∈ lw_tbl := List.mem_append_right _ (List.mem_append_right _ (List.mem_append_right _ (List.mem_append_right _ (List.mem_append_right _ (List.mem_append_left _ (List.mem_of_getElem? (i := 67) rfl))))))
theorem fg_mc_155 : Jvm.Cond.code yX10_weathers cX10_weathers 5 (some .int) ∈ lw_tbl := List.mem_append_right _ (List.mem_append_right _ (List.mem_append_right _ (List.mem_append_right _ (List.mem_append_right _ (List.mem_append_left _ (List.mem_of_getElem? (i := 138) rfl))))))
theorem fg_mc_156 : Jvm.Cond.code yX10_layLikes cX10_layLikes 3 none ∈ lw_tbl := List.mem_append_right _ (List.mem_append_right _ (List.mem_append_right _ (List.mem_append_right _ (List.mem_append_right _ (List.mem_append_left _ (List.mem_of_getElem? (i := 146) rfl))))))
theorem fg_mc_157 : Jvm.Cond.code yX10_greatestPart cX10_greatestPart 7 (some .int) ∈ lw_tbl := List.mem_append_right _ (List.mem_append_right _ (List.mem_append_right _ (List.mem_append_right _ (List.mem_append_right _ (List.mem_append_left _ (List.mem_of_getElem? (i := 150) rfl))))))
theorem fg_mc_158 : Jvm.Cond.code yX10_askNext cX10_askNext 6 (some .int) ∈ lw_tbl := List.mem_append_right _ (List.mem_append_right _ (List.mem_append_right _ (List.mem_append_right _ (List.mem_append_right _ (List.mem_append_left _ (List.mem_of_getElem? (i := 142) rfl))))))
theorem fg_mc_159 : Jvm.Cond.code yX10_told cX10_told 2 (some .int) ∈ lw_tbl := List.mem_append_right _ (List.mem_append_right _ (List.mem_append_right _ (List.mem_append_right _ (List.mem_append_right _ (List.mem_append_left _ (List.mem_of_getElem? (i := 76) rfl))))))
theorem fg_mc_160 : Jvm.Cond.code yX10_flag cX10_flag 3 (some .int) ∈ lw_tbl := List.mem_append_right _ (List.mem_append_right _ (List.mem_append_right _ (List.mem_append_right _ (List.mem_append_right _ (List.mem_append_left _ (List.mem_of_getElem? (i := 154) rfl))))))
theorem fg_mc_161 : Jvm.Cond.code yX10_lineOf cX10_lineOf 4 (some .int) ∈ lw_tbl := List.mem_append_right _ (List.mem_append_right _ (List.mem_append_right _ (List.mem_append_right _ (List.mem_append_right _ (List.mem_append_left _ (List.mem_of_getElem? (i := 176) rfl))))))
theorem fg_mc_162 : Jvm.Cond.code yX10_likeNow cX10_likeNow 2 (some .int) ∈ lw_tbl := List.mem_append_right _ (List.mem_append_right _ (List.mem_append_right _ (List.mem_append_right _ (List.mem_append_right _ (List.mem_append_left _ (List.mem_of_getElem? (i := 172) rfl))))))
theorem fg_mc_163 : Jvm.Cond.code yX10_signal cX10_signal 3 (some .int) ∈ lw_tbl := List.mem_append_right _ (List.mem_append_right _ (List.mem_append_right _ (List.mem_append_right _ (List.mem_append_right _ (List.mem_append_left _ (List.mem_of_getElem? (i := 162) rfl))))))
theorem fg_mc_164 : Jvm.Cond.code yX10_line cX10_line 3 (some .int) ∈ lw_tbl := List.mem_append_right _ (List.mem_append_right _ (List.mem_append_right _ (List.mem_append_right _ (List.mem_append_right _ (List.mem_append_left _ (List.mem_of_getElem? (i := 180) rfl))))))
theorem fg_mc_165 : Jvm.Cond.code yX10_needs cX10_needs 3 (some .int) ∈ lw_tbl := List.mem_append_right _ (List.mem_append_right _ (List.mem_append_right _ (List.mem_append_right _ (List.mem_append_right _ (List.mem_append_left _ (List.mem_of_getElem? (i := 188) rfl))))))
theorem fg_mc_166 : Jvm.Cond.code yX10_remember cX10_remember 2 none ∈ lw_tbl := List.mem_append_right _ (List.mem_append_right _ (List.mem_append_right _ (List.mem_append_right _ (List.mem_append_right _ (List.mem_append_left _ (List.mem_of_getElem? (i := 201) rfl))))))
theorem fg_mc_167 : Jvm.Cond.code yX10_canHoist cX10_canHoist 3 (some .boolean) ∈ lw_tbl := List.mem_append_right _ (List.mem_append_right _ (List.mem_append_right _ (List.mem_append_right _ (List.mem_append_right _ (List.mem_append_left _ (List.mem_of_getElem? (i := 196) rfl))))))
theorem fg_mc_168 : Jvm.Cond.code yX10_hoistRow cX10_hoistRow 5 (some .int) ∈ lw_tbl := List.mem_append_right _ (List.mem_append_right _ (List.mem_append_right _ (List.mem_append_right _ (List.mem_append_right _ (List.mem_append_left _ (List.mem_of_getElem? (i := 205) rfl))))))
theorem fg_mc_169 : Jvm.Cond.code yX10_hoist cX10_hoist 3 (some .int) ∈ lw_tbl := List.mem_append_right _ (List.mem_append_right _ (List.mem_append_right _ (List.mem_append_right _ (List.mem_append_right _ (List.mem_append_left _ (List.mem_of_getElem? (i := 192) rfl))))))
theorem fg_mc_170 : Jvm.Cond.code yX10_haulNow cX10_haulNow 4 (some .int) ∈ lw_tbl := List.mem_append_right _ (List.mem_append_right _ (List.mem_append_right _ (List.mem_append_right _ (List.mem_append_right _ (List.mem_append_left _ (List.mem_of_getElem? (i := 213) rfl))))))
theorem fg_mc_171 : Jvm.Cond.code yX10_haul cX10_haul 2 (some .int) ∈ lw_tbl := List.mem_append_right _ (List.mem_append_right _ (List.mem_append_right _ (List.mem_append_right _ (List.mem_append_right _ (List.mem_append_left _ (List.mem_of_getElem? (i := 209) rfl))))))
theorem fg_mc_172 : Jvm.Cond.code yX10_pass cX10_pass 3 none ∈ lw_tbl := List.mem_append_right _ (List.mem_append_right _ (List.mem_append_right _ (List.mem_append_right _ (List.mem_append_right _ (List.mem_append_left _ (List.mem_of_getElem? (i := 226) rfl))))))
theorem fg_mc_173 : Jvm.Cond.code yX10_daysRefused cX10_daysRefused 2 (some .int) ∈ lw_tbl := List.mem_append_right _ (List.mem_append_right _ (List.mem_append_right _ (List.mem_append_right _ (List.mem_append_right _ (List.mem_append_left _ (List.mem_of_getElem? (i := 221) rfl))))))
theorem fg_mc_174 : Jvm.Cond.code yX10_day cX10_day 4 (some .int) ∈ lw_tbl := List.mem_append_right _ (List.mem_append_right _ (List.mem_append_right _ (List.mem_append_right _ (List.mem_append_right _ (List.mem_append_left _ (List.mem_of_getElem? (i := 217) rfl))))))
theorem fg_mc_175 : Jvm.Cond.code yX10_canSew cX10_canSew 2 (some .boolean) ∈ lw_tbl := List.mem_append_right _ (List.mem_append_right _ (List.mem_append_right _ (List.mem_append_right _ (List.mem_append_right _ (List.mem_append_left _ (List.mem_of_getElem? (i := 234) rfl))))))
theorem fg_mc_176 : Jvm.Cond.code yX10_sewNow cX10_sewNow 2 none ∈ lw_tbl := List.mem_append_right _ (List.mem_append_right _ (List.mem_append_right _ (List.mem_append_right _ (List.mem_append_right _ (List.mem_append_left _ (List.mem_of_getElem? (i := 238) rfl))))))
theorem fg_mc_177 : Jvm.Cond.code yX10_sew cX10_sew 3 (some .int) ∈ lw_tbl := List.mem_append_right _ (List.mem_append_right _ (List.mem_append_right _ (List.mem_append_right _ (List.mem_append_right _ (List.mem_append_left _ (List.mem_of_getElem? (i := 230) rfl))))))
theorem fg_mc_178 : Jvm.Cond.code yX10_anew cX10_anew 5 (some .int) ∈ lw_tbl := List.mem_append_right _ (List.mem_append_right _ (List.mem_append_right _ (List.mem_append_right _ (List.mem_append_right _ (List.mem_append_right _ (List.mem_of_getElem? (i := 2) rfl))))))
theorem fg_mc_179 : Jvm.Cond.code yX10_weather cX10_weather 4 (some .int) ∈ lw_tbl := List.mem_append_right _ (List.mem_append_right _ (List.mem_append_right _ (List.mem_append_right _ (List.mem_append_right _ (List.mem_append_right _ (List.mem_of_getElem? (i := 7) rfl))))))
theorem fg_mc_180 : Jvm.Cond.code yX10_draw cX10_draw 2 (some .int) ∈ lw_tbl := List.mem_append_right _ (List.mem_append_right _ (List.mem_append_right _ (List.mem_append_right _ (List.mem_append_right _ (List.mem_append_right _ (List.mem_of_getElem? (i := 20) rfl))))))
theorem fg_mc_181 : Jvm.Cond.code yX10_chanceHoist cX10_chanceHoist 4 none ∈ lw_tbl := List.mem_append_right _ (List.mem_append_right _ (List.mem_append_right _ (List.mem_append_right _ (List.mem_append_right _ (List.mem_append_right _ (List.mem_of_getElem? (i := 28) rfl))))))
theorem fg_mc_182 : Jvm.Cond.code yX10_chanceSew cX10_chanceSew 2 none ∈ lw_tbl := List.mem_append_right _ (List.mem_append_right _ (List.mem_append_right _ (List.mem_append_right _ (List.mem_append_right _ (List.mem_append_right _ (List.mem_of_getElem? (i := 32) rfl))))))
theorem fg_mc_183 : Jvm.Cond.code yX10_chance cX10_chance 4 none ∈ lw_tbl := List.mem_append_right _ (List.mem_append_right _ (List.mem_append_right _ (List.mem_append_right _ (List.mem_append_right _ (List.mem_append_right _ (List.mem_of_getElem? (i := 16) rfl))))))
theorem fg_mc_184 : Jvm.Cond.code yX10_drift cX10_drift 4 (some .int) ∈ lw_tbl := List.mem_append_right _ (List.mem_append_right _ (List.mem_append_right _ (List.mem_append_right _ (List.mem_append_right _ (List.mem_append_right _ (List.mem_of_getElem? (i := 12) rfl))))))
theorem fg_mc_185 : Jvm.Cond.code yX10_undo cX10_undo 2 (some .int) ∈ lw_tbl := List.mem_append_right _ (List.mem_append_right _ (List.mem_append_right _ (List.mem_append_right _ (List.mem_append_right _ (List.mem_append_right _ (List.mem_of_getElem? (i := 36) rfl))))))
theorem fg_mc_186 : Jvm.Cond.code yX10_look cX10_look 4 (some .int) ∈ lw_tbl := List.mem_append_right _ (List.mem_append_right _ (List.mem_append_right _ (List.mem_append_right _ (List.mem_append_right _ (List.mem_append_right _ (List.mem_of_getElem? (i := 40) rfl))))))
theorem fg_mc_187 : Jvm.Cond.code yX10_clear cX10_clear 6 (some .int) ∈ lw_tbl := List.mem_append_right _ (List.mem_append_right _ (List.mem_append_right _ (List.mem_append_right _ (List.mem_append_right _ (List.mem_append_right _ (List.mem_of_getElem? (i := 44) rfl))))))
theorem fg_mc_188 : Jvm.Cond.code yX10_read cX10_read 3 (some .int) ∈ lw_tbl := List.mem_append_right _ (List.mem_append_right _ (List.mem_append_right _ (List.mem_append_right _ (List.mem_append_right _ (List.mem_append_right _ (List.mem_of_getElem? (i := 50) rfl))))))
theorem fg_mc_189 : Jvm.Cond.code yX10_write cX10_write 3 (some .int) ∈ lw_tbl := List.mem_append_right _ (List.mem_append_right _ (List.mem_append_right _ (List.mem_append_right _ (List.mem_append_right _ (List.mem_append_right _ (List.mem_of_getElem? (i := 54) rfl))))))
theorem fg_mc_190 : Jvm.Cond.code yX10_tear cX10_tear 2 (some .int) ∈ lw_tbl := List.mem_append_right _ (List.mem_append_right _ (List.mem_append_right _ (List.mem_append_right _ (List.mem_append_right _ (List.mem_append_right _ (List.mem_of_getElem? (i := 58) rfl))))))
theorem fg_mc_191 : Jvm.Cond.code yX10_judge cX10_judge 2 (some .int) ∈ lw_tbl := List.mem_append_right _ (List.mem_append_right _ (List.mem_append_right _ (List.mem_append_right _ (List.mem_append_right _ (List.mem_append_right _ (List.mem_of_getElem? (i := 62) rfl))))))
theorem fg_mc_192 : Jvm.Cond.code yX10_seed cX10_seed 3 (some .int) ∈ lw_tbl := List.mem_append_right _ (List.mem_append_right _ (List.mem_append_right _ (List.mem_append_right _ (List.mem_append_right _ (List.mem_append_right _ (List.mem_of_getElem? (i := 66) rfl))))))
theorem fg_mc_193 : Jvm.Cond.code yX10_keep cX10_keep 3 (some .int) ∈ lw_tbl := List.mem_append_right _ (List.mem_append_right _ (List.mem_append_right _ (List.mem_append_right _ (List.mem_append_right _ (List.mem_append_right _ (List.mem_of_getElem? (i := 70) rfl))))))
theorem fg_mc_194 : Jvm.Cond.code yX10_goBack cX10_goBack 3 (some .int) ∈ lw_tbl := List.mem_append_right _ (List.mem_append_right _ (List.mem_append_right _ (List.mem_append_right _ (List.mem_append_right _ (List.mem_append_right _ (List.mem_of_getElem? (i := 74) rfl))))))
theorem fg_mc_195 : Jvm.Cond.code yJ6_bitCount_0f7a4 cJ6_bitCount_0f7a4 1 (some .int) ∈ lw_tbl := List.mem_append_right _ (List.mem_append_right _ (List.mem_append_right _ (List.mem_append_left _ (List.mem_of_getElem? (i := 35) rfl))))
set_option maxRecDepth 100000 in
theorem fg_mcode : ∀ m ∈ fg_mt, Jvm.Cond.code m.1 m.2.1 m.2.2.1 m.2.2.2 ∈ lw_tbl := (List.forall_mem_cons.mpr ⟨fg_mc_0, (List.forall_mem_cons.mpr ⟨fg_mc_1, (List.forall_mem_cons.mpr ⟨fg_mc_2, (List.forall_mem_cons.mpr ⟨fg_mc_3, (List.forall_mem_cons.mpr ⟨fg_mc_4, (List.forall_mem_cons.mpr ⟨fg_mc_5, (List.forall_mem_cons.mpr ⟨fg_mc_6, (List.forall_mem_cons.mpr ⟨fg_mc_7, (List.forall_mem_cons.mpr ⟨fg_mc_8, (List.forall_mem_cons.mpr ⟨fg_mc_9, (List.forall_mem_cons.mpr ⟨fg_mc_10, (List.forall_mem_cons.mpr ⟨fg_mc_11, (List.forall_mem_cons.mpr ⟨fg_mc_12, (List.forall_mem_cons.mpr ⟨fg_mc_13, (List.forall_mem_cons.mpr ⟨fg_mc_14, (List.forall_mem_cons.mpr ⟨fg_mc_15, (List.forall_mem_cons.mpr ⟨fg_mc_16, (List.forall_mem_cons.mpr ⟨fg_mc_17, (List.forall_mem_cons.mpr ⟨fg_mc_18, (List.forall_mem_cons.mpr ⟨fg_mc_19, (List.forall_mem_cons.mpr ⟨fg_mc_20, (List.forall_mem_cons.mpr ⟨fg_mc_21, (List.forall_mem_cons.mpr ⟨fg_mc_22, (List.forall_mem_cons.mpr ⟨fg_mc_23, (List.forall_mem_cons.mpr ⟨fg_mc_24, (List.forall_mem_cons.mpr ⟨fg_mc_25, (List.forall_mem_cons.mpr ⟨fg_mc_26, (List.forall_mem_cons.mpr ⟨fg_mc_27, (List.forall_mem_cons.mpr ⟨fg_mc_28, (List.forall_mem_cons.mpr ⟨fg_mc_29, (List.forall_mem_cons.mpr ⟨fg_mc_30, (List.forall_mem_cons.mpr ⟨fg_mc_31, (List.forall_mem_cons.mpr ⟨fg_mc_32, (List.forall_mem_cons.mpr ⟨fg_mc_33, (List.forall_mem_cons.mpr ⟨fg_mc_34, (List.forall_mem_cons.mpr ⟨fg_mc_35, (List.forall_mem_cons.mpr ⟨fg_mc_36, (List.forall_mem_cons.mpr ⟨fg_mc_37, (List.forall_mem_cons.mpr ⟨fg_mc_38, (List.forall_mem_cons.mpr ⟨fg_mc_39, (List.forall_mem_cons.mpr ⟨fg_mc_40, (List.forall_mem_cons.mpr ⟨fg_mc_41, (List.forall_mem_cons.mpr ⟨fg_mc_42, (List.forall_mem_cons.mpr ⟨fg_mc_43, (List.forall_mem_cons.mpr ⟨fg_mc_44, (List.forall_mem_cons.mpr ⟨fg_mc_45, (List.forall_mem_cons.mpr ⟨fg_mc_46, (List.forall_mem_cons.mpr ⟨fg_mc_47, (List.forall_mem_cons.mpr ⟨fg_mc_48, (List.forall_mem_cons.mpr ⟨fg_mc_49, (List.forall_mem_cons.mpr ⟨fg_mc_50, (List.forall_mem_cons.mpr ⟨fg_mc_51, (List.forall_mem_cons.mpr ⟨fg_mc_52, (List.forall_mem_cons.mpr ⟨fg_mc_53, (List.forall_mem_cons.mpr ⟨fg_mc_54, (List.forall_mem_cons.mpr ⟨fg_mc_55, (List.forall_mem_cons.mpr ⟨fg_mc_56, (List.forall_mem_cons.mpr ⟨fg_mc_57, (List.forall_mem_cons.mpr ⟨fg_mc_58, (List.forall_mem_cons.mpr ⟨fg_mc_59, (List.forall_mem_cons.mpr ⟨fg_mc_60, (List.forall_mem_cons.mpr ⟨fg_mc_61, (List.forall_mem_cons.mpr ⟨fg_mc_62, (List.forall_mem_cons.mpr ⟨fg_mc_63, (List.forall_mem_cons.mpr ⟨fg_mc_64, (List.forall_mem_cons.mpr ⟨fg_mc_65, (List.forall_mem_cons.mpr ⟨fg_mc_66, (List.forall_mem_cons.mpr ⟨fg_mc_67, (List.forall_mem_cons.mpr ⟨fg_mc_68, (List.forall_mem_cons.mpr ⟨fg_mc_69, (List.forall_mem_cons.mpr ⟨fg_mc_70, (List.forall_mem_cons.mpr ⟨fg_mc_71, (List.forall_mem_cons.mpr ⟨fg_mc_72, (List.forall_mem_cons.mpr ⟨fg_mc_73, (List.forall_mem_cons.mpr ⟨fg_mc_74, (List.forall_mem_cons.mpr ⟨fg_mc_75, (List.forall_mem_cons.mpr ⟨fg_mc_76, (List.forall_mem_cons.mpr ⟨fg_mc_77, (List.forall_mem_cons.mpr ⟨fg_mc_78, (List.forall_mem_cons.mpr ⟨fg_mc_79, (List.forall_mem_cons.mpr ⟨fg_mc_80, (List.forall_mem_cons.mpr ⟨fg_mc_81, (List.forall_mem_cons.mpr ⟨fg_mc_82, (List.forall_mem_cons.mpr ⟨fg_mc_83, (List.forall_mem_cons.mpr ⟨fg_mc_84, (List.forall_mem_cons.mpr ⟨fg_mc_85, (List.forall_mem_cons.mpr ⟨fg_mc_86, (List.forall_mem_cons.mpr ⟨fg_mc_87, (List.forall_mem_cons.mpr ⟨fg_mc_88, (List.forall_mem_cons.mpr ⟨fg_mc_89, (List.forall_mem_cons.mpr ⟨fg_mc_90, (List.forall_mem_cons.mpr ⟨fg_mc_91, (List.forall_mem_cons.mpr ⟨fg_mc_92, (List.forall_mem_cons.mpr ⟨fg_mc_93, (List.forall_mem_cons.mpr ⟨fg_mc_94, (List.forall_mem_cons.mpr ⟨fg_mc_95, (List.forall_mem_cons.mpr ⟨fg_mc_96, (List.forall_mem_cons.mpr ⟨fg_mc_97, (List.forall_mem_cons.mpr ⟨fg_mc_98, (List.forall_mem_cons.mpr ⟨fg_mc_99, (List.forall_mem_cons.mpr ⟨fg_mc_100, (List.forall_mem_cons.mpr ⟨fg_mc_101, (List.forall_mem_cons.mpr ⟨fg_mc_102, (List.forall_mem_cons.mpr ⟨fg_mc_103, (List.forall_mem_cons.mpr ⟨fg_mc_104, (List.forall_mem_cons.mpr ⟨fg_mc_105, (List.forall_mem_cons.mpr ⟨fg_mc_106, (List.forall_mem_cons.mpr ⟨fg_mc_107, (List.forall_mem_cons.mpr ⟨fg_mc_108, (List.forall_mem_cons.mpr ⟨fg_mc_109, (List.forall_mem_cons.mpr ⟨fg_mc_110, (List.forall_mem_cons.mpr ⟨fg_mc_111, (List.forall_mem_cons.mpr ⟨fg_mc_112, (List.forall_mem_cons.mpr ⟨fg_mc_113, (List.forall_mem_cons.mpr ⟨fg_mc_114, (List.forall_mem_cons.mpr ⟨fg_mc_115, (List.forall_mem_cons.mpr ⟨fg_mc_116, (List.forall_mem_cons.mpr ⟨fg_mc_117, (List.forall_mem_cons.mpr ⟨fg_mc_118, (List.forall_mem_cons.mpr ⟨fg_mc_119, (List.forall_mem_cons.mpr ⟨fg_mc_120, (List.forall_mem_cons.mpr ⟨fg_mc_121, (List.forall_mem_cons.mpr ⟨fg_mc_122, (List.forall_mem_cons.mpr ⟨fg_mc_123, (List.forall_mem_cons.mpr ⟨fg_mc_124, (List.forall_mem_cons.mpr ⟨fg_mc_125, (List.forall_mem_cons.mpr ⟨fg_mc_126, (List.forall_mem_cons.mpr ⟨fg_mc_127, (List.forall_mem_cons.mpr ⟨fg_mc_128, (List.forall_mem_cons.mpr ⟨fg_mc_129, (List.forall_mem_cons.mpr ⟨fg_mc_130, (List.forall_mem_cons.mpr ⟨fg_mc_131, (List.forall_mem_cons.mpr ⟨fg_mc_132, (List.forall_mem_cons.mpr ⟨fg_mc_133, (List.forall_mem_cons.mpr ⟨fg_mc_134, (List.forall_mem_cons.mpr ⟨fg_mc_135, (List.forall_mem_cons.mpr ⟨fg_mc_136, (List.forall_mem_cons.mpr ⟨fg_mc_137, (List.forall_mem_cons.mpr ⟨fg_mc_138, (List.forall_mem_cons.mpr ⟨fg_mc_139, (List.forall_mem_cons.mpr ⟨fg_mc_140, (List.forall_mem_cons.mpr ⟨fg_mc_141, (List.forall_mem_cons.mpr ⟨fg_mc_142, (List.forall_mem_cons.mpr ⟨fg_mc_143, (List.forall_mem_cons.mpr ⟨fg_mc_144, (List.forall_mem_cons.mpr ⟨fg_mc_145, (List.forall_mem_cons.mpr ⟨fg_mc_146, (List.forall_mem_cons.mpr ⟨fg_mc_147, (List.forall_mem_cons.mpr ⟨fg_mc_148, (List.forall_mem_cons.mpr ⟨fg_mc_149, (List.forall_mem_cons.mpr ⟨fg_mc_150, (List.forall_mem_cons.mpr ⟨fg_mc_151, (List.forall_mem_cons.mpr ⟨fg_mc_152, (List.forall_mem_cons.mpr ⟨fg_mc_153, (List.forall_mem_cons.mpr ⟨fg_mc_154, (List.forall_mem_cons.mpr ⟨fg_mc_155, (List.forall_mem_cons.mpr ⟨fg_mc_156, (List.forall_mem_cons.mpr ⟨fg_mc_157, (List.forall_mem_cons.mpr ⟨fg_mc_158, (List.forall_mem_cons.mpr ⟨fg_mc_159, (List.forall_mem_cons.mpr ⟨fg_mc_160, (List.forall_mem_cons.mpr ⟨fg_mc_161, (List.forall_mem_cons.mpr ⟨fg_mc_162, (List.forall_mem_cons.mpr ⟨fg_mc_163, (List.forall_mem_cons.mpr ⟨fg_mc_164, (List.forall_mem_cons.mpr ⟨fg_mc_165, (List.forall_mem_cons.mpr ⟨fg_mc_166, (List.forall_mem_cons.mpr ⟨fg_mc_167, (List.forall_mem_cons.mpr ⟨fg_mc_168, (List.forall_mem_cons.mpr ⟨fg_mc_169, (List.forall_mem_cons.mpr ⟨fg_mc_170, (List.forall_mem_cons.mpr ⟨fg_mc_171, (List.forall_mem_cons.mpr ⟨fg_mc_172, (List.forall_mem_cons.mpr ⟨fg_mc_173, (List.forall_mem_cons.mpr ⟨fg_mc_174, (List.forall_mem_cons.mpr ⟨fg_mc_175, (List.forall_mem_cons.mpr ⟨fg_mc_176, (List.forall_mem_cons.mpr ⟨fg_mc_177, (List.forall_mem_cons.mpr ⟨fg_mc_178, (List.forall_mem_cons.mpr ⟨fg_mc_179, (List.forall_mem_cons.mpr ⟨fg_mc_180, (List.forall_mem_cons.mpr ⟨fg_mc_181, (List.forall_mem_cons.mpr ⟨fg_mc_182, (List.forall_mem_cons.mpr ⟨fg_mc_183, (List.forall_mem_cons.mpr ⟨fg_mc_184, (List.forall_mem_cons.mpr ⟨fg_mc_185, (List.forall_mem_cons.mpr ⟨fg_mc_186, (List.forall_mem_cons.mpr ⟨fg_mc_187, (List.forall_mem_cons.mpr ⟨fg_mc_188, (List.forall_mem_cons.mpr ⟨fg_mc_189, (List.forall_mem_cons.mpr ⟨fg_mc_190, (List.forall_mem_cons.mpr ⟨fg_mc_191, (List.forall_mem_cons.mpr ⟨fg_mc_192, (List.forall_mem_cons.mpr ⟨fg_mc_193, (List.forall_mem_cons.mpr ⟨fg_mc_194, (List.forall_mem_cons.mpr ⟨fg_mc_195, (fun _ h => absurd h List.not_mem_nil)⟩)⟩)⟩)⟩)⟩)⟩)⟩)⟩)⟩)⟩)⟩)⟩)⟩)⟩)⟩)⟩)⟩)⟩)⟩)⟩)⟩)⟩)⟩)⟩)⟩)⟩)⟩)⟩)⟩)⟩)⟩)⟩)⟩)⟩)⟩)⟩)⟩)⟩)⟩)⟩)⟩)⟩)⟩)⟩)⟩)⟩)⟩)⟩)⟩)⟩)⟩)⟩)⟩)⟩)⟩)⟩)⟩)⟩)⟩)⟩)⟩)⟩)⟩)⟩)⟩)⟩)⟩)⟩)⟩)⟩)⟩)⟩)⟩)⟩)⟩)⟩)⟩)⟩)⟩)⟩)⟩)⟩)⟩)⟩)⟩)⟩)⟩)⟩)⟩)⟩)⟩)⟩)⟩)⟩)⟩)⟩)⟩)⟩)⟩)⟩)⟩)⟩)⟩)⟩)⟩)⟩)⟩)⟩)⟩)⟩)⟩)⟩)⟩)⟩)⟩)⟩)⟩)⟩)⟩)⟩)⟩)⟩)⟩)⟩)⟩)⟩)⟩)⟩)⟩)⟩)⟩)⟩)⟩)⟩)⟩)⟩)⟩)⟩)⟩)⟩)⟩)⟩)⟩)⟩)⟩)⟩)⟩)⟩)⟩)⟩)⟩)⟩)⟩)⟩)⟩)⟩)⟩)⟩)⟩)⟩)⟩)⟩)⟩)⟩)⟩)⟩)⟩)⟩)⟩)⟩)⟩)⟩)⟩)⟩)⟩)⟩)⟩)⟩)⟩)⟩)⟩)⟩)⟩)⟩)⟩)⟩)⟩)⟩)⟩)⟩)⟩)⟩)⟩)⟩)⟩)⟩)
set_option maxRecDepth 100000 in
theorem fg_mcks : ∀ i, i < 196 → fg_mck i = true := by decide +kernel
set_option maxRecDepth 100000 in
theorem fg_ck_0 : (List.range' 0 20).all fg_ckm = true := by decide +kernel
set_option maxRecDepth 100000 in
theorem fg_ck_20 : (List.range' 20 20).all fg_ckm = true := by decide +kernel
set_option maxRecDepth 100000 in
theorem fg_ck_40 : (List.range' 40 20).all fg_ckm = true := by decide +kernel
set_option maxRecDepth 100000 in
theorem fg_ck_60 : (List.range' 60 20).all fg_ckm = true := by decide +kernel
set_option maxRecDepth 100000 in
theorem fg_ck_80 : (List.range' 80 20).all fg_ckm = true := by decide +kernel
set_option maxRecDepth 100000 in
theorem fg_ck_100 : (List.range' 100 20).all fg_ckm = true := by decide +kernel
set_option maxRecDepth 100000 in
theorem fg_ck_120 : (List.range' 120 20).all fg_ckm = true := by decide +kernel
set_option maxRecDepth 100000 in
theorem fg_ck_140 : (List.range' 140 20).all fg_ckm = true := by decide +kernel
set_option maxRecDepth 100000 in
theorem fg_ck_160 : (List.range' 160 20).all fg_ckm = true := by decide +kernel
set_option maxRecDepth 100000 in
theorem fg_ck_180 : (List.range' 180 16).all fg_ckm = true := by decide +kernel
theorem fg_cks (i : Nat) (h : i < 196) : fg_ckm i = true := by
  by_cases h20 : i < 20
  · exact List.all_eq_true.mp fg_ck_0 i (List.mem_range'_1.mpr ⟨by omega, by omega⟩)
  by_cases h40 : i < 40
  · exact List.all_eq_true.mp fg_ck_20 i (List.mem_range'_1.mpr ⟨by omega, by omega⟩)
  by_cases h60 : i < 60
  · exact List.all_eq_true.mp fg_ck_40 i (List.mem_range'_1.mpr ⟨by omega, by omega⟩)
  by_cases h80 : i < 80
  · exact List.all_eq_true.mp fg_ck_60 i (List.mem_range'_1.mpr ⟨by omega, by omega⟩)
  by_cases h100 : i < 100
  · exact List.all_eq_true.mp fg_ck_80 i (List.mem_range'_1.mpr ⟨by omega, by omega⟩)
  by_cases h120 : i < 120
  · exact List.all_eq_true.mp fg_ck_100 i (List.mem_range'_1.mpr ⟨by omega, by omega⟩)
  by_cases h140 : i < 140
  · exact List.all_eq_true.mp fg_ck_120 i (List.mem_range'_1.mpr ⟨by omega, by omega⟩)
  by_cases h160 : i < 160
  · exact List.all_eq_true.mp fg_ck_140 i (List.mem_range'_1.mpr ⟨by omega, by omega⟩)
  by_cases h180 : i < 180
  · exact List.all_eq_true.mp fg_ck_160 i (List.mem_range'_1.mpr ⟨by omega, by omega⟩)
  exact List.all_eq_true.mp fg_ck_180 i (List.mem_range'_1.mpr ⟨by omega, by omega⟩)
