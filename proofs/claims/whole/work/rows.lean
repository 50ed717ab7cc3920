section
-- ===== PART A: goes FIRST, ahead of the names: the tables' words, and 'selects' of the private methods out of them =====
/-- a private method of a class that the tables say can be made, by its rows of tables_1 -/
def lw_okq (q : MethodName × Nat) : Prop := (q.1.cls ≠ "java/lang/invoke/MethodHandle" ∧ q.1.cls ≠ "java/lang/invoke/VarHandle") ∧ Cond.instantiable q.1.cls q.2 ∈ tables_1 ∧ Cond.privateMethod q.1 ∈ tables_1 ∧ Cond.instanceMethod q.1 ∈ tables_1
theorem lw_p0 : lw_okq (⟨"SmallFlyers", "refuseSpan", "(IIII)I"⟩, 8) := ⟨⟨by decide +kernel, by decide +kernel⟩, List.mem_of_getElem? (i := 17) (by decide +kernel), List.mem_of_getElem? (i := 462) (by decide +kernel), List.mem_of_getElem? (i := 463) (by decide +kernel)⟩
theorem lw_p1 : lw_okq (⟨"SmallFlyers", "refuseCellAt", "(II)I"⟩, 8) := ⟨⟨by decide +kernel, by decide +kernel⟩, List.mem_of_getElem? (i := 17) (by decide +kernel), List.mem_of_getElem? (i := 501) (by decide +kernel), List.mem_of_getElem? (i := 502) (by decide +kernel)⟩
theorem lw_p2 : lw_okq (⟨"SmallFlyers", "refuseGiven", "(I)I"⟩, 8) := ⟨⟨by decide +kernel, by decide +kernel⟩, List.mem_of_getElem? (i := 17) (by decide +kernel), List.mem_of_getElem? (i := 559) (by decide +kernel), List.mem_of_getElem? (i := 560) (by decide +kernel)⟩
theorem lw_p3 : lw_okq (⟨"SmallFlyers", "endOfSoonest", "(LSmallFlyers$Ask;)I"⟩, 8) := ⟨⟨by decide +kernel, by decide +kernel⟩, List.mem_of_getElem? (i := 17) (by decide +kernel), List.mem_of_getElem? (i := 563) (by decide +kernel), List.mem_of_getElem? (i := 564) (by decide +kernel)⟩
theorem lw_p4 : lw_okq (⟨"SmallFlyers", "refuseTelling", "(II)I"⟩, 8) := ⟨⟨by decide +kernel, by decide +kernel⟩, List.mem_of_getElem? (i := 17) (by decide +kernel), List.mem_of_getElem? (i := 647) (by decide +kernel), List.mem_of_getElem? (i := 648) (by decide +kernel)⟩
theorem lw_p5 : lw_okq (⟨"SmallFlyers", "refuseNotGiven", "(I)I"⟩, 8) := ⟨⟨by decide +kernel, by decide +kernel⟩, List.mem_of_getElem? (i := 17) (by decide +kernel), List.mem_of_getElem? (i := 716) (by decide +kernel), List.mem_of_getElem? (i := 717) (by decide +kernel)⟩
theorem lw_p6 : lw_okq (⟨"SmallFlyers", "refuseSet", "(I)I"⟩, 8) := ⟨⟨by decide +kernel, by decide +kernel⟩, List.mem_of_getElem? (i := 17) (by decide +kernel), List.mem_of_getElem? (i := 786) (by decide +kernel), List.mem_of_getElem? (i := 787) (by decide +kernel)⟩
theorem lw_p7 : lw_okq (⟨"SmallFlyersModel", "layAir", "(II)V"⟩, 32) := ⟨⟨by decide +kernel, by decide +kernel⟩, List.mem_of_getElem? (i := 958) (by decide +kernel), List.mem_of_getElem? (i := 965) (by decide +kernel), List.mem_of_getElem? (i := 966) (by decide +kernel)⟩
theorem lw_p8 : lw_okq (⟨"SmallFlyersModel", "isCell", "(I)Z"⟩, 32) := ⟨⟨by decide +kernel, by decide +kernel⟩, List.mem_of_getElem? (i := 958) (by decide +kernel), List.mem_of_getElem? (i := 1081) (by decide +kernel), List.mem_of_getElem? (i := 1082) (by decide +kernel)⟩
theorem lw_p9 : lw_okq (⟨"SmallFlyersModel", "cells", "()I"⟩, 32) := ⟨⟨by decide +kernel, by decide +kernel⟩, List.mem_of_getElem? (i := 958) (by decide +kernel), List.mem_of_getElem? (i := 1085) (by decide +kernel), List.mem_of_getElem? (i := 1086) (by decide +kernel)⟩
theorem lw_p10 : lw_okq (⟨"SmallFlyersModel", "downOf", "(II)I"⟩, 32) := ⟨⟨by decide +kernel, by decide +kernel⟩, List.mem_of_getElem? (i := 958) (by decide +kernel), List.mem_of_getElem? (i := 1109) (by decide +kernel), List.mem_of_getElem? (i := 1110) (by decide +kernel)⟩
theorem lw_p11 : lw_okq (⟨"SmallFlyersModel", "along", "(II)I"⟩, 32) := ⟨⟨by decide +kernel, by decide +kernel⟩, List.mem_of_getElem? (i := 958) (by decide +kernel), List.mem_of_getElem? (i := 1113) (by decide +kernel), List.mem_of_getElem? (i := 1114) (by decide +kernel)⟩
theorem lw_p12 : lw_okq (⟨"SmallFlyersModel", "aside", "(II)I"⟩, 32) := ⟨⟨by decide +kernel, by decide +kernel⟩, List.mem_of_getElem? (i := 958) (by decide +kernel), List.mem_of_getElem? (i := 1120) (by decide +kernel), List.mem_of_getElem? (i := 1121) (by decide +kernel)⟩
theorem lw_p13 : lw_okq (⟨"SmallFlyersModel", "hasFolk", "(II)Z"⟩, 32) := ⟨⟨by decide +kernel, by decide +kernel⟩, List.mem_of_getElem? (i := 958) (by decide +kernel), List.mem_of_getElem? (i := 1124) (by decide +kernel), List.mem_of_getElem? (i := 1125) (by decide +kernel)⟩
theorem lw_p14 : lw_okq (⟨"SmallFlyersModel", "isOpen", "(II)Z"⟩, 32) := ⟨⟨by decide +kernel, by decide +kernel⟩, List.mem_of_getElem? (i := 958) (by decide +kernel), List.mem_of_getElem? (i := 1132) (by decide +kernel), List.mem_of_getElem? (i := 1133) (by decide +kernel)⟩
theorem lw_p15 : lw_okq (⟨"SmallFlyersModel", "isShut", "(II)Z"⟩, 32) := ⟨⟨by decide +kernel, by decide +kernel⟩, List.mem_of_getElem? (i := 958) (by decide +kernel), List.mem_of_getElem? (i := 1136) (by decide +kernel), List.mem_of_getElem? (i := 1137) (by decide +kernel)⟩
def lw_privs_1 : List (MethodName × Nat) := [(⟨"SmallFlyers", "refuseSpan", "(IIII)I"⟩, 8), (⟨"SmallFlyers", "refuseCellAt", "(II)I"⟩, 8), (⟨"SmallFlyers", "refuseGiven", "(I)I"⟩, 8), (⟨"SmallFlyers", "endOfSoonest", "(LSmallFlyers$Ask;)I"⟩, 8), (⟨"SmallFlyers", "refuseTelling", "(II)I"⟩, 8), (⟨"SmallFlyers", "refuseNotGiven", "(I)I"⟩, 8), (⟨"SmallFlyers", "refuseSet", "(I)I"⟩, 8), (⟨"SmallFlyersModel", "layAir", "(II)V"⟩, 32), (⟨"SmallFlyersModel", "isCell", "(I)Z"⟩, 32), (⟨"SmallFlyersModel", "cells", "()I"⟩, 32), (⟨"SmallFlyersModel", "downOf", "(II)I"⟩, 32), (⟨"SmallFlyersModel", "along", "(II)I"⟩, 32), (⟨"SmallFlyersModel", "aside", "(II)I"⟩, 32), (⟨"SmallFlyersModel", "hasFolk", "(II)Z"⟩, 32), (⟨"SmallFlyersModel", "isOpen", "(II)Z"⟩, 32), (⟨"SmallFlyersModel", "isShut", "(II)Z"⟩, 32)]
theorem lw_r1 : ∀ q ∈ lw_privs_1, lw_okq q := List.forall_mem_cons.mpr ⟨lw_p0, List.forall_mem_cons.mpr ⟨lw_p1, List.forall_mem_cons.mpr ⟨lw_p2, List.forall_mem_cons.mpr ⟨lw_p3, List.forall_mem_cons.mpr ⟨lw_p4, List.forall_mem_cons.mpr ⟨lw_p5, List.forall_mem_cons.mpr ⟨lw_p6, List.forall_mem_cons.mpr ⟨lw_p7, List.forall_mem_cons.mpr ⟨lw_p8, List.forall_mem_cons.mpr ⟨lw_p9, List.forall_mem_cons.mpr ⟨lw_p10, List.forall_mem_cons.mpr ⟨lw_p11, List.forall_mem_cons.mpr ⟨lw_p12, List.forall_mem_cons.mpr ⟨lw_p13, List.forall_mem_cons.mpr ⟨lw_p14, List.forall_mem_cons.mpr ⟨lw_p15, fun _ h => absurd h List.not_mem_nil⟩⟩⟩⟩⟩⟩⟩⟩⟩⟩⟩⟩⟩⟩⟩⟩
theorem lw_p16 : lw_okq (⟨"SmallFlyersModel", "isAsk", "(I)Z"⟩, 32) := ⟨⟨by decide +kernel, by decide +kernel⟩, List.mem_of_getElem? (i := 958) (by decide +kernel), List.mem_of_getElem? (i := 1151) (by decide +kernel), List.mem_of_getElem? (i := 1152) (by decide +kernel)⟩
theorem lw_p17 : lw_okq (⟨"SmallFlyersModel", "mayAsk", "(I)I"⟩, 32) := ⟨⟨by decide +kernel, by decide +kernel⟩, List.mem_of_getElem? (i := 958) (by decide +kernel), List.mem_of_getElem? (i := 1159) (by decide +kernel), List.mem_of_getElem? (i := 1160) (by decide +kernel)⟩
theorem lw_p18 : lw_okq (⟨"SmallFlyersModel", "layAll", "()V"⟩, 32) := ⟨⟨by decide +kernel, by decide +kernel⟩, List.mem_of_getElem? (i := 958) (by decide +kernel), List.mem_of_getElem? (i := 1163) (by decide +kernel), List.mem_of_getElem? (i := 1164) (by decide +kernel)⟩
theorem lw_p19 : lw_okq (⟨"SmallFlyersModel", "layOpen", "()V"⟩, 32) := ⟨⟨by decide +kernel, by decide +kernel⟩, List.mem_of_getElem? (i := 958) (by decide +kernel), List.mem_of_getElem? (i := 1167) (by decide +kernel), List.mem_of_getElem? (i := 1168) (by decide +kernel)⟩
theorem lw_p20 : lw_okq (⟨"SmallFlyersModel", "layBits", "()V"⟩, 32) := ⟨⟨by decide +kernel, by decide +kernel⟩, List.mem_of_getElem? (i := 958) (by decide +kernel), List.mem_of_getElem? (i := 1171) (by decide +kernel), List.mem_of_getElem? (i := 1172) (by decide +kernel)⟩
theorem lw_p21 : lw_okq (⟨"SmallFlyersModel", "layNear", "(II)V"⟩, 32) := ⟨⟨by decide +kernel, by decide +kernel⟩, List.mem_of_getElem? (i := 958) (by decide +kernel), List.mem_of_getElem? (i := 1175) (by decide +kernel), List.mem_of_getElem? (i := 1176) (by decide +kernel)⟩
theorem lw_p22 : lw_okq (⟨"SmallFlyersModel", "layChange", "(II)V"⟩, 32) := ⟨⟨by decide +kernel, by decide +kernel⟩, List.mem_of_getElem? (i := 958) (by decide +kernel), List.mem_of_getElem? (i := 1179) (by decide +kernel), List.mem_of_getElem? (i := 1180) (by decide +kernel)⟩
theorem lw_p23 : lw_okq (⟨"SmallFlyersModel", "step", "(II)I"⟩, 32) := ⟨⟨by decide +kernel, by decide +kernel⟩, List.mem_of_getElem? (i := 958) (by decide +kernel), List.mem_of_getElem? (i := 1183) (by decide +kernel), List.mem_of_getElem? (i := 1184) (by decide +kernel)⟩
theorem lw_p24 : lw_okq (⟨"SmallFlyersModel", "laySoonest", "(I)Z"⟩, 32) := ⟨⟨by decide +kernel, by decide +kernel⟩, List.mem_of_getElem? (i := 958) (by decide +kernel), List.mem_of_getElem? (i := 1187) (by decide +kernel), List.mem_of_getElem? (i := 1188) (by decide +kernel)⟩
theorem lw_p25 : lw_okq (⟨"SmallFlyersModel", "hasWay", "(II)Z"⟩, 32) := ⟨⟨by decide +kernel, by decide +kernel⟩, List.mem_of_getElem? (i := 958) (by decide +kernel), List.mem_of_getElem? (i := 1191) (by decide +kernel), List.mem_of_getElem? (i := 1192) (by decide +kernel)⟩
theorem lw_p26 : lw_okq (⟨"SmallFlyersModel", "layLatest", "(II)V"⟩, 32) := ⟨⟨by decide +kernel, by decide +kernel⟩, List.mem_of_getElem? (i := 958) (by decide +kernel), List.mem_of_getElem? (i := 1195) (by decide +kernel), List.mem_of_getElem? (i := 1196) (by decide +kernel)⟩
theorem lw_p27 : lw_okq (⟨"SmallFlyersModel", "goes", "(IIII)I"⟩, 32) := ⟨⟨by decide +kernel, by decide +kernel⟩, List.mem_of_getElem? (i := 958) (by decide +kernel), List.mem_of_getElem? (i := 1199) (by decide +kernel), List.mem_of_getElem? (i := 1200) (by decide +kernel)⟩
theorem lw_p28 : lw_okq (⟨"SmallFlyersModel", "isFree", "(III)Z"⟩, 32) := ⟨⟨by decide +kernel, by decide +kernel⟩, List.mem_of_getElem? (i := 958) (by decide +kernel), List.mem_of_getElem? (i := 1203) (by decide +kernel), List.mem_of_getElem? (i := 1204) (by decide +kernel)⟩
theorem lw_p29 : lw_okq (⟨"SmallFlyersModel", "layRest", "(III)V"⟩, 32) := ⟨⟨by decide +kernel, by decide +kernel⟩, List.mem_of_getElem? (i := 958) (by decide +kernel), List.mem_of_getElem? (i := 1207) (by decide +kernel), List.mem_of_getElem? (i := 1208) (by decide +kernel)⟩
theorem lw_p30 : lw_okq (⟨"SmallFlyersModel", "laySteps", "(I)V"⟩, 32) := ⟨⟨by decide +kernel, by decide +kernel⟩, List.mem_of_getElem? (i := 958) (by decide +kernel), List.mem_of_getElem? (i := 1212) (by decide +kernel), List.mem_of_getElem? (i := 1213) (by decide +kernel)⟩
theorem lw_p31 : lw_okq (⟨"SmallFlyersModel", "isLeast", "(III)Z"⟩, 32) := ⟨⟨by decide +kernel, by decide +kernel⟩, List.mem_of_getElem? (i := 958) (by decide +kernel), List.mem_of_getElem? (i := 1216) (by decide +kernel), List.mem_of_getElem? (i := 1217) (by decide +kernel)⟩
def lw_privs_2 : List (MethodName × Nat) := [(⟨"SmallFlyersModel", "isAsk", "(I)Z"⟩, 32), (⟨"SmallFlyersModel", "mayAsk", "(I)I"⟩, 32), (⟨"SmallFlyersModel", "layAll", "()V"⟩, 32), (⟨"SmallFlyersModel", "layOpen", "()V"⟩, 32), (⟨"SmallFlyersModel", "layBits", "()V"⟩, 32), (⟨"SmallFlyersModel", "layNear", "(II)V"⟩, 32), (⟨"SmallFlyersModel", "layChange", "(II)V"⟩, 32), (⟨"SmallFlyersModel", "step", "(II)I"⟩, 32), (⟨"SmallFlyersModel", "laySoonest", "(I)Z"⟩, 32), (⟨"SmallFlyersModel", "hasWay", "(II)Z"⟩, 32), (⟨"SmallFlyersModel", "layLatest", "(II)V"⟩, 32), (⟨"SmallFlyersModel", "goes", "(IIII)I"⟩, 32), (⟨"SmallFlyersModel", "isFree", "(III)Z"⟩, 32), (⟨"SmallFlyersModel", "layRest", "(III)V"⟩, 32), (⟨"SmallFlyersModel", "laySteps", "(I)V"⟩, 32), (⟨"SmallFlyersModel", "isLeast", "(III)Z"⟩, 32)]
theorem lw_r2 : ∀ q ∈ lw_privs_2, lw_okq q := List.forall_mem_cons.mpr ⟨lw_p16, List.forall_mem_cons.mpr ⟨lw_p17, List.forall_mem_cons.mpr ⟨lw_p18, List.forall_mem_cons.mpr ⟨lw_p19, List.forall_mem_cons.mpr ⟨lw_p20, List.forall_mem_cons.mpr ⟨lw_p21, List.forall_mem_cons.mpr ⟨lw_p22, List.forall_mem_cons.mpr ⟨lw_p23, List.forall_mem_cons.mpr ⟨lw_p24, List.forall_mem_cons.mpr ⟨lw_p25, List.forall_mem_cons.mpr ⟨lw_p26, List.forall_mem_cons.mpr ⟨lw_p27, List.forall_mem_cons.mpr ⟨lw_p28, List.forall_mem_cons.mpr ⟨lw_p29, List.forall_mem_cons.mpr ⟨lw_p30, List.forall_mem_cons.mpr ⟨lw_p31, fun _ h => absurd h List.not_mem_nil⟩⟩⟩⟩⟩⟩⟩⟩⟩⟩⟩⟩⟩⟩⟩⟩
theorem lw_p32 : lw_okq (⟨"SmallFlyersModel", "told", "(II)I"⟩, 32) := ⟨⟨by decide +kernel, by decide +kernel⟩, List.mem_of_getElem? (i := 958) (by decide +kernel), List.mem_of_getElem? (i := 1224) (by decide +kernel), List.mem_of_getElem? (i := 1225) (by decide +kernel)⟩
theorem lw_p33 : lw_okq (⟨"SmallFlyersModel", "keep", "(I)V"⟩, 32) := ⟨⟨by decide +kernel, by decide +kernel⟩, List.mem_of_getElem? (i := 958) (by decide +kernel), List.mem_of_getElem? (i := 1232) (by decide +kernel), List.mem_of_getElem? (i := 1233) (by decide +kernel)⟩
theorem lw_p34 : lw_okq (⟨"SmallFlyersModel", "cellAt", "(II)I"⟩, 32) := ⟨⟨by decide +kernel, by decide +kernel⟩, List.mem_of_getElem? (i := 958) (by decide +kernel), List.mem_of_getElem? (i := 1244) (by decide +kernel), List.mem_of_getElem? (i := 1245) (by decide +kernel)⟩
theorem lw_p35 : lw_okq (⟨"SmallFlyersModel", "barSet", "(I)I"⟩, 32) := ⟨⟨by decide +kernel, by decide +kernel⟩, List.mem_of_getElem? (i := 958) (by decide +kernel), List.mem_of_getElem? (i := 1256) (by decide +kernel), List.mem_of_getElem? (i := 1257) (by decide +kernel)⟩
theorem lw_p36 : lw_okq (⟨"SmallFlyersModel", "givenSet", "()I"⟩, 32) := ⟨⟨by decide +kernel, by decide +kernel⟩, List.mem_of_getElem? (i := 958) (by decide +kernel), List.mem_of_getElem? (i := 1260) (by decide +kernel), List.mem_of_getElem? (i := 1261) (by decide +kernel)⟩
theorem lw_p37 : lw_okq (⟨"SmallFlyersModel", "maySet", "(I)I"⟩, 32) := ⟨⟨by decide +kernel, by decide +kernel⟩, List.mem_of_getElem? (i := 958) (by decide +kernel), List.mem_of_getElem? (i := 1281) (by decide +kernel), List.mem_of_getElem? (i := 1282) (by decide +kernel)⟩
theorem lw_p38 : lw_okq (⟨"SmallFlyersModel", "layOrders", "(I)I"⟩, 32) := ⟨⟨by decide +kernel, by decide +kernel⟩, List.mem_of_getElem? (i := 958) (by decide +kernel), List.mem_of_getElem? (i := 1285) (by decide +kernel), List.mem_of_getElem? (i := 1286) (by decide +kernel)⟩
theorem lw_p39 : lw_okq (⟨"SmallFlyersModel", "layRow", "(III)V"⟩, 32) := ⟨⟨by decide +kernel, by decide +kernel⟩, List.mem_of_getElem? (i := 958) (by decide +kernel), List.mem_of_getElem? (i := 1289) (by decide +kernel), List.mem_of_getElem? (i := 1290) (by decide +kernel)⟩
theorem lw_p40 : lw_okq (⟨"SmallFlyersModel", "goRow", "(I)I"⟩, 32) := ⟨⟨by decide +kernel, by decide +kernel⟩, List.mem_of_getElem? (i := 958) (by decide +kernel), List.mem_of_getElem? (i := 1293) (by decide +kernel), List.mem_of_getElem? (i := 1294) (by decide +kernel)⟩
theorem lw_p41 : lw_okq (⟨"SmallFlyersModel", "takeRow", "(I)V"⟩, 32) := ⟨⟨by decide +kernel, by decide +kernel⟩, List.mem_of_getElem? (i := 958) (by decide +kernel), List.mem_of_getElem? (i := 1297) (by decide +kernel), List.mem_of_getElem? (i := 1298) (by decide +kernel)⟩
theorem lw_p42 : lw_okq (⟨"SmallFlyersModel", "layCould", "(I)V"⟩, 32) := ⟨⟨by decide +kernel, by decide +kernel⟩, List.mem_of_getElem? (i := 958) (by decide +kernel), List.mem_of_getElem? (i := 1317) (by decide +kernel), List.mem_of_getElem? (i := 1318) (by decide +kernel)⟩
theorem lw_p43 : lw_okq (⟨"SmallFlyersModel", "isSeenBy", "(I)Z"⟩, 32) := ⟨⟨by decide +kernel, by decide +kernel⟩, List.mem_of_getElem? (i := 958) (by decide +kernel), List.mem_of_getElem? (i := 1321) (by decide +kernel), List.mem_of_getElem? (i := 1322) (by decide +kernel)⟩
theorem lw_p44 : lw_okq (⟨"SmallFlyersModel", "spread", "(I)V"⟩, 32) := ⟨⟨by decide +kernel, by decide +kernel⟩, List.mem_of_getElem? (i := 958) (by decide +kernel), List.mem_of_getElem? (i := 1325) (by decide +kernel), List.mem_of_getElem? (i := 1326) (by decide +kernel)⟩
theorem lw_p45 : lw_okq (⟨"SmallFlyersModel", "ledOf", "(I)I"⟩, 32) := ⟨⟨by decide +kernel, by decide +kernel⟩, List.mem_of_getElem? (i := 958) (by decide +kernel), List.mem_of_getElem? (i := 1337) (by decide +kernel), List.mem_of_getElem? (i := 1338) (by decide +kernel)⟩
theorem lw_p46 : lw_okq (⟨"SmallFlyersModel", "noiseOf", "(I)I"⟩, 32) := ⟨⟨by decide +kernel, by decide +kernel⟩, List.mem_of_getElem? (i := 958) (by decide +kernel), List.mem_of_getElem? (i := 1358) (by decide +kernel), List.mem_of_getElem? (i := 1359) (by decide +kernel)⟩
theorem lw_p47 : lw_okq (⟨"SmallFlyersModel", "loud", "(II)I"⟩, 32) := ⟨⟨by decide +kernel, by decide +kernel⟩, List.mem_of_getElem? (i := 958) (by decide +kernel), List.mem_of_getElem? (i := 1362) (by decide +kernel), List.mem_of_getElem? (i := 1363) (by decide +kernel)⟩
def lw_privs_3 : List (MethodName × Nat) := [(⟨"SmallFlyersModel", "told", "(II)I"⟩, 32), (⟨"SmallFlyersModel", "keep", "(I)V"⟩, 32), (⟨"SmallFlyersModel", "cellAt", "(II)I"⟩, 32), (⟨"SmallFlyersModel", "barSet", "(I)I"⟩, 32), (⟨"SmallFlyersModel", "givenSet", "()I"⟩, 32), (⟨"SmallFlyersModel", "maySet", "(I)I"⟩, 32), (⟨"SmallFlyersModel", "layOrders", "(I)I"⟩, 32), (⟨"SmallFlyersModel", "layRow", "(III)V"⟩, 32), (⟨"SmallFlyersModel", "goRow", "(I)I"⟩, 32), (⟨"SmallFlyersModel", "takeRow", "(I)V"⟩, 32), (⟨"SmallFlyersModel", "layCould", "(I)V"⟩, 32), (⟨"SmallFlyersModel", "isSeenBy", "(I)Z"⟩, 32), (⟨"SmallFlyersModel", "spread", "(I)V"⟩, 32), (⟨"SmallFlyersModel", "ledOf", "(I)I"⟩, 32), (⟨"SmallFlyersModel", "noiseOf", "(I)I"⟩, 32), (⟨"SmallFlyersModel", "loud", "(II)I"⟩, 32)]
theorem lw_r3 : ∀ q ∈ lw_privs_3, lw_okq q := List.forall_mem_cons.mpr ⟨lw_p32, List.forall_mem_cons.mpr ⟨lw_p33, List.forall_mem_cons.mpr ⟨lw_p34, List.forall_mem_cons.mpr ⟨lw_p35, List.forall_mem_cons.mpr ⟨lw_p36, List.forall_mem_cons.mpr ⟨lw_p37, List.forall_mem_cons.mpr ⟨lw_p38, List.forall_mem_cons.mpr ⟨lw_p39, List.forall_mem_cons.mpr ⟨lw_p40, List.forall_mem_cons.mpr ⟨lw_p41, List.forall_mem_cons.mpr ⟨lw_p42, List.forall_mem_cons.mpr ⟨lw_p43, List.forall_mem_cons.mpr ⟨lw_p44, List.forall_mem_cons.mpr ⟨lw_p45, List.forall_mem_cons.mpr ⟨lw_p46, List.forall_mem_cons.mpr ⟨lw_p47, fun _ h => absurd h List.not_mem_nil⟩⟩⟩⟩⟩⟩⟩⟩⟩⟩⟩⟩⟩⟩⟩⟩
theorem lw_p48 : lw_okq (⟨"SmallFlyersModel", "layQuietest", "(I)I"⟩, 32) := ⟨⟨by decide +kernel, by decide +kernel⟩, List.mem_of_getElem? (i := 958) (by decide +kernel), List.mem_of_getElem? (i := 1374) (by decide +kernel), List.mem_of_getElem? (i := 1375) (by decide +kernel)⟩
def lw_privs_4 : List (MethodName × Nat) := [(⟨"SmallFlyersModel", "layQuietest", "(I)I"⟩, 32)]
theorem lw_r4 : ∀ q ∈ lw_privs_4, lw_okq q := List.forall_mem_cons.mpr ⟨lw_p48, fun _ h => absurd h List.not_mem_nil⟩
def lw_privs : List (MethodName × Nat) := lw_privs_1 ++ (lw_privs_2 ++ (lw_privs_3 ++ (lw_privs_4)))
def lw_tbl : List Cond := k2_sels lw_privs ++ tables_1
theorem lw_privs_ok : ∀ q ∈ lw_privs, lw_okq q := by
  show ∀ q ∈ lw_privs_1 ++ (lw_privs_2 ++ (lw_privs_3 ++ (lw_privs_4))), lw_okq q
  exact List.forall_mem_append.mpr ⟨lw_r1, List.forall_mem_append.mpr ⟨lw_r2, List.forall_mem_append.mpr ⟨lw_r3, lw_r4⟩⟩⟩
end
section
def RX0 : String := "SmallFlyers$Ask"
def TX0 : u_T := fun k => match k with
  | 0 => ("SmallFlyers$Ask", "from", "I", false)
  | 1 => ("SmallFlyers$Ask", "to", "I", false)
  | 2 => ("SmallFlyers$Ask", "earliest", "I", false)
  | 3 => ("SmallFlyers$Ask", "latest", "I", false)
  | 4 => ("SmallFlyers$Ask", "charge", "I", false)
  | 5 => ("SmallFlyers$Ask", "rank", "I", false)
  | 6 => ("SmallFlyers$Ask", "hum", "I", false)
  | 7 => ("SmallFlyers$Ask", "given", "Z", false)
  | _ => ("SmallFlyers$Ask", "way", "LSmallFlyers$Way;", true)
def tyX0 : Nat → FieldType := fun k => match k with
  | 0 => .int
  | 1 => .int
  | 2 => .int
  | 3 => .int
  | 4 => .int
  | 5 => .int
  | 6 => .int
  | 7 => .boolean
  | _ => .object "SmallFlyers$Way"
theorem nmX0 : ∀ a, a < 9 → ∀ b, b < 9 → a ≠ b → (TX0 a).2.1 ≠ (TX0 b).2.1 := by decide +kernel
theorem tyX0_ok : ∀ k, k < 9 → parseFieldDescriptor (TX0 k).2.2.1 = some (tyX0 k) := by decide +kernel
abbrev cX0_init : ByteArray := prog_2_method_1_code
def yX0_init : MethodName := ⟨RX0, "<init>", "()V"⟩
abbrev cX0_between : ByteArray := prog_2_method_2_code
def yX0_between : MethodName := ⟨RX0, "between", "(II)V"⟩
abbrev cX0_within : ByteArray := prog_2_method_3_code
def yX0_within : MethodName := ⟨RX0, "within", "(II)V"⟩
abbrev cX0_like : ByteArray := prog_2_method_4_code
def yX0_like : MethodName := ⟨RX0, "like", "(III)V"⟩
def RX1 : String := "SmallFlyers$Bars"
def TX1 : u_T := fun k => match k with
  | 0 => ("SmallFlyers$Bars", "book", "LSmallFlyers$Book;", true)
  | 1 => ("SmallFlyers$Bars", "sky", "LSmallFlyers$Sky;", true)
  | 2 => ("SmallFlyers$Bars", "size", "I", false)
  | 3 => ("SmallFlyers$Bars", "numbers", "[I", true)
  | _ => ("SmallFlyers$Bars", "given", "[I", true)
def tyX1 : Nat → FieldType := fun k => match k with
  | 0 => .object "SmallFlyers$Book"
  | 1 => .object "SmallFlyers$Sky"
  | 2 => .int
  | 3 => .array .int
  | _ => .array .int
theorem nmX1 : ∀ a, a < 5 → ∀ b, b < 5 → a ≠ b → (TX1 a).2.1 ≠ (TX1 b).2.1 := by decide +kernel
theorem tyX1_ok : ∀ k, k < 5 → parseFieldDescriptor (TX1 k).2.2.1 = some (tyX1 k) := by decide +kernel
abbrev cX1_init : ByteArray := prog_3_method_1_code
def yX1_init : MethodName := ⟨RX1, "<init>", "(LSmallFlyers$Book;LSmallFlyers$Sky;)V"⟩
abbrev cX1_number : ByteArray := prog_3_method_2_code
def yX1_number : MethodName := ⟨RX1, "number", "(I)I"⟩
abbrev cX1_find : ByteArray := prog_3_method_3_code
def yX1_find : MethodName := ⟨RX1, "find", "(LSmallFlyers$Ask;)Z"⟩
abbrev cX1_listGiven : ByteArray := prog_3_method_4_code
def yX1_listGiven : MethodName := ⟨RX1, "listGiven", "(I)I"⟩
abbrev cX1_firstOfSize : ByteArray := prog_3_method_5_code
def yX1_firstOfSize : MethodName := ⟨RX1, "firstOfSize", "(LSmallFlyers$Ask;II)I"⟩
abbrev cX1_decoded : ByteArray := prog_3_method_6_code
def yX1_decoded : MethodName := ⟨RX1, "decoded", "(II)I"⟩
abbrev cX1_keep : ByteArray := prog_3_method_7_code
def yX1_keep : MethodName := ⟨RX1, "keep", "(I)V"⟩
def RX2 : String := "SmallFlyers$Book"
def TX2 : u_T := fun k => match k with
  | 0 => ("SmallFlyers$Book", "size", "I", false)
  | _ => ("SmallFlyers$Book", "asks", "[LSmallFlyers$Ask;", true)
def tyX2 : Nat → FieldType := fun k => match k with
  | 0 => .int
  | _ => .array (.object "SmallFlyers$Ask")
theorem nmX2 : ∀ a, a < 2 → ∀ b, b < 2 → a ≠ b → (TX2 a).2.1 ≠ (TX2 b).2.1 := by decide +kernel
theorem tyX2_ok : ∀ k, k < 2 → parseFieldDescriptor (TX2 k).2.2.1 = some (tyX2 k) := by decide +kernel
abbrev cX2_init : ByteArray := prog_4_method_1_code
def yX2_init : MethodName := ⟨RX2, "<init>", "()V"⟩
abbrev cX2_has : ByteArray := prog_4_method_2_code
def yX2_has : MethodName := ⟨RX2, "has", "(I)Z"⟩
abbrev cX2_isFull : ByteArray := prog_4_method_3_code
def yX2_isFull : MethodName := ⟨RX2, "isFull", "()Z"⟩
abbrev cX2_add : ByteArray := prog_4_method_4_code
def yX2_add : MethodName := ⟨RX2, "add", "()LSmallFlyers$Ask;"⟩
abbrev cX2_givenOnes : ByteArray := prog_4_method_5_code
def yX2_givenOnes : MethodName := ⟨RX2, "givenOnes", "()I"⟩
abbrev cX2_countGiven : ByteArray := prog_4_method_6_code
def yX2_countGiven : MethodName := ⟨RX2, "countGiven", "()I"⟩
abbrev cX2_minutesGiven : ByteArray := prog_4_method_7_code
def yX2_minutesGiven : MethodName := ⟨RX2, "minutesGiven", "()I"⟩
def RX3 : String := "SmallFlyers$Hush"
def TX3 : u_T := fun k => match k with
  | 0 => ("SmallFlyers$Hush", "town", "LSmallFlyers$Town;", true)
  | 1 => ("SmallFlyers$Hush", "sky", "LSmallFlyers$Sky;", true)
  | 2 => ("SmallFlyers$Hush", "roofs", "LSmallFlyers$Roofs;", true)
  | 3 => ("SmallFlyers$Hush", "minuteIn", "[I", true)
  | 4 => ("SmallFlyers$Hush", "costs", "[[I", true)
  | 5 => ("SmallFlyers$Hush", "least", "I", false)
  | 6 => ("SmallFlyers$Hush", "start", "I", false)
  | _ => ("SmallFlyers$Hush", "end", "I", false)
def tyX3 : Nat → FieldType := fun k => match k with
  | 0 => .object "SmallFlyers$Town"
  | 1 => .object "SmallFlyers$Sky"
  | 2 => .object "SmallFlyers$Roofs"
  | 3 => .array .int
  | 4 => .array (.array .int)
  | 5 => .int
  | 6 => .int
  | _ => .int
theorem nmX3 : ∀ a, a < 8 → ∀ b, b < 8 → a ≠ b → (TX3 a).2.1 ≠ (TX3 b).2.1 := by decide +kernel
theorem tyX3_ok : ∀ k, k < 8 → parseFieldDescriptor (TX3 k).2.2.1 = some (tyX3 k) := by decide +kernel
abbrev cX3_init : ByteArray := prog_5_method_1_code
def yX3_init : MethodName := ⟨RX3, "<init>", "(LSmallFlyers$Town;LSmallFlyers$Sky;LSmallFlyers$Roofs;)V"⟩
abbrev cX3_growth : ByteArray := prog_5_method_2_code
def yX3_growth : MethodName := ⟨RX3, "growth", "(LSmallFlyers$Ask;)I"⟩
abbrev cX3_findQuietest : ByteArray := prog_5_method_3_code
def yX3_findQuietest : MethodName := ⟨RX3, "findQuietest", "(LSmallFlyers$Ask;)Z"⟩
abbrev cX3_lookBack : ByteArray := prog_5_method_4_code
def yX3_lookBack : MethodName := ⟨RX3, "lookBack", "(LSmallFlyers$Ask;I)V"⟩
abbrev cX3_beginAt : ByteArray := prog_5_method_5_code
def yX3_beginAt : MethodName := ⟨RX3, "beginAt", "(II)Z"⟩
abbrev cX3_stepBack : ByteArray := prog_5_method_6_code
def yX3_stepBack : MethodName := ⟨RX3, "stepBack", "(III)Z"⟩
abbrev cX3_leastNext : ByteArray := prog_5_method_7_code
def yX3_leastNext : MethodName := ⟨RX3, "leastNext", "(II[I)I"⟩
abbrev cX3_follow : ByteArray := prog_5_method_8_code
def yX3_follow : MethodName := ⟨RX3, "follow", "(LSmallFlyers$Ask;)V"⟩
abbrev cX3_firstStep : ByteArray := prog_5_method_9_code
def yX3_firstStep : MethodName := ⟨RX3, "firstStep", "(II)I"⟩
def RX4 : String := "SmallFlyers$Plan"
def TX4 : u_T := fun k => match k with
  | 0 => ("SmallFlyers$Plan", "book", "LSmallFlyers$Book;", true)
  | 1 => ("SmallFlyers$Plan", "sky", "LSmallFlyers$Sky;", true)
  | 2 => ("SmallFlyers$Plan", "size", "I", false)
  | 3 => ("SmallFlyers$Plan", "bestCost", "I", false)
  | 4 => ("SmallFlyers$Plan", "tried", "[I", true)
  | 5 => ("SmallFlyers$Plan", "best", "[I", true)
  | _ => ("SmallFlyers$Plan", "alone", "[I", true)
def tyX4 : Nat → FieldType := fun k => match k with
  | 0 => .object "SmallFlyers$Book"
  | 1 => .object "SmallFlyers$Sky"
  | 2 => .int
  | 3 => .int
  | 4 => .array .int
  | 5 => .array .int
  | _ => .array .int
theorem nmX4 : ∀ a, a < 7 → ∀ b, b < 7 → a ≠ b → (TX4 a).2.1 ≠ (TX4 b).2.1 := by decide +kernel
theorem tyX4_ok : ∀ k, k < 7 → parseFieldDescriptor (TX4 k).2.2.1 = some (tyX4 k) := by decide +kernel
abbrev cX4_init : ByteArray := prog_6_method_1_code
def yX4_init : MethodName := ⟨RX4, "<init>", "(LSmallFlyers$Book;LSmallFlyers$Sky;)V"⟩
abbrev cX4_number : ByteArray := prog_6_method_2_code
def yX4_number : MethodName := ⟨RX4, "number", "(I)I"⟩
abbrev cX4_findBest : ByteArray := prog_6_method_3_code
def yX4_findBest : MethodName := ⟨RX4, "findBest", "(I)V"⟩
abbrev cX4_tryFrom : ByteArray := prog_6_method_4_code
def yX4_tryFrom : MethodName := ⟨RX4, "tryFrom", "(LSmallFlyers$Plan;III)V"⟩
abbrev cX4_leastCost : ByteArray := prog_6_method_5_code
def yX4_leastCost : MethodName := ⟨RX4, "leastCost", "(II)I"⟩
abbrev cX4_keep : ByteArray := prog_6_method_6_code
def yX4_keep : MethodName := ⟨RX4, "keep", "(I)V"⟩
abbrev cX4_giveNext : ByteArray := prog_6_method_7_code
def yX4_giveNext : MethodName := ⟨RX4, "giveNext", "(I)I"⟩
abbrev cX4_carryOut : ByteArray := prog_6_method_8_code
def yX4_carryOut : MethodName := ⟨RX4, "carryOut", "()I"⟩
def RX5 : String := "SmallFlyers$Roofs"
def TX5 : u_T := fun k => match k with
  | 0 => ("SmallFlyers$Roofs", "town", "LSmallFlyers$Town;", true)
  | 1 => ("SmallFlyers$Roofs", "book", "LSmallFlyers$Book;", true)
  | _ => ("SmallFlyers$Roofs", "hearing", "[I", true)
def tyX5 : Nat → FieldType := fun k => match k with
  | 0 => .object "SmallFlyers$Town"
  | 1 => .object "SmallFlyers$Book"
  | _ => .array .int
theorem nmX5 : ∀ a, a < 3 → ∀ b, b < 3 → a ≠ b → (TX5 a).2.1 ≠ (TX5 b).2.1 := by decide +kernel
theorem tyX5_ok : ∀ k, k < 3 → parseFieldDescriptor (TX5 k).2.2.1 = some (tyX5 k) := by decide +kernel
abbrev cX5_init : ByteArray := prog_7_method_1_code
def yX5_init : MethodName := ⟨RX5, "<init>", "(LSmallFlyers$Town;LSmallFlyers$Book;)V"⟩
abbrev cX5_silence : ByteArray := prog_7_method_2_code
def yX5_silence : MethodName := ⟨RX5, "silence", "()V"⟩
abbrev cX5_listen : ByteArray := prog_7_method_3_code
def yX5_listen : MethodName := ⟨RX5, "listen", "(II)I"⟩
abbrev cX5_sound : ByteArray := prog_7_method_4_code
def yX5_sound : MethodName := ⟨RX5, "sound", "(II)I"⟩
abbrev cX5_heardFrom : ByteArray := prog_7_method_5_code
def yX5_heardFrom : MethodName := ⟨RX5, "heardFrom", "(I)I"⟩
abbrev cX5_heardIn : ByteArray := prog_7_method_6_code
def yX5_heardIn : MethodName := ⟨RX5, "heardIn", "(I)I"⟩
abbrev cX5_soundOf : ByteArray := prog_7_method_7_code
def yX5_soundOf : MethodName := ⟨RX5, "soundOf", "(LSmallFlyers$Way;I)I"⟩
abbrev cX5_loudestCell : ByteArray := prog_7_method_8_code
def yX5_loudestCell : MethodName := ⟨RX5, "loudestCell", "()I"⟩
def RX6 : String := "SmallFlyers$Sky"
def TX6 : u_T := fun k => match k with
  | 0 => ("SmallFlyers$Sky", "town", "LSmallFlyers$Town;", true)
  | 1 => ("SmallFlyers$Sky", "book", "LSmallFlyers$Book;", true)
  | 2 => ("SmallFlyers$Sky", "free", "[J", true)
  | 3 => ("SmallFlyers$Sky", "barred", "[[J", true)
  | 4 => ("SmallFlyers$Sky", "leads", "[J", true)
  | 5 => ("SmallFlyers$Sky", "start", "I", false)
  | _ => ("SmallFlyers$Sky", "end", "I", false)
def tyX6 : Nat → FieldType := fun k => match k with
  | 0 => .object "SmallFlyers$Town"
  | 1 => .object "SmallFlyers$Book"
  | 2 => .array .long
  | 3 => .array (.array .long)
  | 4 => .array .long
  | 5 => .int
  | _ => .int
theorem nmX6 : ∀ a, a < 7 → ∀ b, b < 7 → a ≠ b → (TX6 a).2.1 ≠ (TX6 b).2.1 := by decide +kernel
theorem tyX6_ok : ∀ k, k < 7 → parseFieldDescriptor (TX6 k).2.2.1 = some (tyX6 k) := by decide +kernel
abbrev cX6_init : ByteArray := prog_8_method_1_code
def yX6_init : MethodName := ⟨RX6, "<init>", "(LSmallFlyers$Town;LSmallFlyers$Book;)V"⟩
abbrev cX6_wouldMeet : ByteArray := prog_8_method_2_code
def yX6_wouldMeet : MethodName := ⟨RX6, "wouldMeet", "(LSmallFlyers$Way;LSmallFlyers$Way;I)Z"⟩
abbrev cX6_clearFor : ByteArray := prog_8_method_3_code
def yX6_clearFor : MethodName := ⟨RX6, "clearFor", "(LSmallFlyers$Ask;I)V"⟩
abbrev cX6_keepApart : ByteArray := prog_8_method_4_code
def yX6_keepApart : MethodName := ⟨RX6, "keepApart", "(LSmallFlyers$Way;LSmallFlyers$Ask;)V"⟩
abbrev cX6_against : ByteArray := prog_8_method_5_code
def yX6_against : MethodName := ⟨RX6, "against", "(I)I"⟩
abbrev cX6_isAllowed : ByteArray := prog_8_method_6_code
def yX6_isAllowed : MethodName := ⟨RX6, "isAllowed", "(III)Z"⟩
abbrev cX6_ahead : ByteArray := prog_8_method_7_code
def yX6_ahead : MethodName := ⟨RX6, "ahead", "(JI)J"⟩
abbrev cX6_behind : ByteArray := prog_8_method_8_code
def yX6_behind : MethodName := ⟨RX6, "behind", "(JI)J"⟩
abbrev cX6_findSoonest : ByteArray := prog_8_method_9_code
def yX6_findSoonest : MethodName := ⟨RX6, "findSoonest", "(LSmallFlyers$Ask;)Z"⟩
abbrev cX6_hasWayWithout : ByteArray := prog_8_method_10_code
def yX6_hasWayWithout : MethodName := ⟨RX6, "hasWayWithout", "(LSmallFlyers$Ask;I)Z"⟩
abbrev cX6_findEnd : ByteArray := prog_8_method_11_code
def yX6_findEnd : MethodName := ⟨RX6, "findEnd", "(LSmallFlyers$Ask;)Z"⟩
abbrev cX6_findStart : ByteArray := prog_8_method_12_code
def yX6_findStart : MethodName := ⟨RX6, "findStart", "(LSmallFlyers$Ask;I)Z"⟩
abbrev cX6_follow : ByteArray := prog_8_method_13_code
def yX6_follow : MethodName := ⟨RX6, "follow", "(LSmallFlyers$Ask;)V"⟩
abbrev cX6_firstStep : ByteArray := prog_8_method_14_code
def yX6_firstStep : MethodName := ⟨RX6, "firstStep", "(II)I"⟩
def RX7 : String := "SmallFlyers$Stray"
def TX7 : u_T := fun k => match k with
  | 0 => ("SmallFlyers$Stray", "town", "LSmallFlyers$Town;", true)
  | 1 => ("SmallFlyers$Stray", "book", "LSmallFlyers$Book;", true)
  | 2 => ("SmallFlyers$Stray", "seen", "Z", false)
  | 3 => ("SmallFlyers$Stray", "cell", "I", false)
  | 4 => ("SmallFlyers$Stray", "minute", "I", false)
  | 5 => ("SmallFlyers$Stray", "speed", "I", false)
  | _ => ("SmallFlyers$Stray", "maybeIn", "[J", true)
def tyX7 : Nat → FieldType := fun k => match k with
  | 0 => .object "SmallFlyers$Town"
  | 1 => .object "SmallFlyers$Book"
  | 2 => .boolean
  | 3 => .int
  | 4 => .int
  | 5 => .int
  | _ => .array .long
theorem nmX7 : ∀ a, a < 7 → ∀ b, b < 7 → a ≠ b → (TX7 a).2.1 ≠ (TX7 b).2.1 := by decide +kernel
theorem tyX7_ok : ∀ k, k < 7 → parseFieldDescriptor (TX7 k).2.2.1 = some (tyX7 k) := by decide +kernel
abbrev cX7_init : ByteArray := prog_9_method_1_code
def yX7_init : MethodName := ⟨RX7, "<init>", "(LSmallFlyers$Town;LSmallFlyers$Book;)V"⟩
abbrev cX7_see : ByteArray := prog_9_method_2_code
def yX7_see : MethodName := ⟨RX7, "see", "(III)V"⟩
abbrev cX7_spread : ByteArray := prog_9_method_3_code
def yX7_spread : MethodName := ⟨RX7, "spread", "()V"⟩
abbrev cX7_spreadInto : ByteArray := prog_9_method_4_code
def yX7_spreadInto : MethodName := ⟨RX7, "spreadInto", "(JI)J"⟩
abbrev cX7_firstTouch : ByteArray := prog_9_method_5_code
def yX7_firstTouch : MethodName := ⟨RX7, "firstTouch", "(LSmallFlyers$Way;)I"⟩
abbrev cX7_touches : ByteArray := prog_9_method_6_code
def yX7_touches : MethodName := ⟨RX7, "touches", "(I)Z"⟩
abbrev cX7_countTouched : ByteArray := prog_9_method_7_code
def yX7_countTouched : MethodName := ⟨RX7, "countTouched", "()I"⟩
abbrev cX7_touched : ByteArray := prog_9_method_8_code
def yX7_touched : MethodName := ⟨RX7, "touched", "(I)I"⟩
def RX8 : String := "SmallFlyers$Town"
def TX8 : u_T := fun k => match k with
  | 0 => ("SmallFlyers$Town", "width", "I", false)
  | 1 => ("SmallFlyers$Town", "cells", "I", false)
  | 2 => ("SmallFlyers$Town", "glide", "I", false)
  | 3 => ("SmallFlyers$Town", "near", "I", false)
  | 4 => ("SmallFlyers$Town", "shutCount", "I", false)
  | 5 => ("SmallFlyers$Town", "folkCount", "I", false)
  | 6 => ("SmallFlyers$Town", "everyCell", "J", false)
  | 7 => ("SmallFlyers$Town", "firstColumn", "J", false)
  | 8 => ("SmallFlyers$Town", "lastColumn", "J", false)
  | 9 => ("SmallFlyers$Town", "column", "[I", true)
  | 10 => ("SmallFlyers$Town", "row", "[I", true)
  | 11 => ("SmallFlyers$Town", "nearTo", "[J", true)
  | 12 => ("SmallFlyers$Town", "shutIn", "[J", true)
  | 13 => ("SmallFlyers$Town", "folkIn", "[J", true)
  | _ => ("SmallFlyers$Town", "openIn", "[J", true)
def tyX8 : Nat → FieldType := fun k => match k with
  | 0 => .int
  | 1 => .int
  | 2 => .int
  | 3 => .int
  | 4 => .int
  | 5 => .int
  | 6 => .long
  | 7 => .long
  | 8 => .long
  | 9 => .array .int
  | 10 => .array .int
  | 11 => .array .long
  | 12 => .array .long
  | 13 => .array .long
  | _ => .array .long
theorem nmX8 : ∀ a, a < 15 → ∀ b, b < 15 → a ≠ b → (TX8 a).2.1 ≠ (TX8 b).2.1 := by decide +kernel
theorem tyX8_ok : ∀ k, k < 15 → parseFieldDescriptor (TX8 k).2.2.1 = some (tyX8 k) := by decide +kernel
abbrev cX8_init : ByteArray := prog_10_method_1_code
def yX8_init : MethodName := ⟨RX8, "<init>", "()V"⟩
abbrev cX8_lay : ByteArray := prog_10_method_2_code
def yX8_lay : MethodName := ⟨RX8, "lay", "(II)V"⟩
abbrev cX8_placeCells : ByteArray := prog_10_method_3_code
def yX8_placeCells : MethodName := ⟨RX8, "placeCells", "()V"⟩
abbrev cX8_hasCell : ByteArray := prog_10_method_4_code
def yX8_hasCell : MethodName := ⟨RX8, "hasCell", "(I)Z"⟩
abbrev cX8_addShut : ByteArray := prog_10_method_5_code
def yX8_addShut : MethodName := ⟨RX8, "addShut", "(III)I"⟩
abbrev cX8_addFolk : ByteArray := prog_10_method_6_code
def yX8_addFolk : MethodName := ⟨RX8, "addFolk", "(III)I"⟩
abbrev cX8_mark : ByteArray := prog_10_method_7_code
def yX8_mark : MethodName := ⟨RX8, "mark", "([JIII)V"⟩
abbrev cX8_changeGlide : ByteArray := prog_10_method_8_code
def yX8_changeGlide : MethodName := ⟨RX8, "changeGlide", "(I)I"⟩
abbrev cX8_changeNear : ByteArray := prog_10_method_9_code
def yX8_changeNear : MethodName := ⟨RX8, "changeNear", "(I)I"⟩
abbrev cX8_refreshNear : ByteArray := prog_10_method_10_code
def yX8_refreshNear : MethodName := ⟨RX8, "refreshNear", "()V"⟩
abbrev cX8_refreshOpen : ByteArray := prog_10_method_11_code
def yX8_refreshOpen : MethodName := ⟨RX8, "refreshOpen", "()V"⟩
abbrev cX8_downBy : ByteArray := prog_10_method_12_code
def yX8_downBy : MethodName := ⟨RX8, "downBy", "(II)J"⟩
abbrev cX8_stepsDown : ByteArray := prog_10_method_13_code
def yX8_stepsDown : MethodName := ⟨RX8, "stepsDown", "(II)I"⟩
abbrev cX8_besideOf : ByteArray := prog_10_method_14_code
def yX8_besideOf : MethodName := ⟨RX8, "besideOf", "(J)J"⟩
abbrev cX8_stepFrom : ByteArray := prog_10_method_15_code
def yX8_stepFrom : MethodName := ⟨RX8, "stepFrom", "(II)I"⟩
abbrev cX8_apart : ByteArray := prog_10_method_16_code
def yX8_apart : MethodName := ⟨RX8, "apart", "(II)I"⟩
def RX9 : String := "SmallFlyers$Way"
def TX9 : u_T := fun k => match k with
  | 0 => ("SmallFlyers$Way", "start", "I", false)
  | 1 => ("SmallFlyers$Way", "end", "I", false)
  | 2 => ("SmallFlyers$Way", "cells", "[I", true)
  | _ => ("SmallFlyers$Way", "steps", "[I", true)
def tyX9 : Nat → FieldType := fun k => match k with
  | 0 => .int
  | 1 => .int
  | 2 => .array .int
  | _ => .array .int
theorem nmX9 : ∀ a, a < 4 → ∀ b, b < 4 → a ≠ b → (TX9 a).2.1 ≠ (TX9 b).2.1 := by decide +kernel
theorem tyX9_ok : ∀ k, k < 4 → parseFieldDescriptor (TX9 k).2.2.1 = some (tyX9 k) := by decide +kernel
abbrev cX9_init : ByteArray := prog_11_method_1_code
def yX9_init : MethodName := ⟨RX9, "<init>", "()V"⟩
abbrev cX9_length : ByteArray := prog_11_method_2_code
def yX9_length : MethodName := ⟨RX9, "length", "()I"⟩
abbrev cX9_cellAt : ByteArray := prog_11_method_3_code
def yX9_cellAt : MethodName := ⟨RX9, "cellAt", "(I)I"⟩
abbrev cX9_stepAt : ByteArray := prog_11_method_4_code
def yX9_stepAt : MethodName := ⟨RX9, "stepAt", "(I)I"⟩
abbrev cX9_begin : ByteArray := prog_11_method_5_code
def yX9_begin : MethodName := ⟨RX9, "begin", "(II)V"⟩
abbrev cX9_goOn : ByteArray := prog_11_method_6_code
def yX9_goOn : MethodName := ⟨RX9, "goOn", "(II)V"⟩
abbrev cX9_tell : ByteArray := prog_11_method_7_code
def yX9_tell : MethodName := ⟨RX9, "tell", "(II)I"⟩
def RX10 : String := "SmallFlyers"
def TX10 : u_T := fun k => match k with
  | 0 => ("SmallFlyers", "town", "LSmallFlyers$Town;", true)
  | 1 => ("SmallFlyers", "book", "LSmallFlyers$Book;", true)
  | 2 => ("SmallFlyers", "roofs", "LSmallFlyers$Roofs;", true)
  | 3 => ("SmallFlyers", "sky", "LSmallFlyers$Sky;", true)
  | 4 => ("SmallFlyers", "hush", "LSmallFlyers$Hush;", true)
  | 5 => ("SmallFlyers", "barring", "LSmallFlyers$Bars;", true)
  | 6 => ("SmallFlyers", "plan", "LSmallFlyers$Plan;", true)
  | _ => ("SmallFlyers", "stray", "LSmallFlyers$Stray;", true)
def tyX10 : Nat → FieldType := fun k => match k with
  | 0 => .object "SmallFlyers$Town"
  | 1 => .object "SmallFlyers$Book"
  | 2 => .object "SmallFlyers$Roofs"
  | 3 => .object "SmallFlyers$Sky"
  | 4 => .object "SmallFlyers$Hush"
  | 5 => .object "SmallFlyers$Bars"
  | 6 => .object "SmallFlyers$Plan"
  | _ => .object "SmallFlyers$Stray"
theorem nmX10 : ∀ a, a < 8 → ∀ b, b < 8 → a ≠ b → (TX10 a).2.1 ≠ (TX10 b).2.1 := by decide +kernel
theorem tyX10_ok : ∀ k, k < 8 → parseFieldDescriptor (TX10 k).2.2.1 = some (tyX10 k) := by decide +kernel
abbrev cX10_init : ByteArray := prog_1_method_1_code
def yX10_init : MethodName := ⟨RX10, "<init>", "()V"⟩
abbrev cX10_air : ByteArray := prog_1_method_2_code
def yX10_air : MethodName := ⟨RX10, "air", "(II)I"⟩
abbrev cX10_shut : ByteArray := prog_1_method_3_code
def yX10_shut : MethodName := ⟨RX10, "shut", "(III)I"⟩
abbrev cX10_folk : ByteArray := prog_1_method_4_code
def yX10_folk : MethodName := ⟨RX10, "folk", "(III)I"⟩
abbrev cX10_rule : ByteArray := prog_1_method_5_code
def yX10_rule : MethodName := ⟨RX10, "rule", "(II)I"⟩
abbrev cX10_down : ByteArray := prog_1_method_6_code
def yX10_down : MethodName := ⟨RX10, "down", "(II)I"⟩
abbrev cX10_open : ByteArray := prog_1_method_7_code
def yX10_open : MethodName := ⟨RX10, "open", "(II)I"⟩
abbrev cX10_ask : ByteArray := prog_1_method_8_code
def yX10_ask : MethodName := ⟨RX10, "ask", "(IIIIIII)I"⟩
abbrev cX10_about : ByteArray := prog_1_method_9_code
def yX10_about : MethodName := ⟨RX10, "about", "(II)I"⟩
abbrev cX10_soonest : ByteArray := prog_1_method_10_code
def yX10_soonest : MethodName := ⟨RX10, "soonest", "(I)I"⟩
abbrev cX10_soonestAt : ByteArray := prog_1_method_11_code
def yX10_soonestAt : MethodName := ⟨RX10, "soonestAt", "(III)I"⟩
abbrev cX10_give : ByteArray := prog_1_method_12_code
def yX10_give : MethodName := ⟨RX10, "give", "(I)I"⟩
abbrev cX10_giveQuiet : ByteArray := prog_1_method_13_code
def yX10_giveQuiet : MethodName := ⟨RX10, "giveQuiet", "(I)I"⟩
abbrev cX10_take : ByteArray := prog_1_method_14_code
def yX10_take : MethodName := ⟨RX10, "take", "(I)I"⟩
abbrev cX10_where : ByteArray := prog_1_method_15_code
def yX10_where : MethodName := ⟨RX10, "where", "(II)I"⟩
abbrev cX10_meet : ByteArray := prog_1_method_16_code
def yX10_meet : MethodName := ⟨RX10, "meet", "(III)I"⟩
abbrev cX10_bars : ByteArray := prog_1_method_17_code
def yX10_bars : MethodName := ⟨RX10, "bars", "(I)I"⟩
abbrev cX10_bar : ByteArray := prog_1_method_18_code
def yX10_bar : MethodName := ⟨RX10, "bar", "(II)I"⟩
abbrev cX10_atOnce : ByteArray := prog_1_method_19_code
def yX10_atOnce : MethodName := ⟨RX10, "atOnce", "(I)I"⟩
abbrev cX10_order : ByteArray := prog_1_method_20_code
def yX10_order : MethodName := ⟨RX10, "order", "(II)I"⟩
abbrev cX10_giveAll : ByteArray := prog_1_method_21_code
def yX10_giveAll : MethodName := ⟨RX10, "giveAll", "(I)I"⟩
abbrev cX10_silent : ByteArray := prog_1_method_22_code
def yX10_silent : MethodName := ⟨RX10, "silent", "(III)I"⟩
abbrev cX10_could : ByteArray := prog_1_method_23_code
def yX10_could : MethodName := ⟨RX10, "could", "(I)I"⟩
abbrev cX10_couldBe : ByteArray := prog_1_method_24_code
def yX10_couldBe : MethodName := ⟨RX10, "couldBe", "(II)I"⟩
abbrev cX10_ledOff : ByteArray := prog_1_method_25_code
def yX10_ledOff : MethodName := ⟨RX10, "ledOff", "()I"⟩
abbrev cX10_led : ByteArray := prog_1_method_26_code
def yX10_led : MethodName := ⟨RX10, "led", "(I)I"⟩
abbrev cX10_ledAt : ByteArray := prog_1_method_27_code
def yX10_ledAt : MethodName := ⟨RX10, "ledAt", "(I)I"⟩
abbrev cX10_ears : ByteArray := prog_1_method_28_code
def yX10_ears : MethodName := ⟨RX10, "ears", "(II)I"⟩
abbrev cX10_noise : ByteArray := prog_1_method_29_code
def yX10_noise : MethodName := ⟨RX10, "noise", "(I)I"⟩
abbrev cX10_worst : ByteArray := prog_1_method_30_code
def yX10_worst : MethodName := ⟨RX10, "worst", "(Z)I"⟩
abbrev cX10_quietest : ByteArray := prog_1_method_31_code
def yX10_quietest : MethodName := ⟨RX10, "quietest", "(I)I"⟩
abbrev cX10_price : ByteArray := prog_1_method_32_code
def yX10_price : MethodName := ⟨RX10, "price", "(I)I"⟩
abbrev cX10_quietAt : ByteArray := prog_1_method_33_code
def yX10_quietAt : MethodName := ⟨RX10, "quietAt", "(III)I"⟩
abbrev cX10_count : ByteArray := prog_1_method_34_code
def yX10_count : MethodName := ⟨RX10, "count", "(I)I"⟩
abbrev cX10_refuseCellAt : ByteArray := prog_1_method_35_code
def yX10_refuseCellAt : MethodName := ⟨RX10, "refuseCellAt", "(II)I"⟩
abbrev cX10_refuseSpan : ByteArray := prog_1_method_36_code
def yX10_refuseSpan : MethodName := ⟨RX10, "refuseSpan", "(IIII)I"⟩
abbrev cX10_refuseGiven : ByteArray := prog_1_method_37_code
def yX10_refuseGiven : MethodName := ⟨RX10, "refuseGiven", "(I)I"⟩
abbrev cX10_refuseNotGiven : ByteArray := prog_1_method_38_code
def yX10_refuseNotGiven : MethodName := ⟨RX10, "refuseNotGiven", "(I)I"⟩
abbrev cX10_refuseTelling : ByteArray := prog_1_method_39_code
def yX10_refuseTelling : MethodName := ⟨RX10, "refuseTelling", "(II)I"⟩
abbrev cX10_refuseSet : ByteArray := prog_1_method_40_code
def yX10_refuseSet : MethodName := ⟨RX10, "refuseSet", "(I)I"⟩
abbrev cX10_endOfSoonest : ByteArray := prog_1_method_41_code
def yX10_endOfSoonest : MethodName := ⟨RX10, "endOfSoonest", "(LSmallFlyers$Ask;)I"⟩
abbrev cX10_giveIf : ByteArray := prog_1_method_42_code
def yX10_giveIf : MethodName := ⟨RX10, "giveIf", "(LSmallFlyers$Ask;Z)I"⟩
abbrev cX10_isWithin : ByteArray := prog_1_method_43_code
def yX10_isWithin : MethodName := ⟨RX10, "isWithin", "(III)Z"⟩
abbrev cX10_isMinute : ByteArray := prog_1_method_44_code
def yX10_isMinute : MethodName := ⟨RX10, "isMinute", "(I)Z"⟩
abbrev cX10_oneIf : ByteArray := prog_1_method_45_code
def yX10_oneIf : MethodName := ⟨RX10, "oneIf", "(Z)I"⟩
abbrev cX10_holds : ByteArray := prog_1_method_46_code
def yX10_holds : MethodName := ⟨RX10, "holds", "(JI)Z"⟩
abbrev cX10_isIn : ByteArray := prog_1_method_47_code
def yX10_isIn : MethodName := ⟨RX10, "isIn", "(II)Z"⟩
def RX11 : String := "SmallFlyersModel"
def TX11 : u_T := fun k => match k with
  | 0 => ("SmallFlyersModel", "wide", "I", false)
  | 1 => ("SmallFlyersModel", "tall", "I", false)
  | 2 => ("SmallFlyersModel", "glide", "I", false)
  | 3 => ("SmallFlyersModel", "near", "I", false)
  | 4 => ("SmallFlyersModel", "shuts", "I", false)
  | 5 => ("SmallFlyersModel", "folks", "I", false)
  | 6 => ("SmallFlyersModel", "shutNow", "[Z", true)
  | 7 => ("SmallFlyersModel", "folkNow", "[Z", true)
  | 8 => ("SmallFlyersModel", "ears", "[I", true)
  | 9 => ("SmallFlyersModel", "asks", "I", false)
  | 10 => ("SmallFlyersModel", "about", "[I", true)
  | 11 => ("SmallFlyersModel", "begin", "[I", true)
  | 12 => ("SmallFlyersModel", "end", "[I", true)
  | 13 => ("SmallFlyersModel", "isGiven", "[Z", true)
  | 14 => ("SmallFlyersModel", "way", "[I", true)
  | 15 => ("SmallFlyersModel", "nearBits", "[I", true)
  | 16 => ("SmallFlyersModel", "changeBits", "[I", true)
  | 17 => ("SmallFlyersModel", "openNow", "[Z", true)
  | 18 => ("SmallFlyersModel", "latest", "[I", true)
  | 19 => ("SmallFlyersModel", "foundBegin", "I", false)
  | 20 => ("SmallFlyersModel", "foundEnd", "I", false)
  | 21 => ("SmallFlyersModel", "found", "[I", true)
  | 22 => ("SmallFlyersModel", "rest", "[I", true)
  | 23 => ("SmallFlyersModel", "sound", "[I", true)
  | 24 => ("SmallFlyersModel", "row", "[I", true)
  | 25 => ("SmallFlyersModel", "bestRow", "[I", true)
  | 26 => ("SmallFlyersModel", "bestCost", "I", false)
  | 27 => ("SmallFlyersModel", "silentCell", "I", false)
  | 28 => ("SmallFlyersModel", "silentMinute", "I", false)
  | 29 => ("SmallFlyersModel", "speed", "I", false)
  | 30 => ("SmallFlyersModel", "could", "[Z", true)
  | _ => ("SmallFlyersModel", "then", "[Z", true)
def tyX11 : Nat → FieldType := fun k => match k with
  | 0 => .int
  | 1 => .int
  | 2 => .int
  | 3 => .int
  | 4 => .int
  | 5 => .int
  | 6 => .array .boolean
  | 7 => .array .boolean
  | 8 => .array .int
  | 9 => .int
  | 10 => .array .int
  | 11 => .array .int
  | 12 => .array .int
  | 13 => .array .boolean
  | 14 => .array .int
  | 15 => .array .int
  | 16 => .array .int
  | 17 => .array .boolean
  | 18 => .array .int
  | 19 => .int
  | 20 => .int
  | 21 => .array .int
  | 22 => .array .int
  | 23 => .array .int
  | 24 => .array .int
  | 25 => .array .int
  | 26 => .int
  | 27 => .int
  | 28 => .int
  | 29 => .int
  | 30 => .array .boolean
  | _ => .array .boolean
theorem nmX11 : ∀ a, a < 32 → ∀ b, b < 32 → a ≠ b → (TX11 a).2.1 ≠ (TX11 b).2.1 := by decide +kernel
theorem tyX11_ok : ∀ k, k < 32 → parseFieldDescriptor (TX11 k).2.2.1 = some (tyX11 k) := by decide +kernel
abbrev cX11_init : ByteArray := prog_13_method_1_code
def yX11_init : MethodName := ⟨RX11, "<init>", "()V"⟩
abbrev cX11_in : ByteArray := prog_13_method_3_code
def yX11_in : MethodName := ⟨RX11, "in", "(JJJ)Z"⟩
abbrev cX11_isMinute : ByteArray := prog_13_method_4_code
def yX11_isMinute : MethodName := ⟨RX11, "isMinute", "(I)Z"⟩
abbrev cX11_layAir : ByteArray := prog_13_method_5_code
def yX11_layAir : MethodName := ⟨RX11, "layAir", "(II)V"⟩
abbrev cX11_cells : ByteArray := prog_13_method_6_code
def yX11_cells : MethodName := ⟨RX11, "cells", "()I"⟩
abbrev cX11_isCell : ByteArray := prog_13_method_7_code
def yX11_isCell : MethodName := ⟨RX11, "isCell", "(I)Z"⟩
abbrev cX11_air : ByteArray := prog_13_method_8_code
def yX11_air : MethodName := ⟨RX11, "air", "(II)I"⟩
abbrev cX11_shut : ByteArray := prog_13_method_9_code
def yX11_shut : MethodName := ⟨RX11, "shut", "(III)I"⟩
abbrev cX11_folk : ByteArray := prog_13_method_10_code
def yX11_folk : MethodName := ⟨RX11, "folk", "(III)I"⟩
abbrev cX11_rule : ByteArray := prog_13_method_11_code
def yX11_rule : MethodName := ⟨RX11, "rule", "(II)I"⟩
abbrev cX11_isShut : ByteArray := prog_13_method_12_code
def yX11_isShut : MethodName := ⟨RX11, "isShut", "(II)Z"⟩
abbrev cX11_hasFolk : ByteArray := prog_13_method_13_code
def yX11_hasFolk : MethodName := ⟨RX11, "hasFolk", "(II)Z"⟩
abbrev cX11_size : ByteArray := prog_13_method_14_code
def yX11_size : MethodName := ⟨RX11, "size", "(I)I"⟩
abbrev cX11_along : ByteArray := prog_13_method_15_code
def yX11_along : MethodName := ⟨RX11, "along", "(II)I"⟩
abbrev cX11_aside : ByteArray := prog_13_method_16_code
def yX11_aside : MethodName := ⟨RX11, "aside", "(II)I"⟩
abbrev cX11_downOf : ByteArray := prog_13_method_17_code
def yX11_downOf : MethodName := ⟨RX11, "downOf", "(II)I"⟩
abbrev cX11_down : ByteArray := prog_13_method_18_code
def yX11_down : MethodName := ⟨RX11, "down", "(II)I"⟩
abbrev cX11_isOpen : ByteArray := prog_13_method_19_code
def yX11_isOpen : MethodName := ⟨RX11, "isOpen", "(II)Z"⟩
abbrev cX11_open : ByteArray := prog_13_method_20_code
def yX11_open : MethodName := ⟨RX11, "open", "(II)I"⟩
abbrev cX11_step : ByteArray := prog_13_method_21_code
def yX11_step : MethodName := ⟨RX11, "step", "(II)I"⟩
abbrev cX11_isAsk : ByteArray := prog_13_method_22_code
def yX11_isAsk : MethodName := ⟨RX11, "isAsk", "(I)Z"⟩
abbrev cX11_ask : ByteArray := prog_13_method_23_code
def yX11_ask : MethodName := ⟨RX11, "ask", "(IIIIIII)I"⟩
abbrev cX11_about : ByteArray := prog_13_method_24_code
def yX11_about : MethodName := ⟨RX11, "about", "(II)I"⟩
abbrev cX11_layOpen : ByteArray := prog_13_method_25_code
def yX11_layOpen : MethodName := ⟨RX11, "layOpen", "()V"⟩
abbrev cX11_layBits : ByteArray := prog_13_method_26_code
def yX11_layBits : MethodName := ⟨RX11, "layBits", "()V"⟩
abbrev cX11_layNear : ByteArray := prog_13_method_27_code
def yX11_layNear : MethodName := ⟨RX11, "layNear", "(II)V"⟩
abbrev cX11_layChange : ByteArray := prog_13_method_28_code
def yX11_layChange : MethodName := ⟨RX11, "layChange", "(II)V"⟩
abbrev cX11_isFree : ByteArray := prog_13_method_29_code
def yX11_isFree : MethodName := ⟨RX11, "isFree", "(III)Z"⟩
abbrev cX11_goes : ByteArray := prog_13_method_30_code
def yX11_goes : MethodName := ⟨RX11, "goes", "(IIII)I"⟩
abbrev cX11_layLatest : ByteArray := prog_13_method_31_code
def yX11_layLatest : MethodName := ⟨RX11, "layLatest", "(II)V"⟩
abbrev cX11_hasWay : ByteArray := prog_13_method_32_code
def yX11_hasWay : MethodName := ⟨RX11, "hasWay", "(II)Z"⟩
abbrev cX11_layRest : ByteArray := prog_13_method_33_code
def yX11_layRest : MethodName := ⟨RX11, "layRest", "(III)V"⟩
abbrev cX11_laySteps : ByteArray := prog_13_method_34_code
def yX11_laySteps : MethodName := ⟨RX11, "laySteps", "(I)V"⟩
abbrev cX11_isLeast : ByteArray := prog_13_method_35_code
def yX11_isLeast : MethodName := ⟨RX11, "isLeast", "(III)Z"⟩
abbrev cX11_layAll : ByteArray := prog_13_method_36_code
def yX11_layAll : MethodName := ⟨RX11, "layAll", "()V"⟩
abbrev cX11_laySoonest : ByteArray := prog_13_method_37_code
def yX11_laySoonest : MethodName := ⟨RX11, "laySoonest", "(I)Z"⟩
abbrev cX11_mayAsk : ByteArray := prog_13_method_38_code
def yX11_mayAsk : MethodName := ⟨RX11, "mayAsk", "(I)I"⟩
abbrev cX11_soonest : ByteArray := prog_13_method_39_code
def yX11_soonest : MethodName := ⟨RX11, "soonest", "(I)I"⟩
abbrev cX11_told : ByteArray := prog_13_method_40_code
def yX11_told : MethodName := ⟨RX11, "told", "(II)I"⟩
abbrev cX11_soonestAt : ByteArray := prog_13_method_41_code
def yX11_soonestAt : MethodName := ⟨RX11, "soonestAt", "(III)I"⟩
abbrev cX11_keep : ByteArray := prog_13_method_42_code
def yX11_keep : MethodName := ⟨RX11, "keep", "(I)V"⟩
abbrev cX11_give : ByteArray := prog_13_method_43_code
def yX11_give : MethodName := ⟨RX11, "give", "(I)I"⟩
abbrev cX11_take : ByteArray := prog_13_method_44_code
def yX11_take : MethodName := ⟨RX11, "take", "(I)I"⟩
abbrev cX11_cellAt : ByteArray := prog_13_method_45_code
def yX11_cellAt : MethodName := ⟨RX11, "cellAt", "(II)I"⟩
abbrev cX11_where : ByteArray := prog_13_method_46_code
def yX11_where : MethodName := ⟨RX11, "where", "(II)I"⟩
abbrev cX11_meet : ByteArray := prog_13_method_47_code
def yX11_meet : MethodName := ⟨RX11, "meet", "(III)I"⟩
abbrev cX11_ones : ByteArray := prog_13_method_48_code
def yX11_ones : MethodName := ⟨RX11, "ones", "(I)I"⟩
abbrev cX11_isFirst : ByteArray := prog_13_method_49_code
def yX11_isFirst : MethodName := ⟨RX11, "isFirst", "(II)Z"⟩
abbrev cX11_givenSet : ByteArray := prog_13_method_50_code
def yX11_givenSet : MethodName := ⟨RX11, "givenSet", "()I"⟩
abbrev cX11_barSet : ByteArray := prog_13_method_51_code
def yX11_barSet : MethodName := ⟨RX11, "barSet", "(I)I"⟩
abbrev cX11_nth : ByteArray := prog_13_method_52_code
def yX11_nth : MethodName := ⟨RX11, "nth", "(II)I"⟩
abbrev cX11_bars : ByteArray := prog_13_method_53_code
def yX11_bars : MethodName := ⟨RX11, "bars", "(I)I"⟩
abbrev cX11_bar : ByteArray := prog_13_method_54_code
def yX11_bar : MethodName := ⟨RX11, "bar", "(II)I"⟩
abbrev cX11_goRow : ByteArray := prog_13_method_55_code
def yX11_goRow : MethodName := ⟨RX11, "goRow", "(I)I"⟩
abbrev cX11_takeRow : ByteArray := prog_13_method_56_code
def yX11_takeRow : MethodName := ⟨RX11, "takeRow", "(I)V"⟩
abbrev cX11_layRow : ByteArray := prog_13_method_57_code
def yX11_layRow : MethodName := ⟨RX11, "layRow", "(III)V"⟩
abbrev cX11_layOrders : ByteArray := prog_13_method_58_code
def yX11_layOrders : MethodName := ⟨RX11, "layOrders", "(I)I"⟩
abbrev cX11_maySet : ByteArray := prog_13_method_59_code
def yX11_maySet : MethodName := ⟨RX11, "maySet", "(I)I"⟩
abbrev cX11_atOnce : ByteArray := prog_13_method_60_code
def yX11_atOnce : MethodName := ⟨RX11, "atOnce", "(I)I"⟩
abbrev cX11_order : ByteArray := prog_13_method_61_code
def yX11_order : MethodName := ⟨RX11, "order", "(II)I"⟩
abbrev cX11_giveAll : ByteArray := prog_13_method_62_code
def yX11_giveAll : MethodName := ⟨RX11, "giveAll", "(I)I"⟩
abbrev cX11_silent : ByteArray := prog_13_method_63_code
def yX11_silent : MethodName := ⟨RX11, "silent", "(III)I"⟩
abbrev cX11_isSeenBy : ByteArray := prog_13_method_64_code
def yX11_isSeenBy : MethodName := ⟨RX11, "isSeenBy", "(I)Z"⟩
abbrev cX11_layCould : ByteArray := prog_13_method_65_code
def yX11_layCould : MethodName := ⟨RX11, "layCould", "(I)V"⟩
abbrev cX11_spread : ByteArray := prog_13_method_66_code
def yX11_spread : MethodName := ⟨RX11, "spread", "(I)V"⟩
abbrev cX11_could : ByteArray := prog_13_method_67_code
def yX11_could : MethodName := ⟨RX11, "could", "(I)I"⟩
abbrev cX11_couldBe : ByteArray := prog_13_method_68_code
def yX11_couldBe : MethodName := ⟨RX11, "couldBe", "(II)I"⟩
abbrev cX11_ledOf : ByteArray := prog_13_method_69_code
def yX11_ledOf : MethodName := ⟨RX11, "ledOf", "(I)I"⟩
abbrev cX11_ledOff : ByteArray := prog_13_method_70_code
def yX11_ledOff : MethodName := ⟨RX11, "ledOff", "()I"⟩
abbrev cX11_led : ByteArray := prog_13_method_71_code
def yX11_led : MethodName := ⟨RX11, "led", "(I)I"⟩
abbrev cX11_ledAt : ByteArray := prog_13_method_72_code
def yX11_ledAt : MethodName := ⟨RX11, "ledAt", "(I)I"⟩
abbrev cX11_ears : ByteArray := prog_13_method_73_code
def yX11_ears : MethodName := ⟨RX11, "ears", "(II)I"⟩
abbrev cX11_loud : ByteArray := prog_13_method_74_code
def yX11_loud : MethodName := ⟨RX11, "loud", "(II)I"⟩
abbrev cX11_noiseOf : ByteArray := prog_13_method_75_code
def yX11_noiseOf : MethodName := ⟨RX11, "noiseOf", "(I)I"⟩
abbrev cX11_noise : ByteArray := prog_13_method_76_code
def yX11_noise : MethodName := ⟨RX11, "noise", "(I)I"⟩
abbrev cX11_worst : ByteArray := prog_13_method_77_code
def yX11_worst : MethodName := ⟨RX11, "worst", "(Z)I"⟩
abbrev cX11_layQuietest : ByteArray := prog_13_method_78_code
def yX11_layQuietest : MethodName := ⟨RX11, "layQuietest", "(I)I"⟩
abbrev cX11_quietest : ByteArray := prog_13_method_79_code
def yX11_quietest : MethodName := ⟨RX11, "quietest", "(I)I"⟩
abbrev cX11_price : ByteArray := prog_13_method_80_code
def yX11_price : MethodName := ⟨RX11, "price", "(I)I"⟩
abbrev cX11_quietAt : ByteArray := prog_13_method_81_code
def yX11_quietAt : MethodName := ⟨RX11, "quietAt", "(III)I"⟩
abbrev cX11_giveQuiet : ByteArray := prog_13_method_82_code
def yX11_giveQuiet : MethodName := ⟨RX11, "giveQuiet", "(I)I"⟩
abbrev cX11_count : ByteArray := prog_13_method_83_code
def yX11_count : MethodName := ⟨RX11, "count", "(I)I"⟩
def RJ6 : String := "java/lang/Integer"
abbrev cJ6_bitCount_0f7a4 : ByteArray := prog_14_method_49_code
def yJ6_bitCount_0f7a4 : MethodName := ⟨RJ6, "bitCount", "(I)I"⟩
def RJ13 : String := "java/lang/Long"
abbrev cJ13_bitCount_95d88 : ByteArray := prog_15_method_50_code
def yJ13_bitCount_95d88 : MethodName := ⟨RJ13, "bitCount", "(J)I"⟩
def RJ9 : String := "java/lang/Math"
abbrev cJ9_abs_0f7a4 : ByteArray := prog_16_method_59_code
def yJ9_abs_0f7a4 : MethodName := ⟨RJ9, "abs", "(I)I"⟩
abbrev cJ9_max_7cf53 : ByteArray := prog_16_method_65_code
def yJ9_max_7cf53 : MethodName := ⟨RJ9, "max", "(II)I"⟩
abbrev cJ9_min_7cf53 : ByteArray := prog_16_method_69_code
def yJ9_min_7cf53 : MethodName := ⟨RJ9, "min", "(II)I"⟩
def RL : String := "SmallFlyersLaw"
abbrev cL_law : ByteArray := code
def yL_law : MethodName := ⟨RL, "law", "([I)Z"⟩
abbrev vwCl : List vw_C := [(RX0, TX0, 9), (RX1, TX1, 5), (RX2, TX2, 2), (RX3, TX3, 8), (RX4, TX4, 7), (RX5, TX5, 3), (RX6, TX6, 7), (RX7, TX7, 7), (RX8, TX8, 15), (RX9, TX9, 4), (RX10, TX10, 8), (RX11, TX11, 32)]
end
section
theorem dX0_init_0 : decode cX0_init 0 = .ok (.aload_n 0, 1) := by decide +kernel
theorem dX0_init_1 : decode cX0_init 1 = .ok (.invokespecial 1, 3) := by decide +kernel
theorem dX0_init_4 : decode cX0_init 4 = .ok (.aload_n 0, 1) := by decide +kernel
theorem dX0_init_5 : decode cX0_init 5 = .ok (.new 7, 3) := by decide +kernel
theorem dX0_init_8 : decode cX0_init 8 = .ok (.dup, 1) := by decide +kernel
theorem dX0_init_9 : decode cX0_init 9 = .ok (.invokespecial 9, 3) := by decide +kernel
theorem dX0_init_12 : decode cX0_init 12 = .ok (.putfield 10, 3) := by decide +kernel
theorem dX0_init_15 : decode cX0_init 15 = .ok (.return_, 1) := by decide +kernel
theorem dX0_between_0 : decode cX0_between 0 = .ok (.aload_n 0, 1) := by decide +kernel
theorem dX0_between_1 : decode cX0_between 1 = .ok (.iload_n 1, 1) := by decide +kernel
theorem dX0_between_2 : decode cX0_between 2 = .ok (.putfield 16, 3) := by decide +kernel
theorem dX0_between_5 : decode cX0_between 5 = .ok (.aload_n 0, 1) := by decide +kernel
theorem dX0_between_6 : decode cX0_between 6 = .ok (.iload_n 2, 1) := by decide +kernel
theorem dX0_between_7 : decode cX0_between 7 = .ok (.putfield 20, 3) := by decide +kernel
theorem dX0_between_10 : decode cX0_between 10 = .ok (.aload_n 0, 1) := by decide +kernel
theorem dX0_between_11 : decode cX0_between 11 = .ok (.iconst 0, 1) := by decide +kernel
theorem dX0_between_12 : decode cX0_between 12 = .ok (.putfield 23, 3) := by decide +kernel
theorem dX0_between_15 : decode cX0_between 15 = .ok (.return_, 1) := by decide +kernel
theorem dX0_within_0 : decode cX0_within 0 = .ok (.aload_n 0, 1) := by decide +kernel
theorem dX0_within_1 : decode cX0_within 1 = .ok (.iload_n 1, 1) := by decide +kernel
theorem dX0_within_2 : decode cX0_within 2 = .ok (.putfield 27, 3) := by decide +kernel
theorem dX0_within_5 : decode cX0_within 5 = .ok (.aload_n 0, 1) := by decide +kernel
theorem dX0_within_6 : decode cX0_within 6 = .ok (.iload_n 2, 1) := by decide +kernel
theorem dX0_within_7 : decode cX0_within 7 = .ok (.putfield 30, 3) := by decide +kernel
theorem dX0_within_10 : decode cX0_within 10 = .ok (.return_, 1) := by decide +kernel
theorem dX0_like_0 : decode cX0_like 0 = .ok (.aload_n 0, 1) := by decide +kernel
theorem dX0_like_1 : decode cX0_like 1 = .ok (.iload_n 1, 1) := by decide +kernel
theorem dX0_like_2 : decode cX0_like 2 = .ok (.putfield 33, 3) := by decide +kernel
theorem dX0_like_5 : decode cX0_like 5 = .ok (.aload_n 0, 1) := by decide +kernel
theorem dX0_like_6 : decode cX0_like 6 = .ok (.iload_n 2, 1) := by decide +kernel
theorem dX0_like_7 : decode cX0_like 7 = .ok (.putfield 36, 3) := by decide +kernel
theorem dX0_like_10 : decode cX0_like 10 = .ok (.aload_n 0, 1) := by decide +kernel
theorem dX0_like_11 : decode cX0_like 11 = .ok (.iload_n 3, 1) := by decide +kernel
theorem dX0_like_12 : decode cX0_like 12 = .ok (.putfield 39, 3) := by decide +kernel
theorem dX0_like_15 : decode cX0_like 15 = .ok (.return_, 1) := by decide +kernel
theorem dX1_init_0 : decode cX1_init 0 = .ok (.aload_n 0, 1) := by decide +kernel
theorem dX1_init_1 : decode cX1_init 1 = .ok (.invokespecial 3, 3) := by decide +kernel
theorem dX1_init_4 : decode cX1_init 4 = .ok (.aload_n 0, 1) := by decide +kernel
theorem dX1_init_5 : decode cX1_init 5 = .ok (.bipush 10, 2) := by decide +kernel
theorem dX1_init_7 : decode cX1_init 7 = .ok (.newarray .int, 2) := by decide +kernel
theorem dX1_init_9 : decode cX1_init 9 = .ok (.putfield 9, 3) := by decide +kernel
theorem dX1_init_12 : decode cX1_init 12 = .ok (.aload_n 0, 1) := by decide +kernel
theorem dX1_init_13 : decode cX1_init 13 = .ok (.bipush 10, 2) := by decide +kernel
theorem dX1_init_15 : decode cX1_init 15 = .ok (.newarray .int, 2) := by decide +kernel
theorem dX1_init_17 : decode cX1_init 17 = .ok (.putfield 15, 3) := by decide +kernel
theorem dX1_init_20 : decode cX1_init 20 = .ok (.aload_n 0, 1) := by decide +kernel
theorem dX1_init_21 : decode cX1_init 21 = .ok (.aload_n 1, 1) := by decide +kernel
theorem dX1_init_22 : decode cX1_init 22 = .ok (.putfield 18, 3) := by decide +kernel
theorem dX1_init_25 : decode cX1_init 25 = .ok (.aload_n 0, 1) := by decide +kernel
theorem dX1_init_26 : decode cX1_init 26 = .ok (.aload_n 2, 1) := by decide +kernel
theorem dX1_init_27 : decode cX1_init 27 = .ok (.putfield 22, 3) := by decide +kernel
theorem dX1_init_30 : decode cX1_init 30 = .ok (.return_, 1) := by decide +kernel
theorem dX1_number_0 : decode cX1_number 0 = .ok (.iload_n 1, 1) := by decide +kernel
theorem dX1_number_1 : decode cX1_number 1 = .ok (.ifCond .lt 26, 3) := by decide +kernel
theorem dX1_number_4 : decode cX1_number 4 = .ok (.iload_n 1, 1) := by decide +kernel
theorem dX1_number_5 : decode cX1_number 5 = .ok (.aload_n 0, 1) := by decide +kernel
theorem dX1_number_6 : decode cX1_number 6 = .ok (.getfield 26, 3) := by decide +kernel
theorem dX1_number_9 : decode cX1_number 9 = .ok (.if_icmp .ge 18, 3) := by decide +kernel
theorem dX1_number_12 : decode cX1_number 12 = .ok (.iload_n 1, 1) := by decide +kernel
theorem dX1_number_13 : decode cX1_number 13 = .ok (.bipush 10, 2) := by decide +kernel
theorem dX1_number_15 : decode cX1_number 15 = .ok (.if_icmp .ge 12, 3) := by decide +kernel
theorem dX1_number_18 : decode cX1_number 18 = .ok (.aload_n 0, 1) := by decide +kernel
theorem dX1_number_19 : decode cX1_number 19 = .ok (.getfield 9, 3) := by decide +kernel
theorem dX1_number_22 : decode cX1_number 22 = .ok (.iload_n 1, 1) := by decide +kernel
theorem dX1_number_23 : decode cX1_number 23 = .ok (.iaload, 1) := by decide +kernel
theorem dX1_number_24 : decode cX1_number 24 = .ok (.goto 5, 3) := by decide +kernel
theorem dX1_number_27 : decode cX1_number 27 = .ok (.ldc 30, 2) := by decide +kernel
theorem dX1_number_29 : decode cX1_number 29 = .ok (.ireturn, 1) := by decide +kernel
theorem dX1_find_0 : decode cX1_find 0 = .ok (.aload_n 0, 1) := by decide +kernel
theorem dX1_find_1 : decode cX1_find 1 = .ok (.iconst 0, 1) := by decide +kernel
theorem dX1_find_2 : decode cX1_find 2 = .ok (.putfield 26, 3) := by decide +kernel
theorem dX1_find_5 : decode cX1_find 5 = .ok (.aload_n 0, 1) := by decide +kernel
theorem dX1_find_6 : decode cX1_find 6 = .ok (.getfield 18, 3) := by decide +kernel
theorem dX1_find_9 : decode cX1_find 9 = .ok (.invokevirtual 31, 3) := by decide +kernel
theorem dX1_find_12 : decode cX1_find 12 = .ok (.istore_n 2, 1) := by decide +kernel
theorem dX1_find_13 : decode cX1_find 13 = .ok (.aload_n 0, 1) := by decide +kernel
theorem dX1_find_14 : decode cX1_find 14 = .ok (.getfield 22, 3) := by decide +kernel
theorem dX1_find_17 : decode cX1_find 17 = .ok (.aload_n 1, 1) := by decide +kernel
theorem dX1_find_18 : decode cX1_find 18 = .ok (.iload_n 2, 1) := by decide +kernel
theorem dX1_find_19 : decode cX1_find 19 = .ok (.invokevirtual 37, 3) := by decide +kernel
theorem dX1_find_22 : decode cX1_find 22 = .ok (.ifCond .ne 5, 3) := by decide +kernel
theorem dX1_find_25 : decode cX1_find 25 = .ok (.iconst 0, 1) := by decide +kernel
theorem dX1_find_26 : decode cX1_find 26 = .ok (.ireturn, 1) := by decide +kernel
theorem dX1_find_27 : decode cX1_find 27 = .ok (.aload_n 0, 1) := by decide +kernel
theorem dX1_find_28 : decode cX1_find 28 = .ok (.iload_n 2, 1) := by decide +kernel
theorem dX1_find_29 : decode cX1_find 29 = .ok (.invokevirtual 43, 3) := by decide +kernel
theorem dX1_find_32 : decode cX1_find 32 = .ok (.istore_n 3, 1) := by decide +kernel
theorem dX1_find_33 : decode cX1_find 33 = .ok (.iconst 0, 1) := by decide +kernel
theorem dX1_find_34 : decode cX1_find 34 = .ok (.istore 4, 2) := by decide +kernel
theorem dX1_find_36 : decode cX1_find 36 = .ok (.iload 4, 2) := by decide +kernel
theorem dX1_find_38 : decode cX1_find 38 = .ok (.iload_n 3, 1) := by decide +kernel
theorem dX1_find_39 : decode cX1_find 39 = .ok (.if_icmp .gt 33, 3) := by decide +kernel
theorem dX1_find_42 : decode cX1_find 42 = .ok (.aload_n 0, 1) := by decide +kernel
theorem dX1_find_43 : decode cX1_find 43 = .ok (.aload_n 1, 1) := by decide +kernel
theorem dX1_find_44 : decode cX1_find 44 = .ok (.iload 4, 2) := by decide +kernel
theorem dX1_find_46 : decode cX1_find 46 = .ok (.iload_n 3, 1) := by decide +kernel
theorem dX1_find_47 : decode cX1_find 47 = .ok (.invokevirtual 47, 3) := by decide +kernel
theorem dX1_find_50 : decode cX1_find 50 = .ok (.istore 5, 2) := by decide +kernel
theorem dX1_find_52 : decode cX1_find 52 = .ok (.iload 5, 2) := by decide +kernel
theorem dX1_find_54 : decode cX1_find 54 = .ok (.iconst (-1), 1) := by decide +kernel
theorem dX1_find_55 : decode cX1_find 55 = .ok (.if_icmp .eq 11, 3) := by decide +kernel
theorem dX1_find_58 : decode cX1_find 58 = .ok (.aload_n 0, 1) := by decide +kernel
theorem dX1_find_59 : decode cX1_find 59 = .ok (.iload 5, 2) := by decide +kernel
theorem dX1_find_61 : decode cX1_find 61 = .ok (.invokevirtual 51, 3) := by decide +kernel
theorem dX1_find_64 : decode cX1_find 64 = .ok (.iconst 1, 1) := by decide +kernel
theorem dX1_find_65 : decode cX1_find 65 = .ok (.ireturn, 1) := by decide +kernel
theorem dX1_find_66 : decode cX1_find 66 = .ok (.iinc 4 1, 3) := by decide +kernel
theorem dX1_find_69 : decode cX1_find 69 = .ok (.goto (-33), 3) := by decide +kernel
theorem dX1_find_72 : decode cX1_find 72 = .ok (.iconst 0, 1) := by decide +kernel
theorem dX1_find_73 : decode cX1_find 73 = .ok (.ireturn, 1) := by decide +kernel
theorem dX1_listGiven_0 : decode cX1_listGiven 0 = .ok (.iconst 0, 1) := by decide +kernel
theorem dX1_listGiven_1 : decode cX1_listGiven 1 = .ok (.istore_n 2, 1) := by decide +kernel
theorem dX1_listGiven_2 : decode cX1_listGiven 2 = .ok (.iconst 0, 1) := by decide +kernel
theorem dX1_listGiven_3 : decode cX1_listGiven 3 = .ok (.istore_n 3, 1) := by decide +kernel
theorem dX1_listGiven_4 : decode cX1_listGiven 4 = .ok (.iload_n 3, 1) := by decide +kernel
theorem dX1_listGiven_5 : decode cX1_listGiven 5 = .ok (.bipush 10, 2) := by decide +kernel
theorem dX1_listGiven_7 : decode cX1_listGiven 7 = .ok (.if_icmp .ge 27, 3) := by decide +kernel
theorem dX1_listGiven_10 : decode cX1_listGiven 10 = .ok (.iload_n 1, 1) := by decide +kernel
theorem dX1_listGiven_11 : decode cX1_listGiven 11 = .ok (.iload_n 3, 1) := by decide +kernel
theorem dX1_listGiven_12 : decode cX1_listGiven 12 = .ok (.invokestatic 55, 3) := by decide +kernel
theorem dX1_listGiven_15 : decode cX1_listGiven 15 = .ok (.ifCond .eq 13, 3) := by decide +kernel
theorem dX1_listGiven_18 : decode cX1_listGiven 18 = .ok (.aload_n 0, 1) := by decide +kernel
theorem dX1_listGiven_19 : decode cX1_listGiven 19 = .ok (.getfield 15, 3) := by decide +kernel
theorem dX1_listGiven_22 : decode cX1_listGiven 22 = .ok (.iload_n 2, 1) := by decide +kernel
theorem dX1_listGiven_23 : decode cX1_listGiven 23 = .ok (.iload_n 3, 1) := by decide +kernel
theorem dX1_listGiven_24 : decode cX1_listGiven 24 = .ok (.iastore, 1) := by decide +kernel
theorem dX1_listGiven_25 : decode cX1_listGiven 25 = .ok (.iinc 2 1, 3) := by decide +kernel
theorem dX1_listGiven_28 : decode cX1_listGiven 28 = .ok (.iinc 3 1, 3) := by decide +kernel
theorem dX1_listGiven_31 : decode cX1_listGiven 31 = .ok (.goto (-27), 3) := by decide +kernel
theorem dX1_listGiven_34 : decode cX1_listGiven 34 = .ok (.iload_n 2, 1) := by decide +kernel
theorem dX1_listGiven_35 : decode cX1_listGiven 35 = .ok (.ireturn, 1) := by decide +kernel
theorem dX1_firstOfSize_0 : decode cX1_firstOfSize 0 = .ok (.iconst 1, 1) := by decide +kernel
theorem dX1_firstOfSize_1 : decode cX1_firstOfSize 1 = .ok (.iload_n 3, 1) := by decide +kernel
theorem dX1_firstOfSize_2 : decode cX1_firstOfSize 2 = .ok (.ishl, 1) := by decide +kernel
theorem dX1_firstOfSize_3 : decode cX1_firstOfSize 3 = .ok (.iconst 1, 1) := by decide +kernel
theorem dX1_firstOfSize_4 : decode cX1_firstOfSize 4 = .ok (.isub, 1) := by decide +kernel
theorem dX1_firstOfSize_5 : decode cX1_firstOfSize 5 = .ok (.istore 4, 2) := by decide +kernel
theorem dX1_firstOfSize_7 : decode cX1_firstOfSize 7 = .ok (.iload 4, 2) := by decide +kernel
theorem dX1_firstOfSize_9 : decode cX1_firstOfSize 9 = .ok (.ifCond .lt 43, 3) := by decide +kernel
theorem dX1_firstOfSize_12 : decode cX1_firstOfSize 12 = .ok (.iload 4, 2) := by decide +kernel
theorem dX1_firstOfSize_14 : decode cX1_firstOfSize 14 = .ok (.invokestatic 59, 3) := by decide +kernel
theorem dX1_firstOfSize_17 : decode cX1_firstOfSize 17 = .ok (.iload_n 2, 1) := by decide +kernel
theorem dX1_firstOfSize_18 : decode cX1_firstOfSize 18 = .ok (.if_icmp .ne 28, 3) := by decide +kernel
theorem dX1_firstOfSize_21 : decode cX1_firstOfSize 21 = .ok (.aload_n 0, 1) := by decide +kernel
theorem dX1_firstOfSize_22 : decode cX1_firstOfSize 22 = .ok (.iload 4, 2) := by decide +kernel
theorem dX1_firstOfSize_24 : decode cX1_firstOfSize 24 = .ok (.iload_n 3, 1) := by decide +kernel
theorem dX1_firstOfSize_25 : decode cX1_firstOfSize 25 = .ok (.invokevirtual 64, 3) := by decide +kernel
theorem dX1_firstOfSize_28 : decode cX1_firstOfSize 28 = .ok (.istore 5, 2) := by decide +kernel
theorem dX1_firstOfSize_30 : decode cX1_firstOfSize 30 = .ok (.aload_n 0, 1) := by decide +kernel
theorem dX1_firstOfSize_31 : decode cX1_firstOfSize 31 = .ok (.getfield 22, 3) := by decide +kernel
theorem dX1_firstOfSize_34 : decode cX1_firstOfSize 34 = .ok (.aload_n 1, 1) := by decide +kernel
theorem dX1_firstOfSize_35 : decode cX1_firstOfSize 35 = .ok (.iload 5, 2) := by decide +kernel
theorem dX1_firstOfSize_37 : decode cX1_firstOfSize 37 = .ok (.invokevirtual 37, 3) := by decide +kernel
theorem dX1_firstOfSize_40 : decode cX1_firstOfSize 40 = .ok (.ifCond .eq 6, 3) := by decide +kernel
theorem dX1_firstOfSize_43 : decode cX1_firstOfSize 43 = .ok (.iload 5, 2) := by decide +kernel
theorem dX1_firstOfSize_45 : decode cX1_firstOfSize 45 = .ok (.ireturn, 1) := by decide +kernel
theorem dX1_firstOfSize_46 : decode cX1_firstOfSize 46 = .ok (.iinc 4 (-1), 3) := by decide +kernel
theorem dX1_firstOfSize_49 : decode cX1_firstOfSize 49 = .ok (.goto (-42), 3) := by decide +kernel
theorem dX1_firstOfSize_52 : decode cX1_firstOfSize 52 = .ok (.iconst (-1), 1) := by decide +kernel
theorem dX1_firstOfSize_53 : decode cX1_firstOfSize 53 = .ok (.ireturn, 1) := by decide +kernel
theorem dX1_decoded_0 : decode cX1_decoded 0 = .ok (.iconst 0, 1) := by decide +kernel
theorem dX1_decoded_1 : decode cX1_decoded 1 = .ok (.istore_n 3, 1) := by decide +kernel
theorem dX1_decoded_2 : decode cX1_decoded 2 = .ok (.iconst 0, 1) := by decide +kernel
theorem dX1_decoded_3 : decode cX1_decoded 3 = .ok (.istore 4, 2) := by decide +kernel
theorem dX1_decoded_5 : decode cX1_decoded 5 = .ok (.iload 4, 2) := by decide +kernel
theorem dX1_decoded_7 : decode cX1_decoded 7 = .ok (.iload_n 2, 1) := by decide +kernel
theorem dX1_decoded_8 : decode cX1_decoded 8 = .ok (.if_icmp .ge 41, 3) := by decide +kernel
theorem dX1_decoded_11 : decode cX1_decoded 11 = .ok (.iload 4, 2) := by decide +kernel
theorem dX1_decoded_13 : decode cX1_decoded 13 = .ok (.bipush 10, 2) := by decide +kernel
theorem dX1_decoded_15 : decode cX1_decoded 15 = .ok (.if_icmp .ge 34, 3) := by decide +kernel
theorem dX1_decoded_18 : decode cX1_decoded 18 = .ok (.iload_n 1, 1) := by decide +kernel
theorem dX1_decoded_19 : decode cX1_decoded 19 = .ok (.iload_n 2, 1) := by decide +kernel
theorem dX1_decoded_20 : decode cX1_decoded 20 = .ok (.iconst 1, 1) := by decide +kernel
theorem dX1_decoded_21 : decode cX1_decoded 21 = .ok (.isub, 1) := by decide +kernel
theorem dX1_decoded_22 : decode cX1_decoded 22 = .ok (.iload 4, 2) := by decide +kernel
theorem dX1_decoded_24 : decode cX1_decoded 24 = .ok (.isub, 1) := by decide +kernel
theorem dX1_decoded_25 : decode cX1_decoded 25 = .ok (.invokestatic 55, 3) := by decide +kernel
theorem dX1_decoded_28 : decode cX1_decoded 28 = .ok (.ifCond .eq 15, 3) := by decide +kernel
theorem dX1_decoded_31 : decode cX1_decoded 31 = .ok (.iload_n 3, 1) := by decide +kernel
theorem dX1_decoded_32 : decode cX1_decoded 32 = .ok (.iconst 1, 1) := by decide +kernel
theorem dX1_decoded_33 : decode cX1_decoded 33 = .ok (.aload_n 0, 1) := by decide +kernel
theorem dX1_decoded_34 : decode cX1_decoded 34 = .ok (.getfield 15, 3) := by decide +kernel
theorem dX1_decoded_37 : decode cX1_decoded 37 = .ok (.iload 4, 2) := by decide +kernel
theorem dX1_decoded_39 : decode cX1_decoded 39 = .ok (.iaload, 1) := by decide +kernel
theorem dX1_decoded_40 : decode cX1_decoded 40 = .ok (.ishl, 1) := by decide +kernel
theorem dX1_decoded_41 : decode cX1_decoded 41 = .ok (.ior, 1) := by decide +kernel
theorem dX1_decoded_42 : decode cX1_decoded 42 = .ok (.istore_n 3, 1) := by decide +kernel
theorem dX1_decoded_43 : decode cX1_decoded 43 = .ok (.iinc 4 1, 3) := by decide +kernel
theorem dX1_decoded_46 : decode cX1_decoded 46 = .ok (.goto (-41), 3) := by decide +kernel
theorem dX1_decoded_49 : decode cX1_decoded 49 = .ok (.iload_n 3, 1) := by decide +kernel
theorem dX1_decoded_50 : decode cX1_decoded 50 = .ok (.ireturn, 1) := by decide +kernel
theorem dX1_keep_0 : decode cX1_keep 0 = .ok (.iconst 0, 1) := by decide +kernel
theorem dX1_keep_1 : decode cX1_keep 1 = .ok (.istore_n 2, 1) := by decide +kernel
theorem dX1_keep_2 : decode cX1_keep 2 = .ok (.iload_n 2, 1) := by decide +kernel
theorem dX1_keep_3 : decode cX1_keep 3 = .ok (.bipush 10, 2) := by decide +kernel
theorem dX1_keep_5 : decode cX1_keep 5 = .ok (.if_icmp .ge 37, 3) := by decide +kernel
theorem dX1_keep_8 : decode cX1_keep 8 = .ok (.iload_n 1, 1) := by decide +kernel
theorem dX1_keep_9 : decode cX1_keep 9 = .ok (.iload_n 2, 1) := by decide +kernel
theorem dX1_keep_10 : decode cX1_keep 10 = .ok (.invokestatic 55, 3) := by decide +kernel
theorem dX1_keep_13 : decode cX1_keep 13 = .ok (.ifCond .eq 23, 3) := by decide +kernel
theorem dX1_keep_16 : decode cX1_keep 16 = .ok (.aload_n 0, 1) := by decide +kernel
theorem dX1_keep_17 : decode cX1_keep 17 = .ok (.getfield 9, 3) := by decide +kernel
theorem dX1_keep_20 : decode cX1_keep 20 = .ok (.aload_n 0, 1) := by decide +kernel
theorem dX1_keep_21 : decode cX1_keep 21 = .ok (.getfield 26, 3) := by decide +kernel
theorem dX1_keep_24 : decode cX1_keep 24 = .ok (.iload_n 2, 1) := by decide +kernel
theorem dX1_keep_25 : decode cX1_keep 25 = .ok (.iastore, 1) := by decide +kernel
theorem dX1_keep_26 : decode cX1_keep 26 = .ok (.aload_n 0, 1) := by decide +kernel
theorem dX1_keep_27 : decode cX1_keep 27 = .ok (.dup, 1) := by decide +kernel
theorem dX1_keep_28 : decode cX1_keep 28 = .ok (.getfield 26, 3) := by decide +kernel
theorem dX1_keep_31 : decode cX1_keep 31 = .ok (.iconst 1, 1) := by decide +kernel
theorem dX1_keep_32 : decode cX1_keep 32 = .ok (.iadd, 1) := by decide +kernel
theorem dX1_keep_33 : decode cX1_keep 33 = .ok (.putfield 26, 3) := by decide +kernel
theorem dX1_keep_36 : decode cX1_keep 36 = .ok (.iinc 2 1, 3) := by decide +kernel
theorem dX1_keep_39 : decode cX1_keep 39 = .ok (.goto (-37), 3) := by decide +kernel
theorem dX1_keep_42 : decode cX1_keep 42 = .ok (.return_, 1) := by decide +kernel
theorem dX2_init_0 : decode cX2_init 0 = .ok (.aload_n 0, 1) := by decide +kernel
theorem dX2_init_1 : decode cX2_init 1 = .ok (.invokespecial 3, 3) := by decide +kernel
theorem dX2_init_4 : decode cX2_init 4 = .ok (.aload_n 0, 1) := by decide +kernel
theorem dX2_init_5 : decode cX2_init 5 = .ok (.bipush 10, 2) := by decide +kernel
theorem dX2_init_7 : decode cX2_init 7 = .ok (.anewarray 9, 3) := by decide +kernel
theorem dX2_init_10 : decode cX2_init 10 = .ok (.putfield 11, 3) := by decide +kernel
theorem dX2_init_13 : decode cX2_init 13 = .ok (.iconst 0, 1) := by decide +kernel
theorem dX2_init_14 : decode cX2_init 14 = .ok (.istore_n 1, 1) := by decide +kernel
theorem dX2_init_15 : decode cX2_init 15 = .ok (.iload_n 1, 1) := by decide +kernel
theorem dX2_init_16 : decode cX2_init 16 = .ok (.bipush 10, 2) := by decide +kernel
theorem dX2_init_18 : decode cX2_init 18 = .ok (.if_icmp .ge 22, 3) := by decide +kernel
theorem dX2_init_21 : decode cX2_init 21 = .ok (.aload_n 0, 1) := by decide +kernel
theorem dX2_init_22 : decode cX2_init 22 = .ok (.getfield 11, 3) := by decide +kernel
theorem dX2_init_25 : decode cX2_init 25 = .ok (.iload_n 1, 1) := by decide +kernel
theorem dX2_init_26 : decode cX2_init 26 = .ok (.new 9, 3) := by decide +kernel
theorem dX2_init_29 : decode cX2_init 29 = .ok (.dup, 1) := by decide +kernel
theorem dX2_init_30 : decode cX2_init 30 = .ok (.invokespecial 17, 3) := by decide +kernel
theorem dX2_init_33 : decode cX2_init 33 = .ok (.aastore, 1) := by decide +kernel
theorem dX2_init_34 : decode cX2_init 34 = .ok (.iinc 1 1, 3) := by decide +kernel
theorem dX2_init_37 : decode cX2_init 37 = .ok (.goto (-22), 3) := by decide +kernel
theorem dX2_init_40 : decode cX2_init 40 = .ok (.return_, 1) := by decide +kernel
theorem dX2_has_0 : decode cX2_has 0 = .ok (.iload_n 1, 1) := by decide +kernel
theorem dX2_has_1 : decode cX2_has 1 = .ok (.ifCond .lt 15, 3) := by decide +kernel
theorem dX2_has_4 : decode cX2_has 4 = .ok (.iload_n 1, 1) := by decide +kernel
theorem dX2_has_5 : decode cX2_has 5 = .ok (.aload_n 0, 1) := by decide +kernel
theorem dX2_has_6 : decode cX2_has 6 = .ok (.getfield 18, 3) := by decide +kernel
theorem dX2_has_9 : decode cX2_has 9 = .ok (.if_icmp .ge 7, 3) := by decide +kernel
theorem dX2_has_12 : decode cX2_has 12 = .ok (.iconst 1, 1) := by decide +kernel
theorem dX2_has_13 : decode cX2_has 13 = .ok (.goto 4, 3) := by decide +kernel
theorem dX2_has_16 : decode cX2_has 16 = .ok (.iconst 0, 1) := by decide +kernel
theorem dX2_has_17 : decode cX2_has 17 = .ok (.ireturn, 1) := by decide +kernel
theorem dX2_isFull_0 : decode cX2_isFull 0 = .ok (.aload_n 0, 1) := by decide +kernel
theorem dX2_isFull_1 : decode cX2_isFull 1 = .ok (.getfield 18, 3) := by decide +kernel
theorem dX2_isFull_4 : decode cX2_isFull 4 = .ok (.bipush 10, 2) := by decide +kernel
theorem dX2_isFull_6 : decode cX2_isFull 6 = .ok (.if_icmp .lt 7, 3) := by decide +kernel
theorem dX2_isFull_9 : decode cX2_isFull 9 = .ok (.iconst 1, 1) := by decide +kernel
theorem dX2_isFull_10 : decode cX2_isFull 10 = .ok (.goto 4, 3) := by decide +kernel
theorem dX2_isFull_13 : decode cX2_isFull 13 = .ok (.iconst 0, 1) := by decide +kernel
theorem dX2_isFull_14 : decode cX2_isFull 14 = .ok (.ireturn, 1) := by decide +kernel
theorem dX2_add_0 : decode cX2_add 0 = .ok (.aload_n 0, 1) := by decide +kernel
theorem dX2_add_1 : decode cX2_add 1 = .ok (.getfield 11, 3) := by decide +kernel
theorem dX2_add_4 : decode cX2_add 4 = .ok (.aload_n 0, 1) := by decide +kernel
theorem dX2_add_5 : decode cX2_add 5 = .ok (.getfield 18, 3) := by decide +kernel
theorem dX2_add_8 : decode cX2_add 8 = .ok (.bipush 9, 2) := by decide +kernel
theorem dX2_add_10 : decode cX2_add 10 = .ok (.invokestatic 22, 3) := by decide +kernel
theorem dX2_add_13 : decode cX2_add 13 = .ok (.aaload, 1) := by decide +kernel
theorem dX2_add_14 : decode cX2_add 14 = .ok (.astore_n 1, 1) := by decide +kernel
theorem dX2_add_15 : decode cX2_add 15 = .ok (.aload_n 0, 1) := by decide +kernel
theorem dX2_add_16 : decode cX2_add 16 = .ok (.aload_n 0, 1) := by decide +kernel
theorem dX2_add_17 : decode cX2_add 17 = .ok (.getfield 18, 3) := by decide +kernel
theorem dX2_add_20 : decode cX2_add 20 = .ok (.iconst 1, 1) := by decide +kernel
theorem dX2_add_21 : decode cX2_add 21 = .ok (.iadd, 1) := by decide +kernel
theorem dX2_add_22 : decode cX2_add 22 = .ok (.bipush 10, 2) := by decide +kernel
theorem dX2_add_24 : decode cX2_add 24 = .ok (.invokestatic 22, 3) := by decide +kernel
theorem dX2_add_27 : decode cX2_add 27 = .ok (.putfield 18, 3) := by decide +kernel
theorem dX2_add_30 : decode cX2_add 30 = .ok (.aload_n 1, 1) := by decide +kernel
theorem dX2_add_31 : decode cX2_add 31 = .ok (.areturn, 1) := by decide +kernel
theorem dX2_givenOnes_0 : decode cX2_givenOnes 0 = .ok (.iconst 0, 1) := by decide +kernel
theorem dX2_givenOnes_1 : decode cX2_givenOnes 1 = .ok (.istore_n 1, 1) := by decide +kernel
theorem dX2_givenOnes_2 : decode cX2_givenOnes 2 = .ok (.iconst 0, 1) := by decide +kernel
theorem dX2_givenOnes_3 : decode cX2_givenOnes 3 = .ok (.istore_n 2, 1) := by decide +kernel
theorem dX2_givenOnes_4 : decode cX2_givenOnes 4 = .ok (.iload_n 2, 1) := by decide +kernel
theorem dX2_givenOnes_5 : decode cX2_givenOnes 5 = .ok (.aload_n 0, 1) := by decide +kernel
theorem dX2_givenOnes_6 : decode cX2_givenOnes 6 = .ok (.getfield 18, 3) := by decide +kernel
theorem dX2_givenOnes_9 : decode cX2_givenOnes 9 = .ok (.if_icmp .ge 27, 3) := by decide +kernel
theorem dX2_givenOnes_12 : decode cX2_givenOnes 12 = .ok (.aload_n 0, 1) := by decide +kernel
theorem dX2_givenOnes_13 : decode cX2_givenOnes 13 = .ok (.getfield 11, 3) := by decide +kernel
theorem dX2_givenOnes_16 : decode cX2_givenOnes 16 = .ok (.iload_n 2, 1) := by decide +kernel
theorem dX2_givenOnes_17 : decode cX2_givenOnes 17 = .ok (.aaload, 1) := by decide +kernel
theorem dX2_givenOnes_18 : decode cX2_givenOnes 18 = .ok (.getfield 28, 3) := by decide +kernel
theorem dX2_givenOnes_21 : decode cX2_givenOnes 21 = .ok (.ifCond .eq 9, 3) := by decide +kernel
theorem dX2_givenOnes_24 : decode cX2_givenOnes 24 = .ok (.iload_n 1, 1) := by decide +kernel
theorem dX2_givenOnes_25 : decode cX2_givenOnes 25 = .ok (.iconst 1, 1) := by decide +kernel
theorem dX2_givenOnes_26 : decode cX2_givenOnes 26 = .ok (.iload_n 2, 1) := by decide +kernel
theorem dX2_givenOnes_27 : decode cX2_givenOnes 27 = .ok (.ishl, 1) := by decide +kernel
theorem dX2_givenOnes_28 : decode cX2_givenOnes 28 = .ok (.ior, 1) := by decide +kernel
theorem dX2_givenOnes_29 : decode cX2_givenOnes 29 = .ok (.istore_n 1, 1) := by decide +kernel
theorem dX2_givenOnes_30 : decode cX2_givenOnes 30 = .ok (.iinc 2 1, 3) := by decide +kernel
theorem dX2_givenOnes_33 : decode cX2_givenOnes 33 = .ok (.goto (-29), 3) := by decide +kernel
theorem dX2_givenOnes_36 : decode cX2_givenOnes 36 = .ok (.iload_n 1, 1) := by decide +kernel
theorem dX2_givenOnes_37 : decode cX2_givenOnes 37 = .ok (.ireturn, 1) := by decide +kernel
theorem dX2_countGiven_0 : decode cX2_countGiven 0 = .ok (.aload_n 0, 1) := by decide +kernel
theorem dX2_countGiven_1 : decode cX2_countGiven 1 = .ok (.invokevirtual 32, 3) := by decide +kernel
theorem dX2_countGiven_4 : decode cX2_countGiven 4 = .ok (.invokestatic 36, 3) := by decide +kernel
theorem dX2_countGiven_7 : decode cX2_countGiven 7 = .ok (.ireturn, 1) := by decide +kernel
theorem dX2_minutesGiven_0 : decode cX2_minutesGiven 0 = .ok (.iconst 0, 1) := by decide +kernel
theorem dX2_minutesGiven_1 : decode cX2_minutesGiven 1 = .ok (.istore_n 1, 1) := by decide +kernel
theorem dX2_minutesGiven_2 : decode cX2_minutesGiven 2 = .ok (.iconst 0, 1) := by decide +kernel
theorem dX2_minutesGiven_3 : decode cX2_minutesGiven 3 = .ok (.istore_n 2, 1) := by decide +kernel
theorem dX2_minutesGiven_4 : decode cX2_minutesGiven 4 = .ok (.iload_n 2, 1) := by decide +kernel
theorem dX2_minutesGiven_5 : decode cX2_minutesGiven 5 = .ok (.aload_n 0, 1) := by decide +kernel
theorem dX2_minutesGiven_6 : decode cX2_minutesGiven 6 = .ok (.getfield 18, 3) := by decide +kernel
theorem dX2_minutesGiven_9 : decode cX2_minutesGiven 9 = .ok (.if_icmp .ge 36, 3) := by decide +kernel
theorem dX2_minutesGiven_12 : decode cX2_minutesGiven 12 = .ok (.aload_n 0, 1) := by decide +kernel
theorem dX2_minutesGiven_13 : decode cX2_minutesGiven 13 = .ok (.getfield 11, 3) := by decide +kernel
theorem dX2_minutesGiven_16 : decode cX2_minutesGiven 16 = .ok (.iload_n 2, 1) := by decide +kernel
theorem dX2_minutesGiven_17 : decode cX2_minutesGiven 17 = .ok (.aaload, 1) := by decide +kernel
theorem dX2_minutesGiven_18 : decode cX2_minutesGiven 18 = .ok (.getfield 28, 3) := by decide +kernel
theorem dX2_minutesGiven_21 : decode cX2_minutesGiven 21 = .ok (.ifCond .eq 18, 3) := by decide +kernel
theorem dX2_minutesGiven_24 : decode cX2_minutesGiven 24 = .ok (.iload_n 1, 1) := by decide +kernel
theorem dX2_minutesGiven_25 : decode cX2_minutesGiven 25 = .ok (.aload_n 0, 1) := by decide +kernel
theorem dX2_minutesGiven_26 : decode cX2_minutesGiven 26 = .ok (.getfield 11, 3) := by decide +kernel
theorem dX2_minutesGiven_29 : decode cX2_minutesGiven 29 = .ok (.iload_n 2, 1) := by decide +kernel
theorem dX2_minutesGiven_30 : decode cX2_minutesGiven 30 = .ok (.aaload, 1) := by decide +kernel
theorem dX2_minutesGiven_31 : decode cX2_minutesGiven 31 = .ok (.getfield 42, 3) := by decide +kernel
theorem dX2_minutesGiven_34 : decode cX2_minutesGiven 34 = .ok (.invokevirtual 46, 3) := by decide +kernel
theorem dX2_minutesGiven_37 : decode cX2_minutesGiven 37 = .ok (.iadd, 1) := by decide +kernel
theorem dX2_minutesGiven_38 : decode cX2_minutesGiven 38 = .ok (.istore_n 1, 1) := by decide +kernel
theorem dX2_minutesGiven_39 : decode cX2_minutesGiven 39 = .ok (.iinc 2 1, 3) := by decide +kernel
theorem dX2_minutesGiven_42 : decode cX2_minutesGiven 42 = .ok (.goto (-38), 3) := by decide +kernel
theorem dX2_minutesGiven_45 : decode cX2_minutesGiven 45 = .ok (.iload_n 1, 1) := by decide +kernel
theorem dX2_minutesGiven_46 : decode cX2_minutesGiven 46 = .ok (.ireturn, 1) := by decide +kernel
theorem dX3_init_0 : decode cX3_init 0 = .ok (.aload_n 0, 1) := by decide +kernel
theorem dX3_init_1 : decode cX3_init 1 = .ok (.invokespecial 3, 3) := by decide +kernel
theorem dX3_init_4 : decode cX3_init 4 = .ok (.aload_n 0, 1) := by decide +kernel
theorem dX3_init_5 : decode cX3_init 5 = .ok (.bipush 36, 2) := by decide +kernel
theorem dX3_init_7 : decode cX3_init 7 = .ok (.newarray .int, 2) := by decide +kernel
theorem dX3_init_9 : decode cX3_init 9 = .ok (.putfield 9, 3) := by decide +kernel
theorem dX3_init_12 : decode cX3_init 12 = .ok (.aload_n 0, 1) := by decide +kernel
theorem dX3_init_13 : decode cX3_init 13 = .ok (.bipush 31, 2) := by decide +kernel
theorem dX3_init_15 : decode cX3_init 15 = .ok (.bipush 36, 2) := by decide +kernel
theorem dX3_init_17 : decode cX3_init 17 = .ok (.multianewarray 15 2, 4) := by decide +kernel
theorem dX3_init_21 : decode cX3_init 21 = .ok (.putfield 17, 3) := by decide +kernel
theorem dX3_init_24 : decode cX3_init 24 = .ok (.aload_n 0, 1) := by decide +kernel
theorem dX3_init_25 : decode cX3_init 25 = .ok (.aload_n 1, 1) := by decide +kernel
theorem dX3_init_26 : decode cX3_init 26 = .ok (.putfield 20, 3) := by decide +kernel
theorem dX3_init_29 : decode cX3_init 29 = .ok (.aload_n 0, 1) := by decide +kernel
theorem dX3_init_30 : decode cX3_init 30 = .ok (.aload_n 2, 1) := by decide +kernel
theorem dX3_init_31 : decode cX3_init 31 = .ok (.putfield 24, 3) := by decide +kernel
theorem dX3_init_34 : decode cX3_init 34 = .ok (.aload_n 0, 1) := by decide +kernel
theorem dX3_init_35 : decode cX3_init 35 = .ok (.aload_n 3, 1) := by decide +kernel
theorem dX3_init_36 : decode cX3_init 36 = .ok (.putfield 28, 3) := by decide +kernel
theorem dX3_init_39 : decode cX3_init 39 = .ok (.return_, 1) := by decide +kernel
theorem dX3_growth_0 : decode cX3_growth 0 = .ok (.aload_n 0, 1) := by decide +kernel
theorem dX3_growth_1 : decode cX3_growth 1 = .ok (.getfield 32, 3) := by decide +kernel
theorem dX3_growth_4 : decode cX3_growth 4 = .ok (.aload_n 1, 1) := by decide +kernel
theorem dX3_growth_5 : decode cX3_growth 5 = .ok (.getfield 36, 3) := by decide +kernel
theorem dX3_growth_8 : decode cX3_growth 8 = .ok (.imul, 1) := by decide +kernel
theorem dX3_growth_9 : decode cX3_growth 9 = .ok (.ireturn, 1) := by decide +kernel
theorem dX3_findQuietest_0 : decode cX3_findQuietest 0 = .ok (.aload_n 0, 1) := by decide +kernel
theorem dX3_findQuietest_1 : decode cX3_findQuietest 1 = .ok (.getfield 24, 3) := by decide +kernel
theorem dX3_findQuietest_4 : decode cX3_findQuietest 4 = .ok (.aload_n 1, 1) := by decide +kernel
theorem dX3_findQuietest_5 : decode cX3_findQuietest 5 = .ok (.iconst 0, 1) := by decide +kernel
theorem dX3_findQuietest_6 : decode cX3_findQuietest 6 = .ok (.invokevirtual 41, 3) := by decide +kernel
theorem dX3_findQuietest_9 : decode cX3_findQuietest 9 = .ok (.iconst 0, 1) := by decide +kernel
theorem dX3_findQuietest_10 : decode cX3_findQuietest 10 = .ok (.istore_n 2, 1) := by decide +kernel
theorem dX3_findQuietest_11 : decode cX3_findQuietest 11 = .ok (.iload_n 2, 1) := by decide +kernel
theorem dX3_findQuietest_12 : decode cX3_findQuietest 12 = .ok (.aload_n 0, 1) := by decide +kernel
theorem dX3_findQuietest_13 : decode cX3_findQuietest 13 = .ok (.getfield 20, 3) := by decide +kernel
theorem dX3_findQuietest_16 : decode cX3_findQuietest 16 = .ok (.getfield 47, 3) := by decide +kernel
theorem dX3_findQuietest_19 : decode cX3_findQuietest 19 = .ok (.if_icmp .ge 23, 3) := by decide +kernel
theorem dX3_findQuietest_22 : decode cX3_findQuietest 22 = .ok (.aload_n 0, 1) := by decide +kernel
theorem dX3_findQuietest_23 : decode cX3_findQuietest 23 = .ok (.getfield 9, 3) := by decide +kernel
theorem dX3_findQuietest_26 : decode cX3_findQuietest 26 = .ok (.iload_n 2, 1) := by decide +kernel
theorem dX3_findQuietest_27 : decode cX3_findQuietest 27 = .ok (.aload_n 0, 1) := by decide +kernel
theorem dX3_findQuietest_28 : decode cX3_findQuietest 28 = .ok (.getfield 28, 3) := by decide +kernel
theorem dX3_findQuietest_31 : decode cX3_findQuietest 31 = .ok (.iload_n 2, 1) := by decide +kernel
theorem dX3_findQuietest_32 : decode cX3_findQuietest 32 = .ok (.invokevirtual 52, 3) := by decide +kernel
theorem dX3_findQuietest_35 : decode cX3_findQuietest 35 = .ok (.iastore, 1) := by decide +kernel
theorem dX3_findQuietest_36 : decode cX3_findQuietest 36 = .ok (.iinc 2 1, 3) := by decide +kernel
theorem dX3_findQuietest_39 : decode cX3_findQuietest 39 = .ok (.goto (-28), 3) := by decide +kernel
theorem dX3_findQuietest_42 : decode cX3_findQuietest 42 = .ok (.aload_n 0, 1) := by decide +kernel
theorem dX3_findQuietest_43 : decode cX3_findQuietest 43 = .ok (.ldc 58, 2) := by decide +kernel
theorem dX3_findQuietest_45 : decode cX3_findQuietest 45 = .ok (.putfield 32, 3) := by decide +kernel
theorem dX3_findQuietest_48 : decode cX3_findQuietest 48 = .ok (.aload_n 1, 1) := by decide +kernel
theorem dX3_findQuietest_49 : decode cX3_findQuietest 49 = .ok (.getfield 59, 3) := by decide +kernel
theorem dX3_findQuietest_52 : decode cX3_findQuietest 52 = .ok (.iconst 1, 1) := by decide +kernel
theorem dX3_findQuietest_53 : decode cX3_findQuietest 53 = .ok (.iadd, 1) := by decide +kernel
theorem dX3_findQuietest_54 : decode cX3_findQuietest 54 = .ok (.istore_n 2, 1) := by decide +kernel
theorem dX3_findQuietest_55 : decode cX3_findQuietest 55 = .ok (.iload_n 2, 1) := by decide +kernel
theorem dX3_findQuietest_56 : decode cX3_findQuietest 56 = .ok (.aload_n 1, 1) := by decide +kernel
theorem dX3_findQuietest_57 : decode cX3_findQuietest 57 = .ok (.getfield 62, 3) := by decide +kernel
theorem dX3_findQuietest_60 : decode cX3_findQuietest 60 = .ok (.if_icmp .gt 21, 3) := by decide +kernel
theorem dX3_findQuietest_63 : decode cX3_findQuietest 63 = .ok (.iload_n 2, 1) := by decide +kernel
theorem dX3_findQuietest_64 : decode cX3_findQuietest 64 = .ok (.bipush 60, 2) := by decide +kernel
theorem dX3_findQuietest_66 : decode cX3_findQuietest 66 = .ok (.if_icmp .ge 15, 3) := by decide +kernel
theorem dX3_findQuietest_69 : decode cX3_findQuietest 69 = .ok (.aload_n 0, 1) := by decide +kernel
theorem dX3_findQuietest_70 : decode cX3_findQuietest 70 = .ok (.aload_n 1, 1) := by decide +kernel
theorem dX3_findQuietest_71 : decode cX3_findQuietest 71 = .ok (.iload_n 2, 1) := by decide +kernel
theorem dX3_findQuietest_72 : decode cX3_findQuietest 72 = .ok (.invokevirtual 65, 3) := by decide +kernel
theorem dX3_findQuietest_75 : decode cX3_findQuietest 75 = .ok (.iinc 2 1, 3) := by decide +kernel
theorem dX3_findQuietest_78 : decode cX3_findQuietest 78 = .ok (.goto (-23), 3) := by decide +kernel
theorem dX3_findQuietest_81 : decode cX3_findQuietest 81 = .ok (.aload_n 0, 1) := by decide +kernel
theorem dX3_findQuietest_82 : decode cX3_findQuietest 82 = .ok (.getfield 32, 3) := by decide +kernel
theorem dX3_findQuietest_85 : decode cX3_findQuietest 85 = .ok (.ldc 58, 2) := by decide +kernel
theorem dX3_findQuietest_87 : decode cX3_findQuietest 87 = .ok (.if_icmp .ne 5, 3) := by decide +kernel
theorem dX3_findQuietest_90 : decode cX3_findQuietest 90 = .ok (.iconst 0, 1) := by decide +kernel
theorem dX3_findQuietest_91 : decode cX3_findQuietest 91 = .ok (.ireturn, 1) := by decide +kernel
theorem dX3_findQuietest_92 : decode cX3_findQuietest 92 = .ok (.aload_n 0, 1) := by decide +kernel
theorem dX3_findQuietest_93 : decode cX3_findQuietest 93 = .ok (.aload_n 1, 1) := by decide +kernel
theorem dX3_findQuietest_94 : decode cX3_findQuietest 94 = .ok (.invokevirtual 68, 3) := by decide +kernel
theorem dX3_findQuietest_97 : decode cX3_findQuietest 97 = .ok (.iconst 1, 1) := by decide +kernel
theorem dX3_findQuietest_98 : decode cX3_findQuietest 98 = .ok (.ireturn, 1) := by decide +kernel
theorem dX3_lookBack_0 : decode cX3_lookBack 0 = .ok (.aload_n 0, 1) := by decide +kernel
theorem dX3_lookBack_1 : decode cX3_lookBack 1 = .ok (.aload_n 1, 1) := by decide +kernel
theorem dX3_lookBack_2 : decode cX3_lookBack 2 = .ok (.getfield 72, 3) := by decide +kernel
theorem dX3_lookBack_5 : decode cX3_lookBack 5 = .ok (.iload_n 2, 1) := by decide +kernel
theorem dX3_lookBack_6 : decode cX3_lookBack 6 = .ok (.invokevirtual 75, 3) := by decide +kernel
theorem dX3_lookBack_9 : decode cX3_lookBack 9 = .ok (.ifCond .ne 4, 3) := by decide +kernel
theorem dX3_lookBack_12 : decode cX3_lookBack 12 = .ok (.return_, 1) := by decide +kernel
theorem dX3_lookBack_13 : decode cX3_lookBack 13 = .ok (.aload_n 1, 1) := by decide +kernel
theorem dX3_lookBack_14 : decode cX3_lookBack 14 = .ok (.getfield 59, 3) := by decide +kernel
theorem dX3_lookBack_17 : decode cX3_lookBack 17 = .ok (.iload_n 2, 1) := by decide +kernel
theorem dX3_lookBack_18 : decode cX3_lookBack 18 = .ok (.aload_n 1, 1) := by decide +kernel
theorem dX3_lookBack_19 : decode cX3_lookBack 19 = .ok (.getfield 79, 3) := by decide +kernel
theorem dX3_lookBack_22 : decode cX3_lookBack 22 = .ok (.isub, 1) := by decide +kernel
theorem dX3_lookBack_23 : decode cX3_lookBack 23 = .ok (.invokestatic 82, 3) := by decide +kernel
theorem dX3_lookBack_26 : decode cX3_lookBack 26 = .ok (.istore_n 3, 1) := by decide +kernel
theorem dX3_lookBack_27 : decode cX3_lookBack 27 = .ok (.iload_n 2, 1) := by decide +kernel
theorem dX3_lookBack_28 : decode cX3_lookBack 28 = .ok (.iconst 1, 1) := by decide +kernel
theorem dX3_lookBack_29 : decode cX3_lookBack 29 = .ok (.isub, 1) := by decide +kernel
theorem dX3_lookBack_30 : decode cX3_lookBack 30 = .ok (.istore 4, 2) := by decide +kernel
theorem dX3_lookBack_32 : decode cX3_lookBack 32 = .ok (.iload 4, 2) := by decide +kernel
theorem dX3_lookBack_34 : decode cX3_lookBack 34 = .ok (.iload_n 3, 1) := by decide +kernel
theorem dX3_lookBack_35 : decode cX3_lookBack 35 = .ok (.if_icmp .lt 69, 3) := by decide +kernel
theorem dX3_lookBack_38 : decode cX3_lookBack 38 = .ok (.aload_n 0, 1) := by decide +kernel
theorem dX3_lookBack_39 : decode cX3_lookBack 39 = .ok (.iload 4, 2) := by decide +kernel
theorem dX3_lookBack_41 : decode cX3_lookBack 41 = .ok (.iload_n 2, 1) := by decide +kernel
theorem dX3_lookBack_42 : decode cX3_lookBack 42 = .ok (.iload 4, 2) := by decide +kernel
theorem dX3_lookBack_44 : decode cX3_lookBack 44 = .ok (.isub, 1) := by decide +kernel
theorem dX3_lookBack_45 : decode cX3_lookBack 45 = .ok (.aload_n 0, 1) := by decide +kernel
theorem dX3_lookBack_46 : decode cX3_lookBack 46 = .ok (.getfield 32, 3) := by decide +kernel
theorem dX3_lookBack_49 : decode cX3_lookBack 49 = .ok (.invokevirtual 88, 3) := by decide +kernel
theorem dX3_lookBack_52 : decode cX3_lookBack 52 = .ok (.ifCond .ne 4, 3) := by decide +kernel
theorem dX3_lookBack_55 : decode cX3_lookBack 55 = .ok (.return_, 1) := by decide +kernel
theorem dX3_lookBack_56 : decode cX3_lookBack 56 = .ok (.aload_n 0, 1) := by decide +kernel
theorem dX3_lookBack_57 : decode cX3_lookBack 57 = .ok (.getfield 17, 3) := by decide +kernel
theorem dX3_lookBack_60 : decode cX3_lookBack 60 = .ok (.iload_n 2, 1) := by decide +kernel
theorem dX3_lookBack_61 : decode cX3_lookBack 61 = .ok (.iload 4, 2) := by decide +kernel
theorem dX3_lookBack_63 : decode cX3_lookBack 63 = .ok (.isub, 1) := by decide +kernel
theorem dX3_lookBack_64 : decode cX3_lookBack 64 = .ok (.aaload, 1) := by decide +kernel
theorem dX3_lookBack_65 : decode cX3_lookBack 65 = .ok (.aload_n 1, 1) := by decide +kernel
theorem dX3_lookBack_66 : decode cX3_lookBack 66 = .ok (.getfield 92, 3) := by decide +kernel
theorem dX3_lookBack_69 : decode cX3_lookBack 69 = .ok (.iaload, 1) := by decide +kernel
theorem dX3_lookBack_70 : decode cX3_lookBack 70 = .ok (.istore 5, 2) := by decide +kernel
theorem dX3_lookBack_72 : decode cX3_lookBack 72 = .ok (.iload 5, 2) := by decide +kernel
theorem dX3_lookBack_74 : decode cX3_lookBack 74 = .ok (.aload_n 0, 1) := by decide +kernel
theorem dX3_lookBack_75 : decode cX3_lookBack 75 = .ok (.getfield 32, 3) := by decide +kernel
theorem dX3_lookBack_78 : decode cX3_lookBack 78 = .ok (.if_icmp .ge 20, 3) := by decide +kernel
theorem dX3_lookBack_81 : decode cX3_lookBack 81 = .ok (.aload_n 0, 1) := by decide +kernel
theorem dX3_lookBack_82 : decode cX3_lookBack 82 = .ok (.iload 5, 2) := by decide +kernel
theorem dX3_lookBack_84 : decode cX3_lookBack 84 = .ok (.putfield 32, 3) := by decide +kernel
theorem dX3_lookBack_87 : decode cX3_lookBack 87 = .ok (.aload_n 0, 1) := by decide +kernel
theorem dX3_lookBack_88 : decode cX3_lookBack 88 = .ok (.iload 4, 2) := by decide +kernel
theorem dX3_lookBack_90 : decode cX3_lookBack 90 = .ok (.putfield 95, 3) := by decide +kernel
theorem dX3_lookBack_93 : decode cX3_lookBack 93 = .ok (.aload_n 0, 1) := by decide +kernel
theorem dX3_lookBack_94 : decode cX3_lookBack 94 = .ok (.iload_n 2, 1) := by decide +kernel
theorem dX3_lookBack_95 : decode cX3_lookBack 95 = .ok (.putfield 98, 3) := by decide +kernel
theorem dX3_lookBack_98 : decode cX3_lookBack 98 = .ok (.iinc 4 (-1), 3) := by decide +kernel
theorem dX3_lookBack_101 : decode cX3_lookBack 101 = .ok (.goto (-69), 3) := by decide +kernel
theorem dX3_lookBack_104 : decode cX3_lookBack 104 = .ok (.return_, 1) := by decide +kernel
theorem dX3_beginAt_0 : decode cX3_beginAt 0 = .ok (.aload_n 0, 1) := by decide +kernel
theorem dX3_beginAt_1 : decode cX3_beginAt 1 = .ok (.getfield 24, 3) := by decide +kernel
theorem dX3_beginAt_4 : decode cX3_beginAt 4 = .ok (.getfield 101, 3) := by decide +kernel
theorem dX3_beginAt_7 : decode cX3_beginAt 7 = .ok (.iload_n 2, 1) := by decide +kernel
theorem dX3_beginAt_8 : decode cX3_beginAt 8 = .ok (.laload, 1) := by decide +kernel
theorem dX3_beginAt_9 : decode cX3_beginAt 9 = .ok (.iload_n 1, 1) := by decide +kernel
theorem dX3_beginAt_10 : decode cX3_beginAt 10 = .ok (.invokestatic 105, 3) := by decide +kernel
theorem dX3_beginAt_13 : decode cX3_beginAt 13 = .ok (.ifCond .ne 5, 3) := by decide +kernel
theorem dX3_beginAt_16 : decode cX3_beginAt 16 = .ok (.iconst 0, 1) := by decide +kernel
theorem dX3_beginAt_17 : decode cX3_beginAt 17 = .ok (.ireturn, 1) := by decide +kernel
theorem dX3_beginAt_18 : decode cX3_beginAt 18 = .ok (.iconst 0, 1) := by decide +kernel
theorem dX3_beginAt_19 : decode cX3_beginAt 19 = .ok (.istore_n 3, 1) := by decide +kernel
theorem dX3_beginAt_20 : decode cX3_beginAt 20 = .ok (.iload_n 3, 1) := by decide +kernel
theorem dX3_beginAt_21 : decode cX3_beginAt 21 = .ok (.aload_n 0, 1) := by decide +kernel
theorem dX3_beginAt_22 : decode cX3_beginAt 22 = .ok (.getfield 20, 3) := by decide +kernel
theorem dX3_beginAt_25 : decode cX3_beginAt 25 = .ok (.getfield 47, 3) := by decide +kernel
theorem dX3_beginAt_28 : decode cX3_beginAt 28 = .ok (.if_icmp .ge 33, 3) := by decide +kernel
theorem dX3_beginAt_31 : decode cX3_beginAt 31 = .ok (.aload_n 0, 1) := by decide +kernel
theorem dX3_beginAt_32 : decode cX3_beginAt 32 = .ok (.getfield 17, 3) := by decide +kernel
theorem dX3_beginAt_35 : decode cX3_beginAt 35 = .ok (.iconst 0, 1) := by decide +kernel
theorem dX3_beginAt_36 : decode cX3_beginAt 36 = .ok (.aaload, 1) := by decide +kernel
theorem dX3_beginAt_37 : decode cX3_beginAt 37 = .ok (.iload_n 3, 1) := by decide +kernel
theorem dX3_beginAt_38 : decode cX3_beginAt 38 = .ok (.iload_n 3, 1) := by decide +kernel
theorem dX3_beginAt_39 : decode cX3_beginAt 39 = .ok (.iload_n 1, 1) := by decide +kernel
theorem dX3_beginAt_40 : decode cX3_beginAt 40 = .ok (.if_icmp .ne 12, 3) := by decide +kernel
theorem dX3_beginAt_43 : decode cX3_beginAt 43 = .ok (.aload_n 0, 1) := by decide +kernel
theorem dX3_beginAt_44 : decode cX3_beginAt 44 = .ok (.getfield 9, 3) := by decide +kernel
theorem dX3_beginAt_47 : decode cX3_beginAt 47 = .ok (.iload_n 1, 1) := by decide +kernel
theorem dX3_beginAt_48 : decode cX3_beginAt 48 = .ok (.iaload, 1) := by decide +kernel
theorem dX3_beginAt_49 : decode cX3_beginAt 49 = .ok (.goto 5, 3) := by decide +kernel
theorem dX3_beginAt_52 : decode cX3_beginAt 52 = .ok (.ldc 58, 2) := by decide +kernel
theorem dX3_beginAt_54 : decode cX3_beginAt 54 = .ok (.iastore, 1) := by decide +kernel
theorem dX3_beginAt_55 : decode cX3_beginAt 55 = .ok (.iinc 3 1, 3) := by decide +kernel
theorem dX3_beginAt_58 : decode cX3_beginAt 58 = .ok (.goto (-38), 3) := by decide +kernel
theorem dX3_beginAt_61 : decode cX3_beginAt 61 = .ok (.iconst 1, 1) := by decide +kernel
theorem dX3_beginAt_62 : decode cX3_beginAt 62 = .ok (.ireturn, 1) := by decide +kernel
theorem dX3_stepBack_0 : decode cX3_stepBack 0 = .ok (.iload_n 2, 1) := by decide +kernel
theorem dX3_stepBack_1 : decode cX3_stepBack 1 = .ok (.iconst 1, 1) := by decide +kernel
theorem dX3_stepBack_2 : decode cX3_stepBack 2 = .ok (.if_icmp .lt 9, 3) := by decide +kernel
theorem dX3_stepBack_5 : decode cX3_stepBack 5 = .ok (.iload_n 2, 1) := by decide +kernel
theorem dX3_stepBack_6 : decode cX3_stepBack 6 = .ok (.bipush 30, 2) := by decide +kernel
theorem dX3_stepBack_8 : decode cX3_stepBack 8 = .ok (.if_icmp .le 5, 3) := by decide +kernel
theorem dX3_stepBack_11 : decode cX3_stepBack 11 = .ok (.iconst 0, 1) := by decide +kernel
theorem dX3_stepBack_12 : decode cX3_stepBack 12 = .ok (.ireturn, 1) := by decide +kernel
theorem dX3_stepBack_13 : decode cX3_stepBack 13 = .ok (.iconst 0, 1) := by decide +kernel
theorem dX3_stepBack_14 : decode cX3_stepBack 14 = .ok (.istore 4, 2) := by decide +kernel
theorem dX3_stepBack_16 : decode cX3_stepBack 16 = .ok (.iconst 0, 1) := by decide +kernel
theorem dX3_stepBack_17 : decode cX3_stepBack 17 = .ok (.istore 5, 2) := by decide +kernel
theorem dX3_stepBack_19 : decode cX3_stepBack 19 = .ok (.iload 5, 2) := by decide +kernel
theorem dX3_stepBack_21 : decode cX3_stepBack 21 = .ok (.aload_n 0, 1) := by decide +kernel
theorem dX3_stepBack_22 : decode cX3_stepBack 22 = .ok (.getfield 20, 3) := by decide +kernel
theorem dX3_stepBack_25 : decode cX3_stepBack 25 = .ok (.getfield 47, 3) := by decide +kernel
theorem dX3_stepBack_28 : decode cX3_stepBack 28 = .ok (.if_icmp .ge 106, 3) := by decide +kernel
theorem dX3_stepBack_31 : decode cX3_stepBack 31 = .ok (.ldc 58, 2) := by decide +kernel
theorem dX3_stepBack_33 : decode cX3_stepBack 33 = .ok (.istore 6, 2) := by decide +kernel
theorem dX3_stepBack_35 : decode cX3_stepBack 35 = .ok (.aload_n 0, 1) := by decide +kernel
theorem dX3_stepBack_36 : decode cX3_stepBack 36 = .ok (.getfield 24, 3) := by decide +kernel
theorem dX3_stepBack_39 : decode cX3_stepBack 39 = .ok (.getfield 101, 3) := by decide +kernel
theorem dX3_stepBack_42 : decode cX3_stepBack 42 = .ok (.iload_n 1, 1) := by decide +kernel
theorem dX3_stepBack_43 : decode cX3_stepBack 43 = .ok (.laload, 1) := by decide +kernel
theorem dX3_stepBack_44 : decode cX3_stepBack 44 = .ok (.iload 5, 2) := by decide +kernel
theorem dX3_stepBack_46 : decode cX3_stepBack 46 = .ok (.invokestatic 105, 3) := by decide +kernel
theorem dX3_stepBack_49 : decode cX3_stepBack 49 = .ok (.ifCond .eq 20, 3) := by decide +kernel
theorem dX3_stepBack_52 : decode cX3_stepBack 52 = .ok (.aload_n 0, 1) := by decide +kernel
theorem dX3_stepBack_53 : decode cX3_stepBack 53 = .ok (.iload 5, 2) := by decide +kernel
theorem dX3_stepBack_55 : decode cX3_stepBack 55 = .ok (.iload_n 1, 1) := by decide +kernel
theorem dX3_stepBack_56 : decode cX3_stepBack 56 = .ok (.aload_n 0, 1) := by decide +kernel
theorem dX3_stepBack_57 : decode cX3_stepBack 57 = .ok (.getfield 17, 3) := by decide +kernel
theorem dX3_stepBack_60 : decode cX3_stepBack 60 = .ok (.iload_n 2, 1) := by decide +kernel
theorem dX3_stepBack_61 : decode cX3_stepBack 61 = .ok (.iconst 1, 1) := by decide +kernel
theorem dX3_stepBack_62 : decode cX3_stepBack 62 = .ok (.isub, 1) := by decide +kernel
theorem dX3_stepBack_63 : decode cX3_stepBack 63 = .ok (.aaload, 1) := by decide +kernel
theorem dX3_stepBack_64 : decode cX3_stepBack 64 = .ok (.invokevirtual 109, 3) := by decide +kernel
theorem dX3_stepBack_67 : decode cX3_stepBack 67 = .ok (.istore 6, 2) := by decide +kernel
theorem dX3_stepBack_69 : decode cX3_stepBack 69 = .ok (.iload 6, 2) := by decide +kernel
theorem dX3_stepBack_71 : decode cX3_stepBack 71 = .ok (.ldc 58, 2) := by decide +kernel
theorem dX3_stepBack_73 : decode cX3_stepBack 73 = .ok (.if_icmp .ge 15, 3) := by decide +kernel
theorem dX3_stepBack_76 : decode cX3_stepBack 76 = .ok (.iload 6, 2) := by decide +kernel
theorem dX3_stepBack_78 : decode cX3_stepBack 78 = .ok (.aload_n 0, 1) := by decide +kernel
theorem dX3_stepBack_79 : decode cX3_stepBack 79 = .ok (.getfield 9, 3) := by decide +kernel
theorem dX3_stepBack_82 : decode cX3_stepBack 82 = .ok (.iload 5, 2) := by decide +kernel
theorem dX3_stepBack_84 : decode cX3_stepBack 84 = .ok (.iaload, 1) := by decide +kernel
theorem dX3_stepBack_85 : decode cX3_stepBack 85 = .ok (.iadd, 1) := by decide +kernel
theorem dX3_stepBack_86 : decode cX3_stepBack 86 = .ok (.istore 6, 2) := by decide +kernel
theorem dX3_stepBack_88 : decode cX3_stepBack 88 = .ok (.aload_n 0, 1) := by decide +kernel
theorem dX3_stepBack_89 : decode cX3_stepBack 89 = .ok (.getfield 17, 3) := by decide +kernel
theorem dX3_stepBack_92 : decode cX3_stepBack 92 = .ok (.iload_n 2, 1) := by decide +kernel
theorem dX3_stepBack_93 : decode cX3_stepBack 93 = .ok (.aaload, 1) := by decide +kernel
theorem dX3_stepBack_94 : decode cX3_stepBack 94 = .ok (.iload 5, 2) := by decide +kernel
theorem dX3_stepBack_96 : decode cX3_stepBack 96 = .ok (.iload 6, 2) := by decide +kernel
theorem dX3_stepBack_98 : decode cX3_stepBack 98 = .ok (.iload_n 3, 1) := by decide +kernel
theorem dX3_stepBack_99 : decode cX3_stepBack 99 = .ok (.if_icmp .ge 8, 3) := by decide +kernel
theorem dX3_stepBack_102 : decode cX3_stepBack 102 = .ok (.iload 6, 2) := by decide +kernel
theorem dX3_stepBack_104 : decode cX3_stepBack 104 = .ok (.goto 5, 3) := by decide +kernel
theorem dX3_stepBack_107 : decode cX3_stepBack 107 = .ok (.ldc 58, 2) := by decide +kernel
theorem dX3_stepBack_109 : decode cX3_stepBack 109 = .ok (.iastore, 1) := by decide +kernel
theorem dX3_stepBack_110 : decode cX3_stepBack 110 = .ok (.iload 4, 2) := by decide +kernel
theorem dX3_stepBack_112 : decode cX3_stepBack 112 = .ok (.ifCond .ne 9, 3) := by decide +kernel
theorem dX3_stepBack_115 : decode cX3_stepBack 115 = .ok (.iload 6, 2) := by decide +kernel
theorem dX3_stepBack_117 : decode cX3_stepBack 117 = .ok (.iload_n 3, 1) := by decide +kernel
theorem dX3_stepBack_118 : decode cX3_stepBack 118 = .ok (.if_icmp .ge 7, 3) := by decide +kernel
theorem dX3_stepBack_121 : decode cX3_stepBack 121 = .ok (.iconst 1, 1) := by decide +kernel
theorem dX3_stepBack_122 : decode cX3_stepBack 122 = .ok (.goto 4, 3) := by decide +kernel
theorem dX3_stepBack_125 : decode cX3_stepBack 125 = .ok (.iconst 0, 1) := by decide +kernel
theorem dX3_stepBack_126 : decode cX3_stepBack 126 = .ok (.istore 4, 2) := by decide +kernel
theorem dX3_stepBack_128 : decode cX3_stepBack 128 = .ok (.iinc 5 1, 3) := by decide +kernel
theorem dX3_stepBack_131 : decode cX3_stepBack 131 = .ok (.goto (-112), 3) := by decide +kernel
theorem dX3_stepBack_134 : decode cX3_stepBack 134 = .ok (.iload 4, 2) := by decide +kernel
theorem dX3_stepBack_136 : decode cX3_stepBack 136 = .ok (.ireturn, 1) := by decide +kernel
theorem dX3_leastNext_0 : decode cX3_leastNext 0 = .ok (.ldc 58, 2) := by decide +kernel
theorem dX3_leastNext_2 : decode cX3_leastNext 2 = .ok (.istore 4, 2) := by decide +kernel
theorem dX3_leastNext_4 : decode cX3_leastNext 4 = .ok (.iconst 0, 1) := by decide +kernel
theorem dX3_leastNext_5 : decode cX3_leastNext 5 = .ok (.istore 5, 2) := by decide +kernel
theorem dX3_leastNext_7 : decode cX3_leastNext 7 = .ok (.iload 5, 2) := by decide +kernel
theorem dX3_leastNext_9 : decode cX3_leastNext 9 = .ok (.iconst 4, 1) := by decide +kernel
theorem dX3_leastNext_10 : decode cX3_leastNext 10 = .ok (.if_icmp .gt 56, 3) := by decide +kernel
theorem dX3_leastNext_13 : decode cX3_leastNext 13 = .ok (.aload_n 0, 1) := by decide +kernel
theorem dX3_leastNext_14 : decode cX3_leastNext 14 = .ok (.getfield 20, 3) := by decide +kernel
theorem dX3_leastNext_17 : decode cX3_leastNext 17 = .ok (.iload_n 1, 1) := by decide +kernel
theorem dX3_leastNext_18 : decode cX3_leastNext 18 = .ok (.iload 5, 2) := by decide +kernel
theorem dX3_leastNext_20 : decode cX3_leastNext 20 = .ok (.invokevirtual 113, 3) := by decide +kernel
theorem dX3_leastNext_23 : decode cX3_leastNext 23 = .ok (.istore 6, 2) := by decide +kernel
theorem dX3_leastNext_25 : decode cX3_leastNext 25 = .ok (.iload 6, 2) := by decide +kernel
theorem dX3_leastNext_27 : decode cX3_leastNext 27 = .ok (.iconst (-1), 1) := by decide +kernel
theorem dX3_leastNext_28 : decode cX3_leastNext 28 = .ok (.if_icmp .eq 32, 3) := by decide +kernel
theorem dX3_leastNext_31 : decode cX3_leastNext 31 = .ok (.aload_n 3, 1) := by decide +kernel
theorem dX3_leastNext_32 : decode cX3_leastNext 32 = .ok (.iload 6, 2) := by decide +kernel
theorem dX3_leastNext_34 : decode cX3_leastNext 34 = .ok (.iaload, 1) := by decide +kernel
theorem dX3_leastNext_35 : decode cX3_leastNext 35 = .ok (.iload 4, 2) := by decide +kernel
theorem dX3_leastNext_37 : decode cX3_leastNext 37 = .ok (.if_icmp .ge 23, 3) := by decide +kernel
theorem dX3_leastNext_40 : decode cX3_leastNext 40 = .ok (.aload_n 0, 1) := by decide +kernel
theorem dX3_leastNext_41 : decode cX3_leastNext 41 = .ok (.getfield 24, 3) := by decide +kernel
theorem dX3_leastNext_44 : decode cX3_leastNext 44 = .ok (.iload 5, 2) := by decide +kernel
theorem dX3_leastNext_46 : decode cX3_leastNext 46 = .ok (.iload_n 1, 1) := by decide +kernel
theorem dX3_leastNext_47 : decode cX3_leastNext 47 = .ok (.iload_n 2, 1) := by decide +kernel
theorem dX3_leastNext_48 : decode cX3_leastNext 48 = .ok (.invokevirtual 116, 3) := by decide +kernel
theorem dX3_leastNext_51 : decode cX3_leastNext 51 = .ok (.ifCond .eq 9, 3) := by decide +kernel
theorem dX3_leastNext_54 : decode cX3_leastNext 54 = .ok (.aload_n 3, 1) := by decide +kernel
theorem dX3_leastNext_55 : decode cX3_leastNext 55 = .ok (.iload 6, 2) := by decide +kernel
theorem dX3_leastNext_57 : decode cX3_leastNext 57 = .ok (.iaload, 1) := by decide +kernel
theorem dX3_leastNext_58 : decode cX3_leastNext 58 = .ok (.istore 4, 2) := by decide +kernel
theorem dX3_leastNext_60 : decode cX3_leastNext 60 = .ok (.iinc 5 1, 3) := by decide +kernel
theorem dX3_leastNext_63 : decode cX3_leastNext 63 = .ok (.goto (-56), 3) := by decide +kernel
theorem dX3_leastNext_66 : decode cX3_leastNext 66 = .ok (.iload 4, 2) := by decide +kernel
theorem dX3_leastNext_68 : decode cX3_leastNext 68 = .ok (.ireturn, 1) := by decide +kernel
theorem dX3_follow_0 : decode cX3_follow 0 = .ok (.aload_n 0, 1) := by decide +kernel
theorem dX3_follow_1 : decode cX3_follow 1 = .ok (.aload_n 1, 1) := by decide +kernel
theorem dX3_follow_2 : decode cX3_follow 2 = .ok (.getfield 72, 3) := by decide +kernel
theorem dX3_follow_5 : decode cX3_follow 5 = .ok (.aload_n 0, 1) := by decide +kernel
theorem dX3_follow_6 : decode cX3_follow 6 = .ok (.getfield 98, 3) := by decide +kernel
theorem dX3_follow_9 : decode cX3_follow 9 = .ok (.invokevirtual 75, 3) := by decide +kernel
theorem dX3_follow_12 : decode cX3_follow 12 = .ok (.ifCond .ne 4, 3) := by decide +kernel
theorem dX3_follow_15 : decode cX3_follow 15 = .ok (.return_, 1) := by decide +kernel
theorem dX3_follow_16 : decode cX3_follow 16 = .ok (.aload_n 0, 1) := by decide +kernel
theorem dX3_follow_17 : decode cX3_follow 17 = .ok (.getfield 98, 3) := by decide +kernel
theorem dX3_follow_20 : decode cX3_follow 20 = .ok (.iconst 1, 1) := by decide +kernel
theorem dX3_follow_21 : decode cX3_follow 21 = .ok (.isub, 1) := by decide +kernel
theorem dX3_follow_22 : decode cX3_follow 22 = .ok (.istore_n 2, 1) := by decide +kernel
theorem dX3_follow_23 : decode cX3_follow 23 = .ok (.iload_n 2, 1) := by decide +kernel
theorem dX3_follow_24 : decode cX3_follow 24 = .ok (.aload_n 0, 1) := by decide +kernel
theorem dX3_follow_25 : decode cX3_follow 25 = .ok (.getfield 95, 3) := by decide +kernel
theorem dX3_follow_28 : decode cX3_follow 28 = .ok (.if_icmp .lt 23, 3) := by decide +kernel
theorem dX3_follow_31 : decode cX3_follow 31 = .ok (.aload_n 0, 1) := by decide +kernel
theorem dX3_follow_32 : decode cX3_follow 32 = .ok (.iload_n 2, 1) := by decide +kernel
theorem dX3_follow_33 : decode cX3_follow 33 = .ok (.aload_n 0, 1) := by decide +kernel
theorem dX3_follow_34 : decode cX3_follow 34 = .ok (.getfield 98, 3) := by decide +kernel
theorem dX3_follow_37 : decode cX3_follow 37 = .ok (.iload_n 2, 1) := by decide +kernel
theorem dX3_follow_38 : decode cX3_follow 38 = .ok (.isub, 1) := by decide +kernel
theorem dX3_follow_39 : decode cX3_follow 39 = .ok (.ldc 58, 2) := by decide +kernel
theorem dX3_follow_41 : decode cX3_follow 41 = .ok (.invokevirtual 88, 3) := by decide +kernel
theorem dX3_follow_44 : decode cX3_follow 44 = .ok (.pop, 1) := by decide +kernel
theorem dX3_follow_45 : decode cX3_follow 45 = .ok (.iinc 2 (-1), 3) := by decide +kernel
theorem dX3_follow_48 : decode cX3_follow 48 = .ok (.goto (-25), 3) := by decide +kernel
theorem dX3_follow_51 : decode cX3_follow 51 = .ok (.aload_n 1, 1) := by decide +kernel
theorem dX3_follow_52 : decode cX3_follow 52 = .ok (.getfield 92, 3) := by decide +kernel
theorem dX3_follow_55 : decode cX3_follow 55 = .ok (.istore_n 2, 1) := by decide +kernel
theorem dX3_follow_56 : decode cX3_follow 56 = .ok (.aload_n 1, 1) := by decide +kernel
theorem dX3_follow_57 : decode cX3_follow 57 = .ok (.getfield 119, 3) := by decide +kernel
theorem dX3_follow_60 : decode cX3_follow 60 = .ok (.aload_n 0, 1) := by decide +kernel
theorem dX3_follow_61 : decode cX3_follow 61 = .ok (.getfield 95, 3) := by decide +kernel
theorem dX3_follow_64 : decode cX3_follow 64 = .ok (.iload_n 2, 1) := by decide +kernel
theorem dX3_follow_65 : decode cX3_follow 65 = .ok (.invokevirtual 123, 3) := by decide +kernel
theorem dX3_follow_68 : decode cX3_follow 68 = .ok (.aload_n 0, 1) := by decide +kernel
theorem dX3_follow_69 : decode cX3_follow 69 = .ok (.getfield 95, 3) := by decide +kernel
theorem dX3_follow_72 : decode cX3_follow 72 = .ok (.istore_n 3, 1) := by decide +kernel
theorem dX3_follow_73 : decode cX3_follow 73 = .ok (.iload_n 3, 1) := by decide +kernel
theorem dX3_follow_74 : decode cX3_follow 74 = .ok (.aload_n 0, 1) := by decide +kernel
theorem dX3_follow_75 : decode cX3_follow 75 = .ok (.getfield 98, 3) := by decide +kernel
theorem dX3_follow_78 : decode cX3_follow 78 = .ok (.if_icmp .ge 38, 3) := by decide +kernel
theorem dX3_follow_81 : decode cX3_follow 81 = .ok (.aload_n 0, 1) := by decide +kernel
theorem dX3_follow_82 : decode cX3_follow 82 = .ok (.iload_n 2, 1) := by decide +kernel
theorem dX3_follow_83 : decode cX3_follow 83 = .ok (.iload_n 3, 1) := by decide +kernel
theorem dX3_follow_84 : decode cX3_follow 84 = .ok (.invokevirtual 129, 3) := by decide +kernel
theorem dX3_follow_87 : decode cX3_follow 87 = .ok (.istore 4, 2) := by decide +kernel
theorem dX3_follow_89 : decode cX3_follow 89 = .ok (.aload_n 0, 1) := by decide +kernel
theorem dX3_follow_90 : decode cX3_follow 90 = .ok (.getfield 20, 3) := by decide +kernel
theorem dX3_follow_93 : decode cX3_follow 93 = .ok (.iload_n 2, 1) := by decide +kernel
theorem dX3_follow_94 : decode cX3_follow 94 = .ok (.iload 4, 2) := by decide +kernel
theorem dX3_follow_96 : decode cX3_follow 96 = .ok (.invokevirtual 113, 3) := by decide +kernel
theorem dX3_follow_99 : decode cX3_follow 99 = .ok (.istore_n 2, 1) := by decide +kernel
theorem dX3_follow_100 : decode cX3_follow 100 = .ok (.aload_n 1, 1) := by decide +kernel
theorem dX3_follow_101 : decode cX3_follow 101 = .ok (.getfield 119, 3) := by decide +kernel
theorem dX3_follow_104 : decode cX3_follow 104 = .ok (.iload 4, 2) := by decide +kernel
theorem dX3_follow_106 : decode cX3_follow 106 = .ok (.iload_n 2, 1) := by decide +kernel
theorem dX3_follow_107 : decode cX3_follow 107 = .ok (.invokevirtual 132, 3) := by decide +kernel
theorem dX3_follow_110 : decode cX3_follow 110 = .ok (.iinc 3 1, 3) := by decide +kernel
theorem dX3_follow_113 : decode cX3_follow 113 = .ok (.goto (-40), 3) := by decide +kernel
theorem dX3_follow_116 : decode cX3_follow 116 = .ok (.return_, 1) := by decide +kernel
theorem dX3_firstStep_0 : decode cX3_firstStep 0 = .ok (.aload_n 0, 1) := by decide +kernel
theorem dX3_firstStep_1 : decode cX3_firstStep 1 = .ok (.getfield 98, 3) := by decide +kernel
theorem dX3_firstStep_4 : decode cX3_firstStep 4 = .ok (.iload_n 2, 1) := by decide +kernel
theorem dX3_firstStep_5 : decode cX3_firstStep 5 = .ok (.isub, 1) := by decide +kernel
theorem dX3_firstStep_6 : decode cX3_firstStep 6 = .ok (.istore_n 3, 1) := by decide +kernel
theorem dX3_firstStep_7 : decode cX3_firstStep 7 = .ok (.iload_n 3, 1) := by decide +kernel
theorem dX3_firstStep_8 : decode cX3_firstStep 8 = .ok (.iconst 1, 1) := by decide +kernel
theorem dX3_firstStep_9 : decode cX3_firstStep 9 = .ok (.if_icmp .lt 9, 3) := by decide +kernel
theorem dX3_firstStep_12 : decode cX3_firstStep 12 = .ok (.iload_n 3, 1) := by decide +kernel
theorem dX3_firstStep_13 : decode cX3_firstStep 13 = .ok (.bipush 30, 2) := by decide +kernel
theorem dX3_firstStep_15 : decode cX3_firstStep 15 = .ok (.if_icmp .le 5, 3) := by decide +kernel
theorem dX3_firstStep_18 : decode cX3_firstStep 18 = .ok (.iconst 4, 1) := by decide +kernel
theorem dX3_firstStep_19 : decode cX3_firstStep 19 = .ok (.ireturn, 1) := by decide +kernel
theorem dX3_firstStep_20 : decode cX3_firstStep 20 = .ok (.aload_n 0, 1) := by decide +kernel
theorem dX3_firstStep_21 : decode cX3_firstStep 21 = .ok (.getfield 17, 3) := by decide +kernel
theorem dX3_firstStep_24 : decode cX3_firstStep 24 = .ok (.iload_n 3, 1) := by decide +kernel
theorem dX3_firstStep_25 : decode cX3_firstStep 25 = .ok (.aaload, 1) := by decide +kernel
theorem dX3_firstStep_26 : decode cX3_firstStep 26 = .ok (.iload_n 1, 1) := by decide +kernel
theorem dX3_firstStep_27 : decode cX3_firstStep 27 = .ok (.iaload, 1) := by decide +kernel
theorem dX3_firstStep_28 : decode cX3_firstStep 28 = .ok (.aload_n 0, 1) := by decide +kernel
theorem dX3_firstStep_29 : decode cX3_firstStep 29 = .ok (.getfield 9, 3) := by decide +kernel
theorem dX3_firstStep_32 : decode cX3_firstStep 32 = .ok (.iload_n 1, 1) := by decide +kernel
theorem dX3_firstStep_33 : decode cX3_firstStep 33 = .ok (.iaload, 1) := by decide +kernel
theorem dX3_firstStep_34 : decode cX3_firstStep 34 = .ok (.isub, 1) := by decide +kernel
theorem dX3_firstStep_35 : decode cX3_firstStep 35 = .ok (.istore 4, 2) := by decide +kernel
theorem dX3_firstStep_37 : decode cX3_firstStep 37 = .ok (.iconst 0, 1) := by decide +kernel
theorem dX3_firstStep_38 : decode cX3_firstStep 38 = .ok (.istore 5, 2) := by decide +kernel
theorem dX3_firstStep_40 : decode cX3_firstStep 40 = .ok (.iload 5, 2) := by decide +kernel
theorem dX3_firstStep_42 : decode cX3_firstStep 42 = .ok (.iconst 4, 1) := by decide +kernel
theorem dX3_firstStep_43 : decode cX3_firstStep 43 = .ok (.if_icmp .ge 60, 3) := by decide +kernel
theorem dX3_firstStep_46 : decode cX3_firstStep 46 = .ok (.aload_n 0, 1) := by decide +kernel
theorem dX3_firstStep_47 : decode cX3_firstStep 47 = .ok (.getfield 20, 3) := by decide +kernel
theorem dX3_firstStep_50 : decode cX3_firstStep 50 = .ok (.iload_n 1, 1) := by decide +kernel
theorem dX3_firstStep_51 : decode cX3_firstStep 51 = .ok (.iload 5, 2) := by decide +kernel
theorem dX3_firstStep_53 : decode cX3_firstStep 53 = .ok (.invokevirtual 113, 3) := by decide +kernel
theorem dX3_firstStep_56 : decode cX3_firstStep 56 = .ok (.istore 6, 2) := by decide +kernel
theorem dX3_firstStep_58 : decode cX3_firstStep 58 = .ok (.iload 6, 2) := by decide +kernel
theorem dX3_firstStep_60 : decode cX3_firstStep 60 = .ok (.iconst (-1), 1) := by decide +kernel
theorem dX3_firstStep_61 : decode cX3_firstStep 61 = .ok (.if_icmp .eq 36, 3) := by decide +kernel
theorem dX3_firstStep_64 : decode cX3_firstStep 64 = .ok (.aload_n 0, 1) := by decide +kernel
theorem dX3_firstStep_65 : decode cX3_firstStep 65 = .ok (.getfield 17, 3) := by decide +kernel
theorem dX3_firstStep_68 : decode cX3_firstStep 68 = .ok (.iload_n 3, 1) := by decide +kernel
theorem dX3_firstStep_69 : decode cX3_firstStep 69 = .ok (.iconst 1, 1) := by decide +kernel
theorem dX3_firstStep_70 : decode cX3_firstStep 70 = .ok (.isub, 1) := by decide +kernel
theorem dX3_firstStep_71 : decode cX3_firstStep 71 = .ok (.aaload, 1) := by decide +kernel
theorem dX3_firstStep_72 : decode cX3_firstStep 72 = .ok (.iload 6, 2) := by decide +kernel
theorem dX3_firstStep_74 : decode cX3_firstStep 74 = .ok (.iaload, 1) := by decide +kernel
theorem dX3_firstStep_75 : decode cX3_firstStep 75 = .ok (.iload 4, 2) := by decide +kernel
theorem dX3_firstStep_77 : decode cX3_firstStep 77 = .ok (.if_icmp .ne 20, 3) := by decide +kernel
theorem dX3_firstStep_80 : decode cX3_firstStep 80 = .ok (.aload_n 0, 1) := by decide +kernel
theorem dX3_firstStep_81 : decode cX3_firstStep 81 = .ok (.getfield 24, 3) := by decide +kernel
theorem dX3_firstStep_84 : decode cX3_firstStep 84 = .ok (.iload 5, 2) := by decide +kernel
theorem dX3_firstStep_86 : decode cX3_firstStep 86 = .ok (.iload_n 1, 1) := by decide +kernel
theorem dX3_firstStep_87 : decode cX3_firstStep 87 = .ok (.iload_n 2, 1) := by decide +kernel
theorem dX3_firstStep_88 : decode cX3_firstStep 88 = .ok (.invokevirtual 116, 3) := by decide +kernel
theorem dX3_firstStep_91 : decode cX3_firstStep 91 = .ok (.ifCond .eq 6, 3) := by decide +kernel
theorem dX3_firstStep_94 : decode cX3_firstStep 94 = .ok (.iload 5, 2) := by decide +kernel
theorem dX3_firstStep_96 : decode cX3_firstStep 96 = .ok (.ireturn, 1) := by decide +kernel
theorem dX3_firstStep_97 : decode cX3_firstStep 97 = .ok (.iinc 5 1, 3) := by decide +kernel
theorem dX3_firstStep_100 : decode cX3_firstStep 100 = .ok (.goto (-60), 3) := by decide +kernel
theorem dX3_firstStep_103 : decode cX3_firstStep 103 = .ok (.iconst 4, 1) := by decide +kernel
theorem dX3_firstStep_104 : decode cX3_firstStep 104 = .ok (.ireturn, 1) := by decide +kernel
theorem dX4_init_0 : decode cX4_init 0 = .ok (.aload_n 0, 1) := by decide +kernel
theorem dX4_init_1 : decode cX4_init 1 = .ok (.invokespecial 3, 3) := by decide +kernel
theorem dX4_init_4 : decode cX4_init 4 = .ok (.aload_n 0, 1) := by decide +kernel
theorem dX4_init_5 : decode cX4_init 5 = .ok (.iconst 5, 1) := by decide +kernel
theorem dX4_init_6 : decode cX4_init 6 = .ok (.newarray .int, 2) := by decide +kernel
theorem dX4_init_8 : decode cX4_init 8 = .ok (.putfield 9, 3) := by decide +kernel
theorem dX4_init_11 : decode cX4_init 11 = .ok (.aload_n 0, 1) := by decide +kernel
theorem dX4_init_12 : decode cX4_init 12 = .ok (.iconst 5, 1) := by decide +kernel
theorem dX4_init_13 : decode cX4_init 13 = .ok (.newarray .int, 2) := by decide +kernel
theorem dX4_init_15 : decode cX4_init 15 = .ok (.putfield 15, 3) := by decide +kernel
theorem dX4_init_18 : decode cX4_init 18 = .ok (.aload_n 0, 1) := by decide +kernel
theorem dX4_init_19 : decode cX4_init 19 = .ok (.bipush 10, 2) := by decide +kernel
theorem dX4_init_21 : decode cX4_init 21 = .ok (.newarray .int, 2) := by decide +kernel
theorem dX4_init_23 : decode cX4_init 23 = .ok (.putfield 18, 3) := by decide +kernel
theorem dX4_init_26 : decode cX4_init 26 = .ok (.aload_n 0, 1) := by decide +kernel
theorem dX4_init_27 : decode cX4_init 27 = .ok (.aload_n 1, 1) := by decide +kernel
theorem dX4_init_28 : decode cX4_init 28 = .ok (.putfield 21, 3) := by decide +kernel
theorem dX4_init_31 : decode cX4_init 31 = .ok (.aload_n 0, 1) := by decide +kernel
theorem dX4_init_32 : decode cX4_init 32 = .ok (.aload_n 2, 1) := by decide +kernel
theorem dX4_init_33 : decode cX4_init 33 = .ok (.putfield 25, 3) := by decide +kernel
theorem dX4_init_36 : decode cX4_init 36 = .ok (.return_, 1) := by decide +kernel
theorem dX4_number_0 : decode cX4_number 0 = .ok (.iload_n 1, 1) := by decide +kernel
theorem dX4_number_1 : decode cX4_number 1 = .ok (.ifCond .lt 25, 3) := by decide +kernel
theorem dX4_number_4 : decode cX4_number 4 = .ok (.iload_n 1, 1) := by decide +kernel
theorem dX4_number_5 : decode cX4_number 5 = .ok (.aload_n 0, 1) := by decide +kernel
theorem dX4_number_6 : decode cX4_number 6 = .ok (.getfield 29, 3) := by decide +kernel
theorem dX4_number_9 : decode cX4_number 9 = .ok (.if_icmp .ge 17, 3) := by decide +kernel
theorem dX4_number_12 : decode cX4_number 12 = .ok (.iload_n 1, 1) := by decide +kernel
theorem dX4_number_13 : decode cX4_number 13 = .ok (.iconst 5, 1) := by decide +kernel
theorem dX4_number_14 : decode cX4_number 14 = .ok (.if_icmp .ge 12, 3) := by decide +kernel
theorem dX4_number_17 : decode cX4_number 17 = .ok (.aload_n 0, 1) := by decide +kernel
theorem dX4_number_18 : decode cX4_number 18 = .ok (.getfield 15, 3) := by decide +kernel
theorem dX4_number_21 : decode cX4_number 21 = .ok (.iload_n 1, 1) := by decide +kernel
theorem dX4_number_22 : decode cX4_number 22 = .ok (.iaload, 1) := by decide +kernel
theorem dX4_number_23 : decode cX4_number 23 = .ok (.goto 5, 3) := by decide +kernel
theorem dX4_number_26 : decode cX4_number 26 = .ok (.ldc 33, 2) := by decide +kernel
theorem dX4_number_28 : decode cX4_number 28 = .ok (.ireturn, 1) := by decide +kernel
theorem dX4_findBest_0 : decode cX4_findBest 0 = .ok (.aload_n 0, 1) := by decide +kernel
theorem dX4_findBest_1 : decode cX4_findBest 1 = .ok (.iload_n 1, 1) := by decide +kernel
theorem dX4_findBest_2 : decode cX4_findBest 2 = .ok (.invokestatic 34, 3) := by decide +kernel
theorem dX4_findBest_5 : decode cX4_findBest 5 = .ok (.putfield 29, 3) := by decide +kernel
theorem dX4_findBest_8 : decode cX4_findBest 8 = .ok (.aload_n 0, 1) := by decide +kernel
theorem dX4_findBest_9 : decode cX4_findBest 9 = .ok (.ldc 40, 2) := by decide +kernel
theorem dX4_findBest_11 : decode cX4_findBest 11 = .ok (.putfield 41, 3) := by decide +kernel
theorem dX4_findBest_14 : decode cX4_findBest 14 = .ok (.iconst 0, 1) := by decide +kernel
theorem dX4_findBest_15 : decode cX4_findBest 15 = .ok (.istore_n 2, 1) := by decide +kernel
theorem dX4_findBest_16 : decode cX4_findBest 16 = .ok (.iload_n 2, 1) := by decide +kernel
theorem dX4_findBest_17 : decode cX4_findBest 17 = .ok (.aload_n 0, 1) := by decide +kernel
theorem dX4_findBest_18 : decode cX4_findBest 18 = .ok (.getfield 21, 3) := by decide +kernel
theorem dX4_findBest_21 : decode cX4_findBest 21 = .ok (.getfield 44, 3) := by decide +kernel
theorem dX4_findBest_24 : decode cX4_findBest 24 = .ok (.if_icmp .ge 41, 3) := by decide +kernel
theorem dX4_findBest_27 : decode cX4_findBest 27 = .ok (.iload_n 1, 1) := by decide +kernel
theorem dX4_findBest_28 : decode cX4_findBest 28 = .ok (.iload_n 2, 1) := by decide +kernel
theorem dX4_findBest_29 : decode cX4_findBest 29 = .ok (.invokestatic 47, 3) := by decide +kernel
theorem dX4_findBest_32 : decode cX4_findBest 32 = .ok (.ifCond .eq 27, 3) := by decide +kernel
theorem dX4_findBest_35 : decode cX4_findBest 35 = .ok (.aload_n 0, 1) := by decide +kernel
theorem dX4_findBest_36 : decode cX4_findBest 36 = .ok (.getfield 18, 3) := by decide +kernel
theorem dX4_findBest_39 : decode cX4_findBest 39 = .ok (.iload_n 2, 1) := by decide +kernel
theorem dX4_findBest_40 : decode cX4_findBest 40 = .ok (.aload_n 0, 1) := by decide +kernel
theorem dX4_findBest_41 : decode cX4_findBest 41 = .ok (.iload_n 2, 1) := by decide +kernel
theorem dX4_findBest_42 : decode cX4_findBest 42 = .ok (.invokevirtual 51, 3) := by decide +kernel
theorem dX4_findBest_45 : decode cX4_findBest 45 = .ok (.iastore, 1) := by decide +kernel
theorem dX4_findBest_46 : decode cX4_findBest 46 = .ok (.aload_n 0, 1) := by decide +kernel
theorem dX4_findBest_47 : decode cX4_findBest 47 = .ok (.getfield 21, 3) := by decide +kernel
theorem dX4_findBest_50 : decode cX4_findBest 50 = .ok (.getfield 54, 3) := by decide +kernel
theorem dX4_findBest_53 : decode cX4_findBest 53 = .ok (.iload_n 2, 1) := by decide +kernel
theorem dX4_findBest_54 : decode cX4_findBest 54 = .ok (.aaload, 1) := by decide +kernel
theorem dX4_findBest_55 : decode cX4_findBest 55 = .ok (.iconst 0, 1) := by decide +kernel
theorem dX4_findBest_56 : decode cX4_findBest 56 = .ok (.putfield 58, 3) := by decide +kernel
theorem dX4_findBest_59 : decode cX4_findBest 59 = .ok (.iinc 2 1, 3) := by decide +kernel
theorem dX4_findBest_62 : decode cX4_findBest 62 = .ok (.goto (-46), 3) := by decide +kernel
theorem dX4_findBest_65 : decode cX4_findBest 65 = .ok (.aload_n 0, 1) := by decide +kernel
theorem dX4_findBest_66 : decode cX4_findBest 66 = .ok (.iconst 0, 1) := by decide +kernel
theorem dX4_findBest_67 : decode cX4_findBest 67 = .ok (.iconst 0, 1) := by decide +kernel
theorem dX4_findBest_68 : decode cX4_findBest 68 = .ok (.iload_n 1, 1) := by decide +kernel
theorem dX4_findBest_69 : decode cX4_findBest 69 = .ok (.invokestatic 64, 3) := by decide +kernel
theorem dX4_findBest_72 : decode cX4_findBest 72 = .ok (.return_, 1) := by decide +kernel
theorem dX4_tryFrom_0 : decode cX4_tryFrom 0 = .ok (.aload_n 0, 1) := by decide +kernel
theorem dX4_tryFrom_1 : decode cX4_tryFrom 1 = .ok (.iload_n 2, 1) := by decide +kernel
theorem dX4_tryFrom_2 : decode cX4_tryFrom 2 = .ok (.iload_n 3, 1) := by decide +kernel
theorem dX4_tryFrom_3 : decode cX4_tryFrom 3 = .ok (.invokevirtual 68, 3) := by decide +kernel
theorem dX4_tryFrom_6 : decode cX4_tryFrom 6 = .ok (.aload_n 0, 1) := by decide +kernel
theorem dX4_tryFrom_7 : decode cX4_tryFrom 7 = .ok (.getfield 41, 3) := by decide +kernel
theorem dX4_tryFrom_10 : decode cX4_tryFrom 10 = .ok (.if_icmp .lt 4, 3) := by decide +kernel
theorem dX4_tryFrom_13 : decode cX4_tryFrom 13 = .ok (.return_, 1) := by decide +kernel
theorem dX4_tryFrom_14 : decode cX4_tryFrom 14 = .ok (.iload_n 3, 1) := by decide +kernel
theorem dX4_tryFrom_15 : decode cX4_tryFrom 15 = .ok (.ifCond .ne 9, 3) := by decide +kernel
theorem dX4_tryFrom_18 : decode cX4_tryFrom 18 = .ok (.aload_n 0, 1) := by decide +kernel
theorem dX4_tryFrom_19 : decode cX4_tryFrom 19 = .ok (.iload_n 2, 1) := by decide +kernel
theorem dX4_tryFrom_20 : decode cX4_tryFrom 20 = .ok (.invokevirtual 72, 3) := by decide +kernel
theorem dX4_tryFrom_23 : decode cX4_tryFrom 23 = .ok (.return_, 1) := by decide +kernel
theorem dX4_tryFrom_24 : decode cX4_tryFrom 24 = .ok (.iload_n 1, 1) := by decide +kernel
theorem dX4_tryFrom_25 : decode cX4_tryFrom 25 = .ok (.iconst 5, 1) := by decide +kernel
theorem dX4_tryFrom_26 : decode cX4_tryFrom 26 = .ok (.if_icmp .lt 4, 3) := by decide +kernel
theorem dX4_tryFrom_29 : decode cX4_tryFrom 29 = .ok (.return_, 1) := by decide +kernel
theorem dX4_tryFrom_30 : decode cX4_tryFrom 30 = .ok (.iconst 0, 1) := by decide +kernel
theorem dX4_tryFrom_31 : decode cX4_tryFrom 31 = .ok (.istore 4, 2) := by decide +kernel
theorem dX4_tryFrom_33 : decode cX4_tryFrom 33 = .ok (.iload 4, 2) := by decide +kernel
theorem dX4_tryFrom_35 : decode cX4_tryFrom 35 = .ok (.aload_n 0, 1) := by decide +kernel
theorem dX4_tryFrom_36 : decode cX4_tryFrom 36 = .ok (.getfield 21, 3) := by decide +kernel
theorem dX4_tryFrom_39 : decode cX4_tryFrom 39 = .ok (.getfield 44, 3) := by decide +kernel
theorem dX4_tryFrom_42 : decode cX4_tryFrom 42 = .ok (.if_icmp .ge 67, 3) := by decide +kernel
theorem dX4_tryFrom_45 : decode cX4_tryFrom 45 = .ok (.iload_n 3, 1) := by decide +kernel
theorem dX4_tryFrom_46 : decode cX4_tryFrom 46 = .ok (.iload 4, 2) := by decide +kernel
theorem dX4_tryFrom_48 : decode cX4_tryFrom 48 = .ok (.invokestatic 47, 3) := by decide +kernel
theorem dX4_tryFrom_51 : decode cX4_tryFrom 51 = .ok (.ifCond .eq 52, 3) := by decide +kernel
theorem dX4_tryFrom_54 : decode cX4_tryFrom 54 = .ok (.aload_n 0, 1) := by decide +kernel
theorem dX4_tryFrom_55 : decode cX4_tryFrom 55 = .ok (.getfield 9, 3) := by decide +kernel
theorem dX4_tryFrom_58 : decode cX4_tryFrom 58 = .ok (.iload_n 1, 1) := by decide +kernel
theorem dX4_tryFrom_59 : decode cX4_tryFrom 59 = .ok (.iload 4, 2) := by decide +kernel
theorem dX4_tryFrom_61 : decode cX4_tryFrom 61 = .ok (.iastore, 1) := by decide +kernel
theorem dX4_tryFrom_62 : decode cX4_tryFrom 62 = .ok (.aload_n 0, 1) := by decide +kernel
theorem dX4_tryFrom_63 : decode cX4_tryFrom 63 = .ok (.iload 4, 2) := by decide +kernel
theorem dX4_tryFrom_65 : decode cX4_tryFrom 65 = .ok (.invokevirtual 51, 3) := by decide +kernel
theorem dX4_tryFrom_68 : decode cX4_tryFrom 68 = .ok (.istore 5, 2) := by decide +kernel
theorem dX4_tryFrom_70 : decode cX4_tryFrom 70 = .ok (.aload_n 0, 1) := by decide +kernel
theorem dX4_tryFrom_71 : decode cX4_tryFrom 71 = .ok (.iload_n 1, 1) := by decide +kernel
theorem dX4_tryFrom_72 : decode cX4_tryFrom 72 = .ok (.iconst 1, 1) := by decide +kernel
theorem dX4_tryFrom_73 : decode cX4_tryFrom 73 = .ok (.iadd, 1) := by decide +kernel
theorem dX4_tryFrom_74 : decode cX4_tryFrom 74 = .ok (.iload_n 2, 1) := by decide +kernel
theorem dX4_tryFrom_75 : decode cX4_tryFrom 75 = .ok (.iload 5, 2) := by decide +kernel
theorem dX4_tryFrom_77 : decode cX4_tryFrom 77 = .ok (.iadd, 1) := by decide +kernel
theorem dX4_tryFrom_78 : decode cX4_tryFrom 78 = .ok (.iload_n 3, 1) := by decide +kernel
theorem dX4_tryFrom_79 : decode cX4_tryFrom 79 = .ok (.iconst 1, 1) := by decide +kernel
theorem dX4_tryFrom_80 : decode cX4_tryFrom 80 = .ok (.iload 4, 2) := by decide +kernel
theorem dX4_tryFrom_82 : decode cX4_tryFrom 82 = .ok (.ishl, 1) := by decide +kernel
theorem dX4_tryFrom_83 : decode cX4_tryFrom 83 = .ok (.iconst (-1), 1) := by decide +kernel
theorem dX4_tryFrom_84 : decode cX4_tryFrom 84 = .ok (.ixor, 1) := by decide +kernel
theorem dX4_tryFrom_85 : decode cX4_tryFrom 85 = .ok (.iand, 1) := by decide +kernel
theorem dX4_tryFrom_86 : decode cX4_tryFrom 86 = .ok (.invokestatic 64, 3) := by decide +kernel
theorem dX4_tryFrom_89 : decode cX4_tryFrom 89 = .ok (.aload_n 0, 1) := by decide +kernel
theorem dX4_tryFrom_90 : decode cX4_tryFrom 90 = .ok (.getfield 21, 3) := by decide +kernel
theorem dX4_tryFrom_93 : decode cX4_tryFrom 93 = .ok (.getfield 54, 3) := by decide +kernel
theorem dX4_tryFrom_96 : decode cX4_tryFrom 96 = .ok (.iload 4, 2) := by decide +kernel
theorem dX4_tryFrom_98 : decode cX4_tryFrom 98 = .ok (.aaload, 1) := by decide +kernel
theorem dX4_tryFrom_99 : decode cX4_tryFrom 99 = .ok (.iconst 0, 1) := by decide +kernel
theorem dX4_tryFrom_100 : decode cX4_tryFrom 100 = .ok (.putfield 58, 3) := by decide +kernel
theorem dX4_tryFrom_103 : decode cX4_tryFrom 103 = .ok (.iinc 4 1, 3) := by decide +kernel
theorem dX4_tryFrom_106 : decode cX4_tryFrom 106 = .ok (.goto (-73), 3) := by decide +kernel
theorem dX4_tryFrom_109 : decode cX4_tryFrom 109 = .ok (.return_, 1) := by decide +kernel
theorem dX4_leastCost_0 : decode cX4_leastCost 0 = .ok (.iload_n 1, 1) := by decide +kernel
theorem dX4_leastCost_1 : decode cX4_leastCost 1 = .ok (.istore_n 3, 1) := by decide +kernel
theorem dX4_leastCost_2 : decode cX4_leastCost 2 = .ok (.iconst 0, 1) := by decide +kernel
theorem dX4_leastCost_3 : decode cX4_leastCost 3 = .ok (.istore 4, 2) := by decide +kernel
theorem dX4_leastCost_5 : decode cX4_leastCost 5 = .ok (.iload 4, 2) := by decide +kernel
theorem dX4_leastCost_7 : decode cX4_leastCost 7 = .ok (.aload_n 0, 1) := by decide +kernel
theorem dX4_leastCost_8 : decode cX4_leastCost 8 = .ok (.getfield 21, 3) := by decide +kernel
theorem dX4_leastCost_11 : decode cX4_leastCost 11 = .ok (.getfield 44, 3) := by decide +kernel
theorem dX4_leastCost_14 : decode cX4_leastCost 14 = .ok (.if_icmp .ge 28, 3) := by decide +kernel
theorem dX4_leastCost_17 : decode cX4_leastCost 17 = .ok (.iload_n 2, 1) := by decide +kernel
theorem dX4_leastCost_18 : decode cX4_leastCost 18 = .ok (.iload 4, 2) := by decide +kernel
theorem dX4_leastCost_20 : decode cX4_leastCost 20 = .ok (.invokestatic 47, 3) := by decide +kernel
theorem dX4_leastCost_23 : decode cX4_leastCost 23 = .ok (.ifCond .eq 13, 3) := by decide +kernel
theorem dX4_leastCost_26 : decode cX4_leastCost 26 = .ok (.iload_n 3, 1) := by decide +kernel
theorem dX4_leastCost_27 : decode cX4_leastCost 27 = .ok (.aload_n 0, 1) := by decide +kernel
theorem dX4_leastCost_28 : decode cX4_leastCost 28 = .ok (.getfield 18, 3) := by decide +kernel
theorem dX4_leastCost_31 : decode cX4_leastCost 31 = .ok (.iload 4, 2) := by decide +kernel
theorem dX4_leastCost_33 : decode cX4_leastCost 33 = .ok (.iaload, 1) := by decide +kernel
theorem dX4_leastCost_34 : decode cX4_leastCost 34 = .ok (.iadd, 1) := by decide +kernel
theorem dX4_leastCost_35 : decode cX4_leastCost 35 = .ok (.istore_n 3, 1) := by decide +kernel
theorem dX4_leastCost_36 : decode cX4_leastCost 36 = .ok (.iinc 4 1, 3) := by decide +kernel
theorem dX4_leastCost_39 : decode cX4_leastCost 39 = .ok (.goto (-34), 3) := by decide +kernel
theorem dX4_leastCost_42 : decode cX4_leastCost 42 = .ok (.iload_n 3, 1) := by decide +kernel
theorem dX4_leastCost_43 : decode cX4_leastCost 43 = .ok (.ireturn, 1) := by decide +kernel
end
section
theorem dX4_keep_0 : decode cX4_keep 0 = .ok (.aload_n 0, 1) := by decide +kernel
theorem dX4_keep_1 : decode cX4_keep 1 = .ok (.iload_n 1, 1) := by decide +kernel
theorem dX4_keep_2 : decode cX4_keep 2 = .ok (.putfield 41, 3) := by decide +kernel
theorem dX4_keep_5 : decode cX4_keep 5 = .ok (.iconst 0, 1) := by decide +kernel
theorem dX4_keep_6 : decode cX4_keep 6 = .ok (.istore_n 2, 1) := by decide +kernel
theorem dX4_keep_7 : decode cX4_keep 7 = .ok (.iload_n 2, 1) := by decide +kernel
theorem dX4_keep_8 : decode cX4_keep 8 = .ok (.aload_n 0, 1) := by decide +kernel
theorem dX4_keep_9 : decode cX4_keep 9 = .ok (.getfield 29, 3) := by decide +kernel
theorem dX4_keep_12 : decode cX4_keep 12 = .ok (.if_icmp .ge 26, 3) := by decide +kernel
theorem dX4_keep_15 : decode cX4_keep 15 = .ok (.iload_n 2, 1) := by decide +kernel
theorem dX4_keep_16 : decode cX4_keep 16 = .ok (.iconst 5, 1) := by decide +kernel
theorem dX4_keep_17 : decode cX4_keep 17 = .ok (.if_icmp .ge 21, 3) := by decide +kernel
theorem dX4_keep_20 : decode cX4_keep 20 = .ok (.aload_n 0, 1) := by decide +kernel
theorem dX4_keep_21 : decode cX4_keep 21 = .ok (.getfield 15, 3) := by decide +kernel
theorem dX4_keep_24 : decode cX4_keep 24 = .ok (.iload_n 2, 1) := by decide +kernel
theorem dX4_keep_25 : decode cX4_keep 25 = .ok (.aload_n 0, 1) := by decide +kernel
theorem dX4_keep_26 : decode cX4_keep 26 = .ok (.getfield 9, 3) := by decide +kernel
theorem dX4_keep_29 : decode cX4_keep 29 = .ok (.iload_n 2, 1) := by decide +kernel
theorem dX4_keep_30 : decode cX4_keep 30 = .ok (.iaload, 1) := by decide +kernel
theorem dX4_keep_31 : decode cX4_keep 31 = .ok (.iastore, 1) := by decide +kernel
theorem dX4_keep_32 : decode cX4_keep 32 = .ok (.iinc 2 1, 3) := by decide +kernel
theorem dX4_keep_35 : decode cX4_keep 35 = .ok (.goto (-28), 3) := by decide +kernel
theorem dX4_keep_38 : decode cX4_keep 38 = .ok (.return_, 1) := by decide +kernel
theorem dX4_giveNext_0 : decode cX4_giveNext 0 = .ok (.aload_n 0, 1) := by decide +kernel
theorem dX4_giveNext_1 : decode cX4_giveNext 1 = .ok (.getfield 21, 3) := by decide +kernel
theorem dX4_giveNext_4 : decode cX4_giveNext 4 = .ok (.getfield 54, 3) := by decide +kernel
theorem dX4_giveNext_7 : decode cX4_giveNext 7 = .ok (.iload_n 1, 1) := by decide +kernel
theorem dX4_giveNext_8 : decode cX4_giveNext 8 = .ok (.aaload, 1) := by decide +kernel
theorem dX4_giveNext_9 : decode cX4_giveNext 9 = .ok (.astore_n 2, 1) := by decide +kernel
theorem dX4_giveNext_10 : decode cX4_giveNext 10 = .ok (.aload_n 2, 1) := by decide +kernel
theorem dX4_giveNext_11 : decode cX4_giveNext 11 = .ok (.aload_n 0, 1) := by decide +kernel
theorem dX4_giveNext_12 : decode cX4_giveNext 12 = .ok (.getfield 25, 3) := by decide +kernel
theorem dX4_giveNext_15 : decode cX4_giveNext 15 = .ok (.aload_n 2, 1) := by decide +kernel
theorem dX4_giveNext_16 : decode cX4_giveNext 16 = .ok (.invokevirtual 76, 3) := by decide +kernel
theorem dX4_giveNext_19 : decode cX4_giveNext 19 = .ok (.putfield 58, 3) := by decide +kernel
theorem dX4_giveNext_22 : decode cX4_giveNext 22 = .ok (.aload_n 2, 1) := by decide +kernel
theorem dX4_giveNext_23 : decode cX4_giveNext 23 = .ok (.getfield 82, 3) := by decide +kernel
theorem dX4_giveNext_26 : decode cX4_giveNext 26 = .ok (.aload_n 2, 1) := by decide +kernel
theorem dX4_giveNext_27 : decode cX4_giveNext 27 = .ok (.getfield 58, 3) := by decide +kernel
theorem dX4_giveNext_30 : decode cX4_giveNext 30 = .ok (.ifCond .eq 18, 3) := by decide +kernel
theorem dX4_giveNext_33 : decode cX4_giveNext 33 = .ok (.aload_n 2, 1) := by decide +kernel
theorem dX4_giveNext_34 : decode cX4_giveNext 34 = .ok (.getfield 85, 3) := by decide +kernel
theorem dX4_giveNext_37 : decode cX4_giveNext 37 = .ok (.getfield 89, 3) := by decide +kernel
theorem dX4_giveNext_40 : decode cX4_giveNext 40 = .ok (.aload_n 2, 1) := by decide +kernel
theorem dX4_giveNext_41 : decode cX4_giveNext 41 = .ok (.getfield 94, 3) := by decide +kernel
theorem dX4_giveNext_44 : decode cX4_giveNext 44 = .ok (.isub, 1) := by decide +kernel
theorem dX4_giveNext_45 : decode cX4_giveNext 45 = .ok (.goto 5, 3) := by decide +kernel
theorem dX4_giveNext_48 : decode cX4_giveNext 48 = .ok (.bipush 100, 2) := by decide +kernel
theorem dX4_giveNext_50 : decode cX4_giveNext 50 = .ok (.imul, 1) := by decide +kernel
theorem dX4_giveNext_51 : decode cX4_giveNext 51 = .ok (.ireturn, 1) := by decide +kernel
theorem dX4_carryOut_0 : decode cX4_carryOut 0 = .ok (.iconst 0, 1) := by decide +kernel
theorem dX4_carryOut_1 : decode cX4_carryOut 1 = .ok (.istore_n 1, 1) := by decide +kernel
theorem dX4_carryOut_2 : decode cX4_carryOut 2 = .ok (.iconst 0, 1) := by decide +kernel
theorem dX4_carryOut_3 : decode cX4_carryOut 3 = .ok (.istore_n 2, 1) := by decide +kernel
theorem dX4_carryOut_4 : decode cX4_carryOut 4 = .ok (.iload_n 2, 1) := by decide +kernel
theorem dX4_carryOut_5 : decode cX4_carryOut 5 = .ok (.aload_n 0, 1) := by decide +kernel
theorem dX4_carryOut_6 : decode cX4_carryOut 6 = .ok (.getfield 29, 3) := by decide +kernel
theorem dX4_carryOut_9 : decode cX4_carryOut 9 = .ok (.if_icmp .ge 48, 3) := by decide +kernel
theorem dX4_carryOut_12 : decode cX4_carryOut 12 = .ok (.iload_n 2, 1) := by decide +kernel
theorem dX4_carryOut_13 : decode cX4_carryOut 13 = .ok (.iconst 5, 1) := by decide +kernel
theorem dX4_carryOut_14 : decode cX4_carryOut 14 = .ok (.if_icmp .ge 43, 3) := by decide +kernel
theorem dX4_carryOut_17 : decode cX4_carryOut 17 = .ok (.aload_n 0, 1) := by decide +kernel
theorem dX4_carryOut_18 : decode cX4_carryOut 18 = .ok (.aload_n 0, 1) := by decide +kernel
theorem dX4_carryOut_19 : decode cX4_carryOut 19 = .ok (.getfield 15, 3) := by decide +kernel
theorem dX4_carryOut_22 : decode cX4_carryOut 22 = .ok (.iload_n 2, 1) := by decide +kernel
theorem dX4_carryOut_23 : decode cX4_carryOut 23 = .ok (.iaload, 1) := by decide +kernel
theorem dX4_carryOut_24 : decode cX4_carryOut 24 = .ok (.invokevirtual 51, 3) := by decide +kernel
theorem dX4_carryOut_27 : decode cX4_carryOut 27 = .ok (.pop, 1) := by decide +kernel
theorem dX4_carryOut_28 : decode cX4_carryOut 28 = .ok (.aload_n 0, 1) := by decide +kernel
theorem dX4_carryOut_29 : decode cX4_carryOut 29 = .ok (.getfield 21, 3) := by decide +kernel
theorem dX4_carryOut_32 : decode cX4_carryOut 32 = .ok (.getfield 54, 3) := by decide +kernel
theorem dX4_carryOut_35 : decode cX4_carryOut 35 = .ok (.aload_n 0, 1) := by decide +kernel
theorem dX4_carryOut_36 : decode cX4_carryOut 36 = .ok (.getfield 15, 3) := by decide +kernel
theorem dX4_carryOut_39 : decode cX4_carryOut 39 = .ok (.iload_n 2, 1) := by decide +kernel
theorem dX4_carryOut_40 : decode cX4_carryOut 40 = .ok (.iaload, 1) := by decide +kernel
theorem dX4_carryOut_41 : decode cX4_carryOut 41 = .ok (.aaload, 1) := by decide +kernel
theorem dX4_carryOut_42 : decode cX4_carryOut 42 = .ok (.getfield 58, 3) := by decide +kernel
theorem dX4_carryOut_45 : decode cX4_carryOut 45 = .ok (.ifCond .eq 6, 3) := by decide +kernel
theorem dX4_carryOut_48 : decode cX4_carryOut 48 = .ok (.iinc 1 1, 3) := by decide +kernel
theorem dX4_carryOut_51 : decode cX4_carryOut 51 = .ok (.iinc 2 1, 3) := by decide +kernel
theorem dX4_carryOut_54 : decode cX4_carryOut 54 = .ok (.goto (-50), 3) := by decide +kernel
theorem dX4_carryOut_57 : decode cX4_carryOut 57 = .ok (.iload_n 1, 1) := by decide +kernel
theorem dX4_carryOut_58 : decode cX4_carryOut 58 = .ok (.ireturn, 1) := by decide +kernel
theorem dX5_init_0 : decode cX5_init 0 = .ok (.aload_n 0, 1) := by decide +kernel
theorem dX5_init_1 : decode cX5_init 1 = .ok (.invokespecial 3, 3) := by decide +kernel
theorem dX5_init_4 : decode cX5_init 4 = .ok (.aload_n 0, 1) := by decide +kernel
theorem dX5_init_5 : decode cX5_init 5 = .ok (.bipush 36, 2) := by decide +kernel
theorem dX5_init_7 : decode cX5_init 7 = .ok (.newarray .int, 2) := by decide +kernel
theorem dX5_init_9 : decode cX5_init 9 = .ok (.putfield 9, 3) := by decide +kernel
theorem dX5_init_12 : decode cX5_init 12 = .ok (.aload_n 0, 1) := by decide +kernel
theorem dX5_init_13 : decode cX5_init 13 = .ok (.aload_n 1, 1) := by decide +kernel
theorem dX5_init_14 : decode cX5_init 14 = .ok (.putfield 15, 3) := by decide +kernel
theorem dX5_init_17 : decode cX5_init 17 = .ok (.aload_n 0, 1) := by decide +kernel
theorem dX5_init_18 : decode cX5_init 18 = .ok (.aload_n 2, 1) := by decide +kernel
theorem dX5_init_19 : decode cX5_init 19 = .ok (.putfield 19, 3) := by decide +kernel
theorem dX5_init_22 : decode cX5_init 22 = .ok (.return_, 1) := by decide +kernel
theorem dX5_silence_0 : decode cX5_silence 0 = .ok (.iconst 0, 1) := by decide +kernel
theorem dX5_silence_1 : decode cX5_silence 1 = .ok (.istore_n 1, 1) := by decide +kernel
theorem dX5_silence_2 : decode cX5_silence 2 = .ok (.iload_n 1, 1) := by decide +kernel
theorem dX5_silence_3 : decode cX5_silence 3 = .ok (.bipush 36, 2) := by decide +kernel
theorem dX5_silence_5 : decode cX5_silence 5 = .ok (.if_icmp .ge 16, 3) := by decide +kernel
theorem dX5_silence_8 : decode cX5_silence 8 = .ok (.aload_n 0, 1) := by decide +kernel
theorem dX5_silence_9 : decode cX5_silence 9 = .ok (.getfield 9, 3) := by decide +kernel
theorem dX5_silence_12 : decode cX5_silence 12 = .ok (.iload_n 1, 1) := by decide +kernel
theorem dX5_silence_13 : decode cX5_silence 13 = .ok (.iconst 0, 1) := by decide +kernel
theorem dX5_silence_14 : decode cX5_silence 14 = .ok (.iastore, 1) := by decide +kernel
theorem dX5_silence_15 : decode cX5_silence 15 = .ok (.iinc 1 1, 3) := by decide +kernel
theorem dX5_silence_18 : decode cX5_silence 18 = .ok (.goto (-16), 3) := by decide +kernel
theorem dX5_silence_21 : decode cX5_silence 21 = .ok (.return_, 1) := by decide +kernel
theorem dX5_listen_0 : decode cX5_listen 0 = .ok (.aload_n 0, 1) := by decide +kernel
theorem dX5_listen_1 : decode cX5_listen 1 = .ok (.getfield 9, 3) := by decide +kernel
theorem dX5_listen_4 : decode cX5_listen 4 = .ok (.iload_n 1, 1) := by decide +kernel
theorem dX5_listen_5 : decode cX5_listen 5 = .ok (.iaload, 1) := by decide +kernel
theorem dX5_listen_6 : decode cX5_listen 6 = .ok (.istore_n 3, 1) := by decide +kernel
theorem dX5_listen_7 : decode cX5_listen 7 = .ok (.aload_n 0, 1) := by decide +kernel
theorem dX5_listen_8 : decode cX5_listen 8 = .ok (.getfield 9, 3) := by decide +kernel
theorem dX5_listen_11 : decode cX5_listen 11 = .ok (.iload_n 1, 1) := by decide +kernel
theorem dX5_listen_12 : decode cX5_listen 12 = .ok (.iload_n 2, 1) := by decide +kernel
theorem dX5_listen_13 : decode cX5_listen 13 = .ok (.iastore, 1) := by decide +kernel
theorem dX5_listen_14 : decode cX5_listen 14 = .ok (.iload_n 3, 1) := by decide +kernel
theorem dX5_listen_15 : decode cX5_listen 15 = .ok (.ireturn, 1) := by decide +kernel
theorem dX5_sound_0 : decode cX5_sound 0 = .ok (.iload_n 1, 1) := by decide +kernel
theorem dX5_sound_1 : decode cX5_sound 1 = .ok (.iload_n 2, 1) := by decide +kernel
theorem dX5_sound_2 : decode cX5_sound 2 = .ok (.if_icmp .ne 5, 3) := by decide +kernel
theorem dX5_sound_5 : decode cX5_sound 5 = .ok (.iconst 4, 1) := by decide +kernel
theorem dX5_sound_6 : decode cX5_sound 6 = .ok (.ireturn, 1) := by decide +kernel
theorem dX5_sound_7 : decode cX5_sound 7 = .ok (.aload_n 0, 1) := by decide +kernel
theorem dX5_sound_8 : decode cX5_sound 8 = .ok (.getfield 15, 3) := by decide +kernel
theorem dX5_sound_11 : decode cX5_sound 11 = .ok (.iload_n 1, 1) := by decide +kernel
theorem dX5_sound_12 : decode cX5_sound 12 = .ok (.iload_n 2, 1) := by decide +kernel
theorem dX5_sound_13 : decode cX5_sound 13 = .ok (.invokevirtual 23, 3) := by decide +kernel
theorem dX5_sound_16 : decode cX5_sound 16 = .ok (.iconst 1, 1) := by decide +kernel
theorem dX5_sound_17 : decode cX5_sound 17 = .ok (.if_icmp .eq 5, 3) := by decide +kernel
theorem dX5_sound_20 : decode cX5_sound 20 = .ok (.iconst 0, 1) := by decide +kernel
theorem dX5_sound_21 : decode cX5_sound 21 = .ok (.ireturn, 1) := by decide +kernel
theorem dX5_sound_22 : decode cX5_sound 22 = .ok (.aload_n 0, 1) := by decide +kernel
theorem dX5_sound_23 : decode cX5_sound 23 = .ok (.getfield 15, 3) := by decide +kernel
theorem dX5_sound_26 : decode cX5_sound 26 = .ok (.getfield 29, 3) := by decide +kernel
theorem dX5_sound_29 : decode cX5_sound 29 = .ok (.iload_n 1, 1) := by decide +kernel
theorem dX5_sound_30 : decode cX5_sound 30 = .ok (.iaload, 1) := by decide +kernel
theorem dX5_sound_31 : decode cX5_sound 31 = .ok (.aload_n 0, 1) := by decide +kernel
theorem dX5_sound_32 : decode cX5_sound 32 = .ok (.getfield 15, 3) := by decide +kernel
theorem dX5_sound_35 : decode cX5_sound 35 = .ok (.getfield 29, 3) := by decide +kernel
theorem dX5_sound_38 : decode cX5_sound 38 = .ok (.iload_n 2, 1) := by decide +kernel
theorem dX5_sound_39 : decode cX5_sound 39 = .ok (.iaload, 1) := by decide +kernel
theorem dX5_sound_40 : decode cX5_sound 40 = .ok (.if_icmp .eq 24, 3) := by decide +kernel
theorem dX5_sound_43 : decode cX5_sound 43 = .ok (.aload_n 0, 1) := by decide +kernel
theorem dX5_sound_44 : decode cX5_sound 44 = .ok (.getfield 15, 3) := by decide +kernel
theorem dX5_sound_47 : decode cX5_sound 47 = .ok (.getfield 32, 3) := by decide +kernel
theorem dX5_sound_50 : decode cX5_sound 50 = .ok (.iload_n 1, 1) := by decide +kernel
theorem dX5_sound_51 : decode cX5_sound 51 = .ok (.iaload, 1) := by decide +kernel
theorem dX5_sound_52 : decode cX5_sound 52 = .ok (.aload_n 0, 1) := by decide +kernel
theorem dX5_sound_53 : decode cX5_sound 53 = .ok (.getfield 15, 3) := by decide +kernel
theorem dX5_sound_56 : decode cX5_sound 56 = .ok (.getfield 32, 3) := by decide +kernel
theorem dX5_sound_59 : decode cX5_sound 59 = .ok (.iload_n 2, 1) := by decide +kernel
theorem dX5_sound_60 : decode cX5_sound 60 = .ok (.iaload, 1) := by decide +kernel
theorem dX5_sound_61 : decode cX5_sound 61 = .ok (.if_icmp .ne 7, 3) := by decide +kernel
theorem dX5_sound_64 : decode cX5_sound 64 = .ok (.iconst 2, 1) := by decide +kernel
theorem dX5_sound_65 : decode cX5_sound 65 = .ok (.goto 4, 3) := by decide +kernel
theorem dX5_sound_68 : decode cX5_sound 68 = .ok (.iconst 1, 1) := by decide +kernel
theorem dX5_sound_69 : decode cX5_sound 69 = .ok (.ireturn, 1) := by decide +kernel
theorem dX5_heardFrom_0 : decode cX5_heardFrom 0 = .ok (.iconst 0, 1) := by decide +kernel
theorem dX5_heardFrom_1 : decode cX5_heardFrom 1 = .ok (.istore_n 2, 1) := by decide +kernel
theorem dX5_heardFrom_2 : decode cX5_heardFrom 2 = .ok (.iconst 0, 1) := by decide +kernel
theorem dX5_heardFrom_3 : decode cX5_heardFrom 3 = .ok (.istore_n 3, 1) := by decide +kernel
theorem dX5_heardFrom_4 : decode cX5_heardFrom 4 = .ok (.iload_n 3, 1) := by decide +kernel
theorem dX5_heardFrom_5 : decode cX5_heardFrom 5 = .ok (.aload_n 0, 1) := by decide +kernel
theorem dX5_heardFrom_6 : decode cX5_heardFrom 6 = .ok (.getfield 15, 3) := by decide +kernel
theorem dX5_heardFrom_9 : decode cX5_heardFrom 9 = .ok (.getfield 35, 3) := by decide +kernel
theorem dX5_heardFrom_12 : decode cX5_heardFrom 12 = .ok (.if_icmp .ge 25, 3) := by decide +kernel
theorem dX5_heardFrom_15 : decode cX5_heardFrom 15 = .ok (.iload_n 2, 1) := by decide +kernel
theorem dX5_heardFrom_16 : decode cX5_heardFrom 16 = .ok (.aload_n 0, 1) := by decide +kernel
theorem dX5_heardFrom_17 : decode cX5_heardFrom 17 = .ok (.iload_n 1, 1) := by decide +kernel
theorem dX5_heardFrom_18 : decode cX5_heardFrom 18 = .ok (.iload_n 3, 1) := by decide +kernel
theorem dX5_heardFrom_19 : decode cX5_heardFrom 19 = .ok (.invokevirtual 39, 3) := by decide +kernel
theorem dX5_heardFrom_22 : decode cX5_heardFrom 22 = .ok (.aload_n 0, 1) := by decide +kernel
theorem dX5_heardFrom_23 : decode cX5_heardFrom 23 = .ok (.getfield 9, 3) := by decide +kernel
theorem dX5_heardFrom_26 : decode cX5_heardFrom 26 = .ok (.iload_n 3, 1) := by decide +kernel
theorem dX5_heardFrom_27 : decode cX5_heardFrom 27 = .ok (.iaload, 1) := by decide +kernel
theorem dX5_heardFrom_28 : decode cX5_heardFrom 28 = .ok (.imul, 1) := by decide +kernel
theorem dX5_heardFrom_29 : decode cX5_heardFrom 29 = .ok (.iadd, 1) := by decide +kernel
theorem dX5_heardFrom_30 : decode cX5_heardFrom 30 = .ok (.istore_n 2, 1) := by decide +kernel
theorem dX5_heardFrom_31 : decode cX5_heardFrom 31 = .ok (.iinc 3 1, 3) := by decide +kernel
theorem dX5_heardFrom_34 : decode cX5_heardFrom 34 = .ok (.goto (-30), 3) := by decide +kernel
theorem dX5_heardFrom_37 : decode cX5_heardFrom 37 = .ok (.iload_n 2, 1) := by decide +kernel
theorem dX5_heardFrom_38 : decode cX5_heardFrom 38 = .ok (.ireturn, 1) := by decide +kernel
theorem dX5_heardIn_0 : decode cX5_heardIn 0 = .ok (.iconst 0, 1) := by decide +kernel
theorem dX5_heardIn_1 : decode cX5_heardIn 1 = .ok (.istore_n 2, 1) := by decide +kernel
theorem dX5_heardIn_2 : decode cX5_heardIn 2 = .ok (.iconst 0, 1) := by decide +kernel
theorem dX5_heardIn_3 : decode cX5_heardIn 3 = .ok (.istore_n 3, 1) := by decide +kernel
theorem dX5_heardIn_4 : decode cX5_heardIn 4 = .ok (.iload_n 3, 1) := by decide +kernel
theorem dX5_heardIn_5 : decode cX5_heardIn 5 = .ok (.aload_n 0, 1) := by decide +kernel
theorem dX5_heardIn_6 : decode cX5_heardIn 6 = .ok (.getfield 19, 3) := by decide +kernel
theorem dX5_heardIn_9 : decode cX5_heardIn 9 = .ok (.getfield 42, 3) := by decide +kernel
theorem dX5_heardIn_12 : decode cX5_heardIn 12 = .ok (.if_icmp .ge 57, 3) := by decide +kernel
theorem dX5_heardIn_15 : decode cX5_heardIn 15 = .ok (.aload_n 0, 1) := by decide +kernel
theorem dX5_heardIn_16 : decode cX5_heardIn 16 = .ok (.getfield 19, 3) := by decide +kernel
theorem dX5_heardIn_19 : decode cX5_heardIn 19 = .ok (.getfield 47, 3) := by decide +kernel
theorem dX5_heardIn_22 : decode cX5_heardIn 22 = .ok (.iload_n 3, 1) := by decide +kernel
theorem dX5_heardIn_23 : decode cX5_heardIn 23 = .ok (.aaload, 1) := by decide +kernel
theorem dX5_heardIn_24 : decode cX5_heardIn 24 = .ok (.getfield 51, 3) := by decide +kernel
theorem dX5_heardIn_27 : decode cX5_heardIn 27 = .ok (.ifCond .eq 36, 3) := by decide +kernel
theorem dX5_heardIn_30 : decode cX5_heardIn 30 = .ok (.iload_n 2, 1) := by decide +kernel
theorem dX5_heardIn_31 : decode cX5_heardIn 31 = .ok (.aload_n 0, 1) := by decide +kernel
theorem dX5_heardIn_32 : decode cX5_heardIn 32 = .ok (.aload_n 0, 1) := by decide +kernel
theorem dX5_heardIn_33 : decode cX5_heardIn 33 = .ok (.getfield 19, 3) := by decide +kernel
theorem dX5_heardIn_36 : decode cX5_heardIn 36 = .ok (.getfield 47, 3) := by decide +kernel
theorem dX5_heardIn_39 : decode cX5_heardIn 39 = .ok (.iload_n 3, 1) := by decide +kernel
theorem dX5_heardIn_40 : decode cX5_heardIn 40 = .ok (.aaload, 1) := by decide +kernel
theorem dX5_heardIn_41 : decode cX5_heardIn 41 = .ok (.getfield 57, 3) := by decide +kernel
theorem dX5_heardIn_44 : decode cX5_heardIn 44 = .ok (.iload_n 1, 1) := by decide +kernel
theorem dX5_heardIn_45 : decode cX5_heardIn 45 = .ok (.invokevirtual 61, 3) := by decide +kernel
theorem dX5_heardIn_48 : decode cX5_heardIn 48 = .ok (.aload_n 0, 1) := by decide +kernel
theorem dX5_heardIn_49 : decode cX5_heardIn 49 = .ok (.getfield 19, 3) := by decide +kernel
theorem dX5_heardIn_52 : decode cX5_heardIn 52 = .ok (.getfield 47, 3) := by decide +kernel
theorem dX5_heardIn_55 : decode cX5_heardIn 55 = .ok (.iload_n 3, 1) := by decide +kernel
theorem dX5_heardIn_56 : decode cX5_heardIn 56 = .ok (.aaload, 1) := by decide +kernel
theorem dX5_heardIn_57 : decode cX5_heardIn 57 = .ok (.getfield 65, 3) := by decide +kernel
theorem dX5_heardIn_60 : decode cX5_heardIn 60 = .ok (.imul, 1) := by decide +kernel
theorem dX5_heardIn_61 : decode cX5_heardIn 61 = .ok (.iadd, 1) := by decide +kernel
theorem dX5_heardIn_62 : decode cX5_heardIn 62 = .ok (.istore_n 2, 1) := by decide +kernel
theorem dX5_heardIn_63 : decode cX5_heardIn 63 = .ok (.iinc 3 1, 3) := by decide +kernel
theorem dX5_heardIn_66 : decode cX5_heardIn 66 = .ok (.goto (-62), 3) := by decide +kernel
theorem dX5_heardIn_69 : decode cX5_heardIn 69 = .ok (.iload_n 2, 1) := by decide +kernel
theorem dX5_heardIn_70 : decode cX5_heardIn 70 = .ok (.aload_n 0, 1) := by decide +kernel
theorem dX5_heardIn_71 : decode cX5_heardIn 71 = .ok (.getfield 9, 3) := by decide +kernel
theorem dX5_heardIn_74 : decode cX5_heardIn 74 = .ok (.iload_n 1, 1) := by decide +kernel
theorem dX5_heardIn_75 : decode cX5_heardIn 75 = .ok (.iaload, 1) := by decide +kernel
theorem dX5_heardIn_76 : decode cX5_heardIn 76 = .ok (.imul, 1) := by decide +kernel
theorem dX5_heardIn_77 : decode cX5_heardIn 77 = .ok (.ireturn, 1) := by decide +kernel
theorem dX5_soundOf_0 : decode cX5_soundOf 0 = .ok (.iconst 0, 1) := by decide +kernel
theorem dX5_soundOf_1 : decode cX5_soundOf 1 = .ok (.istore_n 3, 1) := by decide +kernel
theorem dX5_soundOf_2 : decode cX5_soundOf 2 = .ok (.aload_n 1, 1) := by decide +kernel
theorem dX5_soundOf_3 : decode cX5_soundOf 3 = .ok (.getfield 68, 3) := by decide +kernel
theorem dX5_soundOf_6 : decode cX5_soundOf 6 = .ok (.istore 4, 2) := by decide +kernel
theorem dX5_soundOf_8 : decode cX5_soundOf 8 = .ok (.iload 4, 2) := by decide +kernel
theorem dX5_soundOf_10 : decode cX5_soundOf 10 = .ok (.aload_n 1, 1) := by decide +kernel
theorem dX5_soundOf_11 : decode cX5_soundOf 11 = .ok (.getfield 73, 3) := by decide +kernel
theorem dX5_soundOf_14 : decode cX5_soundOf 14 = .ok (.if_icmp .gt 30, 3) := by decide +kernel
theorem dX5_soundOf_17 : decode cX5_soundOf 17 = .ok (.iload 4, 2) := by decide +kernel
theorem dX5_soundOf_19 : decode cX5_soundOf 19 = .ok (.bipush 60, 2) := by decide +kernel
theorem dX5_soundOf_21 : decode cX5_soundOf 21 = .ok (.if_icmp .ge 23, 3) := by decide +kernel
theorem dX5_soundOf_24 : decode cX5_soundOf 24 = .ok (.iload_n 3, 1) := by decide +kernel
theorem dX5_soundOf_25 : decode cX5_soundOf 25 = .ok (.aload_n 0, 1) := by decide +kernel
theorem dX5_soundOf_26 : decode cX5_soundOf 26 = .ok (.aload_n 1, 1) := by decide +kernel
theorem dX5_soundOf_27 : decode cX5_soundOf 27 = .ok (.iload 4, 2) := by decide +kernel
theorem dX5_soundOf_29 : decode cX5_soundOf 29 = .ok (.invokevirtual 76, 3) := by decide +kernel
theorem dX5_soundOf_32 : decode cX5_soundOf 32 = .ok (.iload_n 2, 1) := by decide +kernel
theorem dX5_soundOf_33 : decode cX5_soundOf 33 = .ok (.invokevirtual 39, 3) := by decide +kernel
theorem dX5_soundOf_36 : decode cX5_soundOf 36 = .ok (.iadd, 1) := by decide +kernel
theorem dX5_soundOf_37 : decode cX5_soundOf 37 = .ok (.istore_n 3, 1) := by decide +kernel
theorem dX5_soundOf_38 : decode cX5_soundOf 38 = .ok (.iinc 4 1, 3) := by decide +kernel
theorem dX5_soundOf_41 : decode cX5_soundOf 41 = .ok (.goto (-33), 3) := by decide +kernel
theorem dX5_soundOf_44 : decode cX5_soundOf 44 = .ok (.iload_n 3, 1) := by decide +kernel
theorem dX5_soundOf_45 : decode cX5_soundOf 45 = .ok (.ireturn, 1) := by decide +kernel
theorem dX5_loudestCell_0 : decode cX5_loudestCell 0 = .ok (.iconst 0, 1) := by decide +kernel
theorem dX5_loudestCell_1 : decode cX5_loudestCell 1 = .ok (.istore_n 1, 1) := by decide +kernel
theorem dX5_loudestCell_2 : decode cX5_loudestCell 2 = .ok (.aload_n 0, 1) := by decide +kernel
theorem dX5_loudestCell_3 : decode cX5_loudestCell 3 = .ok (.iconst 0, 1) := by decide +kernel
theorem dX5_loudestCell_4 : decode cX5_loudestCell 4 = .ok (.invokevirtual 80, 3) := by decide +kernel
theorem dX5_loudestCell_7 : decode cX5_loudestCell 7 = .ok (.istore_n 2, 1) := by decide +kernel
theorem dX5_loudestCell_8 : decode cX5_loudestCell 8 = .ok (.iconst 1, 1) := by decide +kernel
theorem dX5_loudestCell_9 : decode cX5_loudestCell 9 = .ok (.istore_n 3, 1) := by decide +kernel
theorem dX5_loudestCell_10 : decode cX5_loudestCell 10 = .ok (.iload_n 3, 1) := by decide +kernel
theorem dX5_loudestCell_11 : decode cX5_loudestCell 11 = .ok (.aload_n 0, 1) := by decide +kernel
theorem dX5_loudestCell_12 : decode cX5_loudestCell 12 = .ok (.getfield 15, 3) := by decide +kernel
theorem dX5_loudestCell_15 : decode cX5_loudestCell 15 = .ok (.getfield 35, 3) := by decide +kernel
theorem dX5_loudestCell_18 : decode cX5_loudestCell 18 = .ok (.if_icmp .ge 27, 3) := by decide +kernel
theorem dX5_loudestCell_21 : decode cX5_loudestCell 21 = .ok (.aload_n 0, 1) := by decide +kernel
theorem dX5_loudestCell_22 : decode cX5_loudestCell 22 = .ok (.iload_n 3, 1) := by decide +kernel
theorem dX5_loudestCell_23 : decode cX5_loudestCell 23 = .ok (.invokevirtual 80, 3) := by decide +kernel
theorem dX5_loudestCell_26 : decode cX5_loudestCell 26 = .ok (.istore 4, 2) := by decide +kernel
theorem dX5_loudestCell_28 : decode cX5_loudestCell 28 = .ok (.iload 4, 2) := by decide +kernel
theorem dX5_loudestCell_30 : decode cX5_loudestCell 30 = .ok (.iload_n 2, 1) := by decide +kernel
theorem dX5_loudestCell_31 : decode cX5_loudestCell 31 = .ok (.if_icmp .le 8, 3) := by decide +kernel
theorem dX5_loudestCell_34 : decode cX5_loudestCell 34 = .ok (.iload 4, 2) := by decide +kernel
theorem dX5_loudestCell_36 : decode cX5_loudestCell 36 = .ok (.istore_n 2, 1) := by decide +kernel
theorem dX5_loudestCell_37 : decode cX5_loudestCell 37 = .ok (.iload_n 3, 1) := by decide +kernel
theorem dX5_loudestCell_38 : decode cX5_loudestCell 38 = .ok (.istore_n 1, 1) := by decide +kernel
theorem dX5_loudestCell_39 : decode cX5_loudestCell 39 = .ok (.iinc 3 1, 3) := by decide +kernel
theorem dX5_loudestCell_42 : decode cX5_loudestCell 42 = .ok (.goto (-32), 3) := by decide +kernel
theorem dX5_loudestCell_45 : decode cX5_loudestCell 45 = .ok (.iload_n 1, 1) := by decide +kernel
theorem dX5_loudestCell_46 : decode cX5_loudestCell 46 = .ok (.ireturn, 1) := by decide +kernel
theorem dX6_init_0 : decode cX6_init 0 = .ok (.aload_n 0, 1) := by decide +kernel
theorem dX6_init_1 : decode cX6_init 1 = .ok (.invokespecial 3, 3) := by decide +kernel
theorem dX6_init_4 : decode cX6_init 4 = .ok (.aload_n 0, 1) := by decide +kernel
theorem dX6_init_5 : decode cX6_init 5 = .ok (.bipush 60, 2) := by decide +kernel
theorem dX6_init_7 : decode cX6_init 7 = .ok (.newarray .long, 2) := by decide +kernel
theorem dX6_init_9 : decode cX6_init 9 = .ok (.putfield 9, 3) := by decide +kernel
theorem dX6_init_12 : decode cX6_init 12 = .ok (.aload_n 0, 1) := by decide +kernel
theorem dX6_init_13 : decode cX6_init 13 = .ok (.iconst 4, 1) := by decide +kernel
theorem dX6_init_14 : decode cX6_init 14 = .ok (.bipush 60, 2) := by decide +kernel
theorem dX6_init_16 : decode cX6_init 16 = .ok (.multianewarray 15 2, 4) := by decide +kernel
theorem dX6_init_20 : decode cX6_init 20 = .ok (.putfield 17, 3) := by decide +kernel
theorem dX6_init_23 : decode cX6_init 23 = .ok (.aload_n 0, 1) := by decide +kernel
theorem dX6_init_24 : decode cX6_init 24 = .ok (.bipush 60, 2) := by decide +kernel
theorem dX6_init_26 : decode cX6_init 26 = .ok (.newarray .long, 2) := by decide +kernel
theorem dX6_init_28 : decode cX6_init 28 = .ok (.putfield 20, 3) := by decide +kernel
theorem dX6_init_31 : decode cX6_init 31 = .ok (.aload_n 0, 1) := by decide +kernel
theorem dX6_init_32 : decode cX6_init 32 = .ok (.aload_n 1, 1) := by decide +kernel
theorem dX6_init_33 : decode cX6_init 33 = .ok (.putfield 23, 3) := by decide +kernel
theorem dX6_init_36 : decode cX6_init 36 = .ok (.aload_n 0, 1) := by decide +kernel
theorem dX6_init_37 : decode cX6_init 37 = .ok (.aload_n 2, 1) := by decide +kernel
theorem dX6_init_38 : decode cX6_init 38 = .ok (.putfield 27, 3) := by decide +kernel
theorem dX6_init_41 : decode cX6_init 41 = .ok (.return_, 1) := by decide +kernel
theorem dX6_wouldMeet_0 : decode cX6_wouldMeet 0 = .ok (.aload_n 1, 1) := by decide +kernel
theorem dX6_wouldMeet_1 : decode cX6_wouldMeet 1 = .ok (.getfield 31, 3) := by decide +kernel
theorem dX6_wouldMeet_4 : decode cX6_wouldMeet 4 = .ok (.aload_n 2, 1) := by decide +kernel
theorem dX6_wouldMeet_5 : decode cX6_wouldMeet 5 = .ok (.getfield 31, 3) := by decide +kernel
theorem dX6_wouldMeet_8 : decode cX6_wouldMeet 8 = .ok (.invokestatic 37, 3) := by decide +kernel
theorem dX6_wouldMeet_11 : decode cX6_wouldMeet 11 = .ok (.istore 4, 2) := by decide +kernel
theorem dX6_wouldMeet_13 : decode cX6_wouldMeet 13 = .ok (.aload_n 1, 1) := by decide +kernel
theorem dX6_wouldMeet_14 : decode cX6_wouldMeet 14 = .ok (.getfield 43, 3) := by decide +kernel
theorem dX6_wouldMeet_17 : decode cX6_wouldMeet 17 = .ok (.aload_n 2, 1) := by decide +kernel
theorem dX6_wouldMeet_18 : decode cX6_wouldMeet 18 = .ok (.getfield 43, 3) := by decide +kernel
theorem dX6_wouldMeet_21 : decode cX6_wouldMeet 21 = .ok (.invokestatic 46, 3) := by decide +kernel
theorem dX6_wouldMeet_24 : decode cX6_wouldMeet 24 = .ok (.istore 5, 2) := by decide +kernel
theorem dX6_wouldMeet_26 : decode cX6_wouldMeet 26 = .ok (.iload 5, 2) := by decide +kernel
theorem dX6_wouldMeet_28 : decode cX6_wouldMeet 28 = .ok (.iload 4, 2) := by decide +kernel
theorem dX6_wouldMeet_30 : decode cX6_wouldMeet 30 = .ok (.if_icmp .gt 84, 3) := by decide +kernel
theorem dX6_wouldMeet_33 : decode cX6_wouldMeet 33 = .ok (.iload 5, 2) := by decide +kernel
theorem dX6_wouldMeet_35 : decode cX6_wouldMeet 35 = .ok (.bipush 60, 2) := by decide +kernel
theorem dX6_wouldMeet_37 : decode cX6_wouldMeet 37 = .ok (.if_icmp .ge 77, 3) := by decide +kernel
theorem dX6_wouldMeet_40 : decode cX6_wouldMeet 40 = .ok (.aload_n 0, 1) := by decide +kernel
theorem dX6_wouldMeet_41 : decode cX6_wouldMeet 41 = .ok (.getfield 23, 3) := by decide +kernel
theorem dX6_wouldMeet_44 : decode cX6_wouldMeet 44 = .ok (.aload_n 1, 1) := by decide +kernel
theorem dX6_wouldMeet_45 : decode cX6_wouldMeet 45 = .ok (.iload 5, 2) := by decide +kernel
theorem dX6_wouldMeet_47 : decode cX6_wouldMeet 47 = .ok (.invokevirtual 49, 3) := by decide +kernel
theorem dX6_wouldMeet_50 : decode cX6_wouldMeet 50 = .ok (.aload_n 2, 1) := by decide +kernel
theorem dX6_wouldMeet_51 : decode cX6_wouldMeet 51 = .ok (.iload 5, 2) := by decide +kernel
theorem dX6_wouldMeet_53 : decode cX6_wouldMeet 53 = .ok (.invokevirtual 49, 3) := by decide +kernel
theorem dX6_wouldMeet_56 : decode cX6_wouldMeet 56 = .ok (.invokevirtual 53, 3) := by decide +kernel
theorem dX6_wouldMeet_59 : decode cX6_wouldMeet 59 = .ok (.iload_n 3, 1) := by decide +kernel
theorem dX6_wouldMeet_60 : decode cX6_wouldMeet 60 = .ok (.if_icmp .gt 5, 3) := by decide +kernel
theorem dX6_wouldMeet_63 : decode cX6_wouldMeet 63 = .ok (.iconst 1, 1) := by decide +kernel
theorem dX6_wouldMeet_64 : decode cX6_wouldMeet 64 = .ok (.ireturn, 1) := by decide +kernel
theorem dX6_wouldMeet_65 : decode cX6_wouldMeet 65 = .ok (.iload 5, 2) := by decide +kernel
theorem dX6_wouldMeet_67 : decode cX6_wouldMeet 67 = .ok (.iload 4, 2) := by decide +kernel
theorem dX6_wouldMeet_69 : decode cX6_wouldMeet 69 = .ok (.if_icmp .ge 39, 3) := by decide +kernel
theorem dX6_wouldMeet_72 : decode cX6_wouldMeet 72 = .ok (.aload_n 1, 1) := by decide +kernel
theorem dX6_wouldMeet_73 : decode cX6_wouldMeet 73 = .ok (.iload 5, 2) := by decide +kernel
theorem dX6_wouldMeet_75 : decode cX6_wouldMeet 75 = .ok (.invokevirtual 49, 3) := by decide +kernel
theorem dX6_wouldMeet_78 : decode cX6_wouldMeet 78 = .ok (.aload_n 2, 1) := by decide +kernel
theorem dX6_wouldMeet_79 : decode cX6_wouldMeet 79 = .ok (.iload 5, 2) := by decide +kernel
theorem dX6_wouldMeet_81 : decode cX6_wouldMeet 81 = .ok (.iconst 1, 1) := by decide +kernel
theorem dX6_wouldMeet_82 : decode cX6_wouldMeet 82 = .ok (.iadd, 1) := by decide +kernel
theorem dX6_wouldMeet_83 : decode cX6_wouldMeet 83 = .ok (.invokevirtual 49, 3) := by decide +kernel
theorem dX6_wouldMeet_86 : decode cX6_wouldMeet 86 = .ok (.if_icmp .ne 22, 3) := by decide +kernel
theorem dX6_wouldMeet_89 : decode cX6_wouldMeet 89 = .ok (.aload_n 1, 1) := by decide +kernel
theorem dX6_wouldMeet_90 : decode cX6_wouldMeet 90 = .ok (.iload 5, 2) := by decide +kernel
theorem dX6_wouldMeet_92 : decode cX6_wouldMeet 92 = .ok (.iconst 1, 1) := by decide +kernel
theorem dX6_wouldMeet_93 : decode cX6_wouldMeet 93 = .ok (.iadd, 1) := by decide +kernel
theorem dX6_wouldMeet_94 : decode cX6_wouldMeet 94 = .ok (.invokevirtual 49, 3) := by decide +kernel
theorem dX6_wouldMeet_97 : decode cX6_wouldMeet 97 = .ok (.aload_n 2, 1) := by decide +kernel
theorem dX6_wouldMeet_98 : decode cX6_wouldMeet 98 = .ok (.iload 5, 2) := by decide +kernel
theorem dX6_wouldMeet_100 : decode cX6_wouldMeet 100 = .ok (.invokevirtual 49, 3) := by decide +kernel
theorem dX6_wouldMeet_103 : decode cX6_wouldMeet 103 = .ok (.if_icmp .ne 5, 3) := by decide +kernel
theorem dX6_wouldMeet_106 : decode cX6_wouldMeet 106 = .ok (.iconst 1, 1) := by decide +kernel
theorem dX6_wouldMeet_107 : decode cX6_wouldMeet 107 = .ok (.ireturn, 1) := by decide +kernel
theorem dX6_wouldMeet_108 : decode cX6_wouldMeet 108 = .ok (.iinc 5 1, 3) := by decide +kernel
theorem dX6_wouldMeet_111 : decode cX6_wouldMeet 111 = .ok (.goto (-85), 3) := by decide +kernel
theorem dX6_wouldMeet_114 : decode cX6_wouldMeet 114 = .ok (.iconst 0, 1) := by decide +kernel
theorem dX6_wouldMeet_115 : decode cX6_wouldMeet 115 = .ok (.ireturn, 1) := by decide +kernel
theorem dX6_clearFor_0 : decode cX6_clearFor 0 = .ok (.aload_n 1, 1) := by decide +kernel
theorem dX6_clearFor_1 : decode cX6_clearFor 1 = .ok (.getfield 58, 3) := by decide +kernel
theorem dX6_clearFor_4 : decode cX6_clearFor 4 = .ok (.iconst 0, 1) := by decide +kernel
theorem dX6_clearFor_5 : decode cX6_clearFor 5 = .ok (.invokestatic 46, 3) := by decide +kernel
theorem dX6_clearFor_8 : decode cX6_clearFor 8 = .ok (.istore_n 3, 1) := by decide +kernel
theorem dX6_clearFor_9 : decode cX6_clearFor 9 = .ok (.iload_n 3, 1) := by decide +kernel
theorem dX6_clearFor_10 : decode cX6_clearFor 10 = .ok (.aload_n 1, 1) := by decide +kernel
theorem dX6_clearFor_11 : decode cX6_clearFor 11 = .ok (.getfield 63, 3) := by decide +kernel
theorem dX6_clearFor_14 : decode cX6_clearFor 14 = .ok (.if_icmp .gt 55, 3) := by decide +kernel
theorem dX6_clearFor_17 : decode cX6_clearFor 17 = .ok (.iload_n 3, 1) := by decide +kernel
theorem dX6_clearFor_18 : decode cX6_clearFor 18 = .ok (.bipush 60, 2) := by decide +kernel
theorem dX6_clearFor_20 : decode cX6_clearFor 20 = .ok (.if_icmp .ge 49, 3) := by decide +kernel
theorem dX6_clearFor_23 : decode cX6_clearFor 23 = .ok (.aload_n 0, 1) := by decide +kernel
theorem dX6_clearFor_24 : decode cX6_clearFor 24 = .ok (.getfield 9, 3) := by decide +kernel
theorem dX6_clearFor_27 : decode cX6_clearFor 27 = .ok (.iload_n 3, 1) := by decide +kernel
theorem dX6_clearFor_28 : decode cX6_clearFor 28 = .ok (.aload_n 0, 1) := by decide +kernel
theorem dX6_clearFor_29 : decode cX6_clearFor 29 = .ok (.getfield 23, 3) := by decide +kernel
theorem dX6_clearFor_32 : decode cX6_clearFor 32 = .ok (.getfield 66, 3) := by decide +kernel
theorem dX6_clearFor_35 : decode cX6_clearFor 35 = .ok (.iload_n 3, 1) := by decide +kernel
theorem dX6_clearFor_36 : decode cX6_clearFor 36 = .ok (.laload, 1) := by decide +kernel
theorem dX6_clearFor_37 : decode cX6_clearFor 37 = .ok (.lastore, 1) := by decide +kernel
theorem dX6_clearFor_38 : decode cX6_clearFor 38 = .ok (.iconst 0, 1) := by decide +kernel
theorem dX6_clearFor_39 : decode cX6_clearFor 39 = .ok (.istore 4, 2) := by decide +kernel
theorem dX6_clearFor_41 : decode cX6_clearFor 41 = .ok (.iload 4, 2) := by decide +kernel
theorem dX6_clearFor_43 : decode cX6_clearFor 43 = .ok (.iconst 4, 1) := by decide +kernel
theorem dX6_clearFor_44 : decode cX6_clearFor 44 = .ok (.if_icmp .ge 19, 3) := by decide +kernel
theorem dX6_clearFor_47 : decode cX6_clearFor 47 = .ok (.aload_n 0, 1) := by decide +kernel
theorem dX6_clearFor_48 : decode cX6_clearFor 48 = .ok (.getfield 17, 3) := by decide +kernel
theorem dX6_clearFor_51 : decode cX6_clearFor 51 = .ok (.iload 4, 2) := by decide +kernel
theorem dX6_clearFor_53 : decode cX6_clearFor 53 = .ok (.aaload, 1) := by decide +kernel
theorem dX6_clearFor_54 : decode cX6_clearFor 54 = .ok (.iload_n 3, 1) := by decide +kernel
theorem dX6_clearFor_55 : decode cX6_clearFor 55 = .ok (.lconst 0, 1) := by decide +kernel
theorem dX6_clearFor_56 : decode cX6_clearFor 56 = .ok (.lastore, 1) := by decide +kernel
theorem dX6_clearFor_57 : decode cX6_clearFor 57 = .ok (.iinc 4 1, 3) := by decide +kernel
theorem dX6_clearFor_60 : decode cX6_clearFor 60 = .ok (.goto (-19), 3) := by decide +kernel
theorem dX6_clearFor_63 : decode cX6_clearFor 63 = .ok (.iinc 3 1, 3) := by decide +kernel
theorem dX6_clearFor_66 : decode cX6_clearFor 66 = .ok (.goto (-57), 3) := by decide +kernel
theorem dX6_clearFor_69 : decode cX6_clearFor 69 = .ok (.iconst 0, 1) := by decide +kernel
theorem dX6_clearFor_70 : decode cX6_clearFor 70 = .ok (.istore_n 3, 1) := by decide +kernel
theorem dX6_clearFor_71 : decode cX6_clearFor 71 = .ok (.iload_n 3, 1) := by decide +kernel
theorem dX6_clearFor_72 : decode cX6_clearFor 72 = .ok (.aload_n 0, 1) := by decide +kernel
theorem dX6_clearFor_73 : decode cX6_clearFor 73 = .ok (.getfield 27, 3) := by decide +kernel
theorem dX6_clearFor_76 : decode cX6_clearFor 76 = .ok (.getfield 69, 3) := by decide +kernel
theorem dX6_clearFor_79 : decode cX6_clearFor 79 = .ok (.if_icmp .ge 49, 3) := by decide +kernel
theorem dX6_clearFor_82 : decode cX6_clearFor 82 = .ok (.aload_n 0, 1) := by decide +kernel
theorem dX6_clearFor_83 : decode cX6_clearFor 83 = .ok (.getfield 27, 3) := by decide +kernel
theorem dX6_clearFor_86 : decode cX6_clearFor 86 = .ok (.getfield 74, 3) := by decide +kernel
theorem dX6_clearFor_89 : decode cX6_clearFor 89 = .ok (.iload_n 3, 1) := by decide +kernel
theorem dX6_clearFor_90 : decode cX6_clearFor 90 = .ok (.aaload, 1) := by decide +kernel
theorem dX6_clearFor_91 : decode cX6_clearFor 91 = .ok (.getfield 78, 3) := by decide +kernel
theorem dX6_clearFor_94 : decode cX6_clearFor 94 = .ok (.ifCond .eq 28, 3) := by decide +kernel
theorem dX6_clearFor_97 : decode cX6_clearFor 97 = .ok (.iload_n 2, 1) := by decide +kernel
theorem dX6_clearFor_98 : decode cX6_clearFor 98 = .ok (.iload_n 3, 1) := by decide +kernel
theorem dX6_clearFor_99 : decode cX6_clearFor 99 = .ok (.invokestatic 82, 3) := by decide +kernel
theorem dX6_clearFor_102 : decode cX6_clearFor 102 = .ok (.ifCond .ne 20, 3) := by decide +kernel
theorem dX6_clearFor_105 : decode cX6_clearFor 105 = .ok (.aload_n 0, 1) := by decide +kernel
theorem dX6_clearFor_106 : decode cX6_clearFor 106 = .ok (.aload_n 0, 1) := by decide +kernel
theorem dX6_clearFor_107 : decode cX6_clearFor 107 = .ok (.getfield 27, 3) := by decide +kernel
theorem dX6_clearFor_110 : decode cX6_clearFor 110 = .ok (.getfield 74, 3) := by decide +kernel
theorem dX6_clearFor_113 : decode cX6_clearFor 113 = .ok (.iload_n 3, 1) := by decide +kernel
theorem dX6_clearFor_114 : decode cX6_clearFor 114 = .ok (.aaload, 1) := by decide +kernel
theorem dX6_clearFor_115 : decode cX6_clearFor 115 = .ok (.getfield 86, 3) := by decide +kernel
theorem dX6_clearFor_118 : decode cX6_clearFor 118 = .ok (.aload_n 1, 1) := by decide +kernel
theorem dX6_clearFor_119 : decode cX6_clearFor 119 = .ok (.invokevirtual 90, 3) := by decide +kernel
theorem dX6_clearFor_122 : decode cX6_clearFor 122 = .ok (.iinc 3 1, 3) := by decide +kernel
theorem dX6_clearFor_125 : decode cX6_clearFor 125 = .ok (.goto (-54), 3) := by decide +kernel
theorem dX6_clearFor_128 : decode cX6_clearFor 128 = .ok (.return_, 1) := by decide +kernel
theorem dX6_keepApart_0 : decode cX6_keepApart 0 = .ok (.aload_n 1, 1) := by decide +kernel
theorem dX6_keepApart_1 : decode cX6_keepApart 1 = .ok (.getfield 31, 3) := by decide +kernel
theorem dX6_keepApart_4 : decode cX6_keepApart 4 = .ok (.aload_n 2, 1) := by decide +kernel
theorem dX6_keepApart_5 : decode cX6_keepApart 5 = .ok (.getfield 63, 3) := by decide +kernel
theorem dX6_keepApart_8 : decode cX6_keepApart 8 = .ok (.invokestatic 37, 3) := by decide +kernel
theorem dX6_keepApart_11 : decode cX6_keepApart 11 = .ok (.istore_n 3, 1) := by decide +kernel
theorem dX6_keepApart_12 : decode cX6_keepApart 12 = .ok (.aload_n 1, 1) := by decide +kernel
theorem dX6_keepApart_13 : decode cX6_keepApart 13 = .ok (.getfield 43, 3) := by decide +kernel
theorem dX6_keepApart_16 : decode cX6_keepApart 16 = .ok (.aload_n 2, 1) := by decide +kernel
theorem dX6_keepApart_17 : decode cX6_keepApart 17 = .ok (.getfield 58, 3) := by decide +kernel
theorem dX6_keepApart_20 : decode cX6_keepApart 20 = .ok (.invokestatic 46, 3) := by decide +kernel
theorem dX6_keepApart_23 : decode cX6_keepApart 23 = .ok (.istore 4, 2) := by decide +kernel
theorem dX6_keepApart_25 : decode cX6_keepApart 25 = .ok (.iload 4, 2) := by decide +kernel
theorem dX6_keepApart_27 : decode cX6_keepApart 27 = .ok (.iload_n 3, 1) := by decide +kernel
theorem dX6_keepApart_28 : decode cX6_keepApart 28 = .ok (.if_icmp .gt 110, 3) := by decide +kernel
theorem dX6_keepApart_31 : decode cX6_keepApart 31 = .ok (.iload 4, 2) := by decide +kernel
theorem dX6_keepApart_33 : decode cX6_keepApart 33 = .ok (.bipush 60, 2) := by decide +kernel
theorem dX6_keepApart_35 : decode cX6_keepApart 35 = .ok (.if_icmp .ge 103, 3) := by decide +kernel
theorem dX6_keepApart_38 : decode cX6_keepApart 38 = .ok (.aload_n 1, 1) := by decide +kernel
theorem dX6_keepApart_39 : decode cX6_keepApart 39 = .ok (.iload 4, 2) := by decide +kernel
theorem dX6_keepApart_41 : decode cX6_keepApart 41 = .ok (.invokevirtual 49, 3) := by decide +kernel
theorem dX6_keepApart_44 : decode cX6_keepApart 44 = .ok (.istore 5, 2) := by decide +kernel
theorem dX6_keepApart_46 : decode cX6_keepApart 46 = .ok (.aload_n 0, 1) := by decide +kernel
theorem dX6_keepApart_47 : decode cX6_keepApart 47 = .ok (.getfield 23, 3) := by decide +kernel
theorem dX6_keepApart_50 : decode cX6_keepApart 50 = .ok (.iload 5, 2) := by decide +kernel
theorem dX6_keepApart_52 : decode cX6_keepApart 52 = .ok (.invokevirtual 94, 3) := by decide +kernel
theorem dX6_keepApart_55 : decode cX6_keepApart 55 = .ok (.ifCond .eq 27, 3) := by decide +kernel
theorem dX6_keepApart_58 : decode cX6_keepApart 58 = .ok (.aload_n 0, 1) := by decide +kernel
theorem dX6_keepApart_59 : decode cX6_keepApart 59 = .ok (.getfield 9, 3) := by decide +kernel
theorem dX6_keepApart_62 : decode cX6_keepApart 62 = .ok (.iload 4, 2) := by decide +kernel
theorem dX6_keepApart_64 : decode cX6_keepApart 64 = .ok (.dup2, 1) := by decide +kernel
theorem dX6_keepApart_65 : decode cX6_keepApart 65 = .ok (.laload, 1) := by decide +kernel
theorem dX6_keepApart_66 : decode cX6_keepApart 66 = .ok (.aload_n 0, 1) := by decide +kernel
theorem dX6_keepApart_67 : decode cX6_keepApart 67 = .ok (.getfield 23, 3) := by decide +kernel
theorem dX6_keepApart_70 : decode cX6_keepApart 70 = .ok (.getfield 98, 3) := by decide +kernel
theorem dX6_keepApart_73 : decode cX6_keepApart 73 = .ok (.iload 5, 2) := by decide +kernel
theorem dX6_keepApart_75 : decode cX6_keepApart 75 = .ok (.laload, 1) := by decide +kernel
theorem dX6_keepApart_76 : decode cX6_keepApart 76 = .ok (.ldc2_w 101, 3) := by decide +kernel
theorem dX6_keepApart_79 : decode cX6_keepApart 79 = .ok (.lxor, 1) := by decide +kernel
theorem dX6_keepApart_80 : decode cX6_keepApart 80 = .ok (.land, 1) := by decide +kernel
theorem dX6_keepApart_81 : decode cX6_keepApart 81 = .ok (.lastore, 1) := by decide +kernel
theorem dX6_keepApart_82 : decode cX6_keepApart 82 = .ok (.aload_n 1, 1) := by decide +kernel
theorem dX6_keepApart_83 : decode cX6_keepApart 83 = .ok (.iload 4, 2) := by decide +kernel
theorem dX6_keepApart_85 : decode cX6_keepApart 85 = .ok (.invokevirtual 103, 3) := by decide +kernel
theorem dX6_keepApart_88 : decode cX6_keepApart 88 = .ok (.istore 6, 2) := by decide +kernel
theorem dX6_keepApart_90 : decode cX6_keepApart 90 = .ok (.aload_n 1, 1) := by decide +kernel
theorem dX6_keepApart_91 : decode cX6_keepApart 91 = .ok (.iload 4, 2) := by decide +kernel
theorem dX6_keepApart_93 : decode cX6_keepApart 93 = .ok (.iconst 1, 1) := by decide +kernel
theorem dX6_keepApart_94 : decode cX6_keepApart 94 = .ok (.iadd, 1) := by decide +kernel
theorem dX6_keepApart_95 : decode cX6_keepApart 95 = .ok (.invokevirtual 49, 3) := by decide +kernel
theorem dX6_keepApart_98 : decode cX6_keepApart 98 = .ok (.istore 7, 2) := by decide +kernel
theorem dX6_keepApart_100 : decode cX6_keepApart 100 = .ok (.iload 6, 2) := by decide +kernel
theorem dX6_keepApart_102 : decode cX6_keepApart 102 = .ok (.iconst 4, 1) := by decide +kernel
theorem dX6_keepApart_103 : decode cX6_keepApart 103 = .ok (.if_icmp .ge 29, 3) := by decide +kernel
theorem dX6_keepApart_106 : decode cX6_keepApart 106 = .ok (.iload 7, 2) := by decide +kernel
theorem dX6_keepApart_108 : decode cX6_keepApart 108 = .ok (.iconst (-1), 1) := by decide +kernel
theorem dX6_keepApart_109 : decode cX6_keepApart 109 = .ok (.if_icmp .eq 23, 3) := by decide +kernel
theorem dX6_keepApart_112 : decode cX6_keepApart 112 = .ok (.aload_n 0, 1) := by decide +kernel
theorem dX6_keepApart_113 : decode cX6_keepApart 113 = .ok (.getfield 17, 3) := by decide +kernel
theorem dX6_keepApart_116 : decode cX6_keepApart 116 = .ok (.iload 6, 2) := by decide +kernel
theorem dX6_keepApart_118 : decode cX6_keepApart 118 = .ok (.invokestatic 106, 3) := by decide +kernel
theorem dX6_keepApart_121 : decode cX6_keepApart 121 = .ok (.aaload, 1) := by decide +kernel
theorem dX6_keepApart_122 : decode cX6_keepApart 122 = .ok (.iload 4, 2) := by decide +kernel
theorem dX6_keepApart_124 : decode cX6_keepApart 124 = .ok (.dup2, 1) := by decide +kernel
theorem dX6_keepApart_125 : decode cX6_keepApart 125 = .ok (.laload, 1) := by decide +kernel
theorem dX6_keepApart_126 : decode cX6_keepApart 126 = .ok (.lconst 1, 1) := by decide +kernel
theorem dX6_keepApart_127 : decode cX6_keepApart 127 = .ok (.iload 7, 2) := by decide +kernel
theorem dX6_keepApart_129 : decode cX6_keepApart 129 = .ok (.lshl, 1) := by decide +kernel
theorem dX6_keepApart_130 : decode cX6_keepApart 130 = .ok (.lor, 1) := by decide +kernel
theorem dX6_keepApart_131 : decode cX6_keepApart 131 = .ok (.lastore, 1) := by decide +kernel
theorem dX6_keepApart_132 : decode cX6_keepApart 132 = .ok (.iinc 4 1, 3) := by decide +kernel
theorem dX6_keepApart_135 : decode cX6_keepApart 135 = .ok (.goto (-110), 3) := by decide +kernel
theorem dX6_keepApart_138 : decode cX6_keepApart 138 = .ok (.return_, 1) := by decide +kernel
theorem dX6_against_0 : decode cX6_against 0 = .ok (.iload_n 0, 1) := by decide +kernel
theorem dX6_against_1 : decode cX6_against 1 = .ok (.iconst 2, 1) := by decide +kernel
theorem dX6_against_2 : decode cX6_against 2 = .ok (.ixor, 1) := by decide +kernel
theorem dX6_against_3 : decode cX6_against 3 = .ok (.ireturn, 1) := by decide +kernel
theorem dX6_isAllowed_0 : decode cX6_isAllowed 0 = .ok (.iload_n 1, 1) := by decide +kernel
theorem dX6_isAllowed_1 : decode cX6_isAllowed 1 = .ok (.iconst 4, 1) := by decide +kernel
theorem dX6_isAllowed_2 : decode cX6_isAllowed 2 = .ok (.if_icmp .ge 20, 3) := by decide +kernel
theorem dX6_isAllowed_5 : decode cX6_isAllowed 5 = .ok (.aload_n 0, 1) := by decide +kernel
theorem dX6_isAllowed_6 : decode cX6_isAllowed 6 = .ok (.getfield 17, 3) := by decide +kernel
theorem dX6_isAllowed_9 : decode cX6_isAllowed 9 = .ok (.iload_n 1, 1) := by decide +kernel
theorem dX6_isAllowed_10 : decode cX6_isAllowed 10 = .ok (.aaload, 1) := by decide +kernel
theorem dX6_isAllowed_11 : decode cX6_isAllowed 11 = .ok (.iload_n 3, 1) := by decide +kernel
theorem dX6_isAllowed_12 : decode cX6_isAllowed 12 = .ok (.laload, 1) := by decide +kernel
theorem dX6_isAllowed_13 : decode cX6_isAllowed 13 = .ok (.iload_n 2, 1) := by decide +kernel
theorem dX6_isAllowed_14 : decode cX6_isAllowed 14 = .ok (.lushr, 1) := by decide +kernel
theorem dX6_isAllowed_15 : decode cX6_isAllowed 15 = .ok (.lconst 1, 1) := by decide +kernel
theorem dX6_isAllowed_16 : decode cX6_isAllowed 16 = .ok (.land, 1) := by decide +kernel
theorem dX6_isAllowed_17 : decode cX6_isAllowed 17 = .ok (.lconst 0, 1) := by decide +kernel
theorem dX6_isAllowed_18 : decode cX6_isAllowed 18 = .ok (.lcmp, 1) := by decide +kernel
theorem dX6_isAllowed_19 : decode cX6_isAllowed 19 = .ok (.ifCond .ne 7, 3) := by decide +kernel
theorem dX6_isAllowed_22 : decode cX6_isAllowed 22 = .ok (.iconst 1, 1) := by decide +kernel
theorem dX6_isAllowed_23 : decode cX6_isAllowed 23 = .ok (.goto 4, 3) := by decide +kernel
theorem dX6_isAllowed_26 : decode cX6_isAllowed 26 = .ok (.iconst 0, 1) := by decide +kernel
theorem dX6_isAllowed_27 : decode cX6_isAllowed 27 = .ok (.ireturn, 1) := by decide +kernel
theorem dX6_ahead_0 : decode cX6_ahead 0 = .ok (.lload_n 1, 1) := by decide +kernel
theorem dX6_ahead_1 : decode cX6_ahead 1 = .ok (.lload_n 1, 1) := by decide +kernel
theorem dX6_ahead_2 : decode cX6_ahead 2 = .ok (.aload_n 0, 1) := by decide +kernel
theorem dX6_ahead_3 : decode cX6_ahead 3 = .ok (.getfield 23, 3) := by decide +kernel
theorem dX6_ahead_6 : decode cX6_ahead 6 = .ok (.getfield 109, 3) := by decide +kernel
theorem dX6_ahead_9 : decode cX6_ahead 9 = .ok (.ldc2_w 101, 3) := by decide +kernel
theorem dX6_ahead_12 : decode cX6_ahead 12 = .ok (.lxor, 1) := by decide +kernel
theorem dX6_ahead_13 : decode cX6_ahead 13 = .ok (.land, 1) := by decide +kernel
theorem dX6_ahead_14 : decode cX6_ahead 14 = .ok (.aload_n 0, 1) := by decide +kernel
theorem dX6_ahead_15 : decode cX6_ahead 15 = .ok (.getfield 17, 3) := by decide +kernel
theorem dX6_ahead_18 : decode cX6_ahead 18 = .ok (.iconst 0, 1) := by decide +kernel
theorem dX6_ahead_19 : decode cX6_ahead 19 = .ok (.aaload, 1) := by decide +kernel
theorem dX6_ahead_20 : decode cX6_ahead 20 = .ok (.iload_n 3, 1) := by decide +kernel
theorem dX6_ahead_21 : decode cX6_ahead 21 = .ok (.laload, 1) := by decide +kernel
theorem dX6_ahead_22 : decode cX6_ahead 22 = .ok (.ldc2_w 101, 3) := by decide +kernel
theorem dX6_ahead_25 : decode cX6_ahead 25 = .ok (.lxor, 1) := by decide +kernel
theorem dX6_ahead_26 : decode cX6_ahead 26 = .ok (.land, 1) := by decide +kernel
theorem dX6_ahead_27 : decode cX6_ahead 27 = .ok (.iconst 1, 1) := by decide +kernel
theorem dX6_ahead_28 : decode cX6_ahead 28 = .ok (.lshl, 1) := by decide +kernel
theorem dX6_ahead_29 : decode cX6_ahead 29 = .ok (.lor, 1) := by decide +kernel
theorem dX6_ahead_30 : decode cX6_ahead 30 = .ok (.lload_n 1, 1) := by decide +kernel
theorem dX6_ahead_31 : decode cX6_ahead 31 = .ok (.aload_n 0, 1) := by decide +kernel
theorem dX6_ahead_32 : decode cX6_ahead 32 = .ok (.getfield 17, 3) := by decide +kernel
theorem dX6_ahead_35 : decode cX6_ahead 35 = .ok (.iconst 1, 1) := by decide +kernel
theorem dX6_ahead_36 : decode cX6_ahead 36 = .ok (.aaload, 1) := by decide +kernel
theorem dX6_ahead_37 : decode cX6_ahead 37 = .ok (.iload_n 3, 1) := by decide +kernel
theorem dX6_ahead_38 : decode cX6_ahead 38 = .ok (.laload, 1) := by decide +kernel
theorem dX6_ahead_39 : decode cX6_ahead 39 = .ok (.ldc2_w 101, 3) := by decide +kernel
theorem dX6_ahead_42 : decode cX6_ahead 42 = .ok (.lxor, 1) := by decide +kernel
theorem dX6_ahead_43 : decode cX6_ahead 43 = .ok (.land, 1) := by decide +kernel
theorem dX6_ahead_44 : decode cX6_ahead 44 = .ok (.aload_n 0, 1) := by decide +kernel
theorem dX6_ahead_45 : decode cX6_ahead 45 = .ok (.getfield 23, 3) := by decide +kernel
theorem dX6_ahead_48 : decode cX6_ahead 48 = .ok (.getfield 113, 3) := by decide +kernel
theorem dX6_ahead_51 : decode cX6_ahead 51 = .ok (.lshl, 1) := by decide +kernel
theorem dX6_ahead_52 : decode cX6_ahead 52 = .ok (.lor, 1) := by decide +kernel
theorem dX6_ahead_53 : decode cX6_ahead 53 = .ok (.lload_n 1, 1) := by decide +kernel
theorem dX6_ahead_54 : decode cX6_ahead 54 = .ok (.aload_n 0, 1) := by decide +kernel
theorem dX6_ahead_55 : decode cX6_ahead 55 = .ok (.getfield 23, 3) := by decide +kernel
theorem dX6_ahead_58 : decode cX6_ahead 58 = .ok (.getfield 116, 3) := by decide +kernel
theorem dX6_ahead_61 : decode cX6_ahead 61 = .ok (.ldc2_w 101, 3) := by decide +kernel
theorem dX6_ahead_64 : decode cX6_ahead 64 = .ok (.lxor, 1) := by decide +kernel
theorem dX6_ahead_65 : decode cX6_ahead 65 = .ok (.land, 1) := by decide +kernel
theorem dX6_ahead_66 : decode cX6_ahead 66 = .ok (.aload_n 0, 1) := by decide +kernel
theorem dX6_ahead_67 : decode cX6_ahead 67 = .ok (.getfield 17, 3) := by decide +kernel
theorem dX6_ahead_70 : decode cX6_ahead 70 = .ok (.iconst 2, 1) := by decide +kernel
theorem dX6_ahead_71 : decode cX6_ahead 71 = .ok (.aaload, 1) := by decide +kernel
theorem dX6_ahead_72 : decode cX6_ahead 72 = .ok (.iload_n 3, 1) := by decide +kernel
theorem dX6_ahead_73 : decode cX6_ahead 73 = .ok (.laload, 1) := by decide +kernel
theorem dX6_ahead_74 : decode cX6_ahead 74 = .ok (.ldc2_w 101, 3) := by decide +kernel
theorem dX6_ahead_77 : decode cX6_ahead 77 = .ok (.lxor, 1) := by decide +kernel
theorem dX6_ahead_78 : decode cX6_ahead 78 = .ok (.land, 1) := by decide +kernel
theorem dX6_ahead_79 : decode cX6_ahead 79 = .ok (.iconst 1, 1) := by decide +kernel
theorem dX6_ahead_80 : decode cX6_ahead 80 = .ok (.lushr, 1) := by decide +kernel
theorem dX6_ahead_81 : decode cX6_ahead 81 = .ok (.lor, 1) := by decide +kernel
theorem dX6_ahead_82 : decode cX6_ahead 82 = .ok (.lload_n 1, 1) := by decide +kernel
theorem dX6_ahead_83 : decode cX6_ahead 83 = .ok (.aload_n 0, 1) := by decide +kernel
theorem dX6_ahead_84 : decode cX6_ahead 84 = .ok (.getfield 17, 3) := by decide +kernel
theorem dX6_ahead_87 : decode cX6_ahead 87 = .ok (.iconst 3, 1) := by decide +kernel
theorem dX6_ahead_88 : decode cX6_ahead 88 = .ok (.aaload, 1) := by decide +kernel
theorem dX6_ahead_89 : decode cX6_ahead 89 = .ok (.iload_n 3, 1) := by decide +kernel
theorem dX6_ahead_90 : decode cX6_ahead 90 = .ok (.laload, 1) := by decide +kernel
theorem dX6_ahead_91 : decode cX6_ahead 91 = .ok (.ldc2_w 101, 3) := by decide +kernel
theorem dX6_ahead_94 : decode cX6_ahead 94 = .ok (.lxor, 1) := by decide +kernel
theorem dX6_ahead_95 : decode cX6_ahead 95 = .ok (.land, 1) := by decide +kernel
theorem dX6_ahead_96 : decode cX6_ahead 96 = .ok (.aload_n 0, 1) := by decide +kernel
theorem dX6_ahead_97 : decode cX6_ahead 97 = .ok (.getfield 23, 3) := by decide +kernel
theorem dX6_ahead_100 : decode cX6_ahead 100 = .ok (.getfield 113, 3) := by decide +kernel
theorem dX6_ahead_103 : decode cX6_ahead 103 = .ok (.lushr, 1) := by decide +kernel
theorem dX6_ahead_104 : decode cX6_ahead 104 = .ok (.lor, 1) := by decide +kernel
theorem dX6_ahead_105 : decode cX6_ahead 105 = .ok (.lstore 4, 2) := by decide +kernel
theorem dX6_ahead_107 : decode cX6_ahead 107 = .ok (.lload 4, 2) := by decide +kernel
theorem dX6_ahead_109 : decode cX6_ahead 109 = .ok (.aload_n 0, 1) := by decide +kernel
theorem dX6_ahead_110 : decode cX6_ahead 110 = .ok (.getfield 9, 3) := by decide +kernel
theorem dX6_ahead_113 : decode cX6_ahead 113 = .ok (.iload_n 3, 1) := by decide +kernel
theorem dX6_ahead_114 : decode cX6_ahead 114 = .ok (.iconst 1, 1) := by decide +kernel
theorem dX6_ahead_115 : decode cX6_ahead 115 = .ok (.iadd, 1) := by decide +kernel
theorem dX6_ahead_116 : decode cX6_ahead 116 = .ok (.laload, 1) := by decide +kernel
theorem dX6_ahead_117 : decode cX6_ahead 117 = .ok (.land, 1) := by decide +kernel
theorem dX6_ahead_118 : decode cX6_ahead 118 = .ok (.lreturn, 1) := by decide +kernel
theorem dX6_behind_0 : decode cX6_behind 0 = .ok (.lload_n 1, 1) := by decide +kernel
theorem dX6_behind_1 : decode cX6_behind 1 = .ok (.lload_n 1, 1) := by decide +kernel
theorem dX6_behind_2 : decode cX6_behind 2 = .ok (.aload_n 0, 1) := by decide +kernel
theorem dX6_behind_3 : decode cX6_behind 3 = .ok (.getfield 23, 3) := by decide +kernel
theorem dX6_behind_6 : decode cX6_behind 6 = .ok (.getfield 116, 3) := by decide +kernel
theorem dX6_behind_9 : decode cX6_behind 9 = .ok (.ldc2_w 101, 3) := by decide +kernel
theorem dX6_behind_12 : decode cX6_behind 12 = .ok (.lxor, 1) := by decide +kernel
theorem dX6_behind_13 : decode cX6_behind 13 = .ok (.land, 1) := by decide +kernel
theorem dX6_behind_14 : decode cX6_behind 14 = .ok (.iconst 1, 1) := by decide +kernel
theorem dX6_behind_15 : decode cX6_behind 15 = .ok (.lushr, 1) := by decide +kernel
theorem dX6_behind_16 : decode cX6_behind 16 = .ok (.aload_n 0, 1) := by decide +kernel
theorem dX6_behind_17 : decode cX6_behind 17 = .ok (.getfield 17, 3) := by decide +kernel
theorem dX6_behind_20 : decode cX6_behind 20 = .ok (.iconst 0, 1) := by decide +kernel
theorem dX6_behind_21 : decode cX6_behind 21 = .ok (.aaload, 1) := by decide +kernel
theorem dX6_behind_22 : decode cX6_behind 22 = .ok (.iload_n 3, 1) := by decide +kernel
theorem dX6_behind_23 : decode cX6_behind 23 = .ok (.laload, 1) := by decide +kernel
theorem dX6_behind_24 : decode cX6_behind 24 = .ok (.ldc2_w 101, 3) := by decide +kernel
theorem dX6_behind_27 : decode cX6_behind 27 = .ok (.lxor, 1) := by decide +kernel
theorem dX6_behind_28 : decode cX6_behind 28 = .ok (.land, 1) := by decide +kernel
theorem dX6_behind_29 : decode cX6_behind 29 = .ok (.lor, 1) := by decide +kernel
theorem dX6_behind_30 : decode cX6_behind 30 = .ok (.lload_n 1, 1) := by decide +kernel
theorem dX6_behind_31 : decode cX6_behind 31 = .ok (.aload_n 0, 1) := by decide +kernel
theorem dX6_behind_32 : decode cX6_behind 32 = .ok (.getfield 23, 3) := by decide +kernel
theorem dX6_behind_35 : decode cX6_behind 35 = .ok (.getfield 113, 3) := by decide +kernel
theorem dX6_behind_38 : decode cX6_behind 38 = .ok (.lushr, 1) := by decide +kernel
theorem dX6_behind_39 : decode cX6_behind 39 = .ok (.aload_n 0, 1) := by decide +kernel
theorem dX6_behind_40 : decode cX6_behind 40 = .ok (.getfield 17, 3) := by decide +kernel
theorem dX6_behind_43 : decode cX6_behind 43 = .ok (.iconst 1, 1) := by decide +kernel
theorem dX6_behind_44 : decode cX6_behind 44 = .ok (.aaload, 1) := by decide +kernel
theorem dX6_behind_45 : decode cX6_behind 45 = .ok (.iload_n 3, 1) := by decide +kernel
theorem dX6_behind_46 : decode cX6_behind 46 = .ok (.laload, 1) := by decide +kernel
theorem dX6_behind_47 : decode cX6_behind 47 = .ok (.ldc2_w 101, 3) := by decide +kernel
theorem dX6_behind_50 : decode cX6_behind 50 = .ok (.lxor, 1) := by decide +kernel
theorem dX6_behind_51 : decode cX6_behind 51 = .ok (.land, 1) := by decide +kernel
theorem dX6_behind_52 : decode cX6_behind 52 = .ok (.lor, 1) := by decide +kernel
theorem dX6_behind_53 : decode cX6_behind 53 = .ok (.lload_n 1, 1) := by decide +kernel
theorem dX6_behind_54 : decode cX6_behind 54 = .ok (.aload_n 0, 1) := by decide +kernel
theorem dX6_behind_55 : decode cX6_behind 55 = .ok (.getfield 23, 3) := by decide +kernel
theorem dX6_behind_58 : decode cX6_behind 58 = .ok (.getfield 109, 3) := by decide +kernel
theorem dX6_behind_61 : decode cX6_behind 61 = .ok (.ldc2_w 101, 3) := by decide +kernel
theorem dX6_behind_64 : decode cX6_behind 64 = .ok (.lxor, 1) := by decide +kernel
theorem dX6_behind_65 : decode cX6_behind 65 = .ok (.land, 1) := by decide +kernel
theorem dX6_behind_66 : decode cX6_behind 66 = .ok (.iconst 1, 1) := by decide +kernel
theorem dX6_behind_67 : decode cX6_behind 67 = .ok (.lshl, 1) := by decide +kernel
theorem dX6_behind_68 : decode cX6_behind 68 = .ok (.aload_n 0, 1) := by decide +kernel
theorem dX6_behind_69 : decode cX6_behind 69 = .ok (.getfield 17, 3) := by decide +kernel
theorem dX6_behind_72 : decode cX6_behind 72 = .ok (.iconst 2, 1) := by decide +kernel
theorem dX6_behind_73 : decode cX6_behind 73 = .ok (.aaload, 1) := by decide +kernel
theorem dX6_behind_74 : decode cX6_behind 74 = .ok (.iload_n 3, 1) := by decide +kernel
theorem dX6_behind_75 : decode cX6_behind 75 = .ok (.laload, 1) := by decide +kernel
theorem dX6_behind_76 : decode cX6_behind 76 = .ok (.ldc2_w 101, 3) := by decide +kernel
theorem dX6_behind_79 : decode cX6_behind 79 = .ok (.lxor, 1) := by decide +kernel
theorem dX6_behind_80 : decode cX6_behind 80 = .ok (.land, 1) := by decide +kernel
theorem dX6_behind_81 : decode cX6_behind 81 = .ok (.lor, 1) := by decide +kernel
theorem dX6_behind_82 : decode cX6_behind 82 = .ok (.lload_n 1, 1) := by decide +kernel
theorem dX6_behind_83 : decode cX6_behind 83 = .ok (.aload_n 0, 1) := by decide +kernel
theorem dX6_behind_84 : decode cX6_behind 84 = .ok (.getfield 23, 3) := by decide +kernel
theorem dX6_behind_87 : decode cX6_behind 87 = .ok (.getfield 113, 3) := by decide +kernel
theorem dX6_behind_90 : decode cX6_behind 90 = .ok (.lshl, 1) := by decide +kernel
theorem dX6_behind_91 : decode cX6_behind 91 = .ok (.aload_n 0, 1) := by decide +kernel
theorem dX6_behind_92 : decode cX6_behind 92 = .ok (.getfield 17, 3) := by decide +kernel
theorem dX6_behind_95 : decode cX6_behind 95 = .ok (.iconst 3, 1) := by decide +kernel
theorem dX6_behind_96 : decode cX6_behind 96 = .ok (.aaload, 1) := by decide +kernel
theorem dX6_behind_97 : decode cX6_behind 97 = .ok (.iload_n 3, 1) := by decide +kernel
theorem dX6_behind_98 : decode cX6_behind 98 = .ok (.laload, 1) := by decide +kernel
theorem dX6_behind_99 : decode cX6_behind 99 = .ok (.ldc2_w 101, 3) := by decide +kernel
theorem dX6_behind_102 : decode cX6_behind 102 = .ok (.lxor, 1) := by decide +kernel
theorem dX6_behind_103 : decode cX6_behind 103 = .ok (.land, 1) := by decide +kernel
theorem dX6_behind_104 : decode cX6_behind 104 = .ok (.lor, 1) := by decide +kernel
theorem dX6_behind_105 : decode cX6_behind 105 = .ok (.lstore 4, 2) := by decide +kernel
theorem dX6_behind_107 : decode cX6_behind 107 = .ok (.lload 4, 2) := by decide +kernel
theorem dX6_behind_109 : decode cX6_behind 109 = .ok (.aload_n 0, 1) := by decide +kernel
theorem dX6_behind_110 : decode cX6_behind 110 = .ok (.getfield 9, 3) := by decide +kernel
theorem dX6_behind_113 : decode cX6_behind 113 = .ok (.iload_n 3, 1) := by decide +kernel
theorem dX6_behind_114 : decode cX6_behind 114 = .ok (.laload, 1) := by decide +kernel
theorem dX6_behind_115 : decode cX6_behind 115 = .ok (.land, 1) := by decide +kernel
theorem dX6_behind_116 : decode cX6_behind 116 = .ok (.lreturn, 1) := by decide +kernel
theorem dX6_findSoonest_0 : decode cX6_findSoonest 0 = .ok (.aload_n 0, 1) := by decide +kernel
theorem dX6_findSoonest_1 : decode cX6_findSoonest 1 = .ok (.aload_n 1, 1) := by decide +kernel
theorem dX6_findSoonest_2 : decode cX6_findSoonest 2 = .ok (.iconst 0, 1) := by decide +kernel
theorem dX6_findSoonest_3 : decode cX6_findSoonest 3 = .ok (.invokevirtual 119, 3) := by decide +kernel
theorem dX6_findSoonest_6 : decode cX6_findSoonest 6 = .ok (.aload_n 0, 1) := by decide +kernel
theorem dX6_findSoonest_7 : decode cX6_findSoonest 7 = .ok (.aload_n 1, 1) := by decide +kernel
theorem dX6_findSoonest_8 : decode cX6_findSoonest 8 = .ok (.invokevirtual 123, 3) := by decide +kernel
theorem dX6_findSoonest_11 : decode cX6_findSoonest 11 = .ok (.ifCond .ne 5, 3) := by decide +kernel
theorem dX6_findSoonest_14 : decode cX6_findSoonest 14 = .ok (.iconst 0, 1) := by decide +kernel
theorem dX6_findSoonest_15 : decode cX6_findSoonest 15 = .ok (.ireturn, 1) := by decide +kernel
theorem dX6_findSoonest_16 : decode cX6_findSoonest 16 = .ok (.aload_n 0, 1) := by decide +kernel
theorem dX6_findSoonest_17 : decode cX6_findSoonest 17 = .ok (.aload_n 1, 1) := by decide +kernel
theorem dX6_findSoonest_18 : decode cX6_findSoonest 18 = .ok (.invokevirtual 127, 3) := by decide +kernel
theorem dX6_findSoonest_21 : decode cX6_findSoonest 21 = .ok (.iconst 1, 1) := by decide +kernel
theorem dX6_findSoonest_22 : decode cX6_findSoonest 22 = .ok (.ireturn, 1) := by decide +kernel
theorem dX6_hasWayWithout_0 : decode cX6_hasWayWithout 0 = .ok (.aload_n 0, 1) := by decide +kernel
theorem dX6_hasWayWithout_1 : decode cX6_hasWayWithout 1 = .ok (.aload_n 1, 1) := by decide +kernel
theorem dX6_hasWayWithout_2 : decode cX6_hasWayWithout 2 = .ok (.iload_n 2, 1) := by decide +kernel
theorem dX6_hasWayWithout_3 : decode cX6_hasWayWithout 3 = .ok (.invokevirtual 119, 3) := by decide +kernel
theorem dX6_hasWayWithout_6 : decode cX6_hasWayWithout 6 = .ok (.aload_n 0, 1) := by decide +kernel
theorem dX6_hasWayWithout_7 : decode cX6_hasWayWithout 7 = .ok (.aload_n 1, 1) := by decide +kernel
theorem dX6_hasWayWithout_8 : decode cX6_hasWayWithout 8 = .ok (.invokevirtual 123, 3) := by decide +kernel
theorem dX6_hasWayWithout_11 : decode cX6_hasWayWithout 11 = .ok (.ireturn, 1) := by decide +kernel
theorem dX6_findEnd_0 : decode cX6_findEnd 0 = .ok (.lconst 0, 1) := by decide +kernel
theorem dX6_findEnd_1 : decode cX6_findEnd 1 = .ok (.lstore_n 2, 1) := by decide +kernel
theorem dX6_findEnd_2 : decode cX6_findEnd 2 = .ok (.aload_n 1, 1) := by decide +kernel
theorem dX6_findEnd_3 : decode cX6_findEnd 3 = .ok (.getfield 58, 3) := by decide +kernel
theorem dX6_findEnd_6 : decode cX6_findEnd 6 = .ok (.istore 4, 2) := by decide +kernel
theorem dX6_findEnd_8 : decode cX6_findEnd 8 = .ok (.iload 4, 2) := by decide +kernel
theorem dX6_findEnd_10 : decode cX6_findEnd 10 = .ok (.aload_n 1, 1) := by decide +kernel
theorem dX6_findEnd_11 : decode cX6_findEnd 11 = .ok (.getfield 63, 3) := by decide +kernel
theorem dX6_findEnd_14 : decode cX6_findEnd 14 = .ok (.if_icmp .gt 75, 3) := by decide +kernel
theorem dX6_findEnd_17 : decode cX6_findEnd 17 = .ok (.iload 4, 2) := by decide +kernel
theorem dX6_findEnd_19 : decode cX6_findEnd 19 = .ok (.bipush 60, 2) := by decide +kernel
theorem dX6_findEnd_21 : decode cX6_findEnd 21 = .ok (.if_icmp .ge 68, 3) := by decide +kernel
theorem dX6_findEnd_24 : decode cX6_findEnd 24 = .ok (.iload 4, 2) := by decide +kernel
theorem dX6_findEnd_26 : decode cX6_findEnd 26 = .ok (.aload_n 1, 1) := by decide +kernel
theorem dX6_findEnd_27 : decode cX6_findEnd 27 = .ok (.getfield 58, 3) := by decide +kernel
theorem dX6_findEnd_30 : decode cX6_findEnd 30 = .ok (.if_icmp .le 13, 3) := by decide +kernel
theorem dX6_findEnd_33 : decode cX6_findEnd 33 = .ok (.aload_n 0, 1) := by decide +kernel
theorem dX6_findEnd_34 : decode cX6_findEnd 34 = .ok (.lload_n 2, 1) := by decide +kernel
theorem dX6_findEnd_35 : decode cX6_findEnd 35 = .ok (.iload 4, 2) := by decide +kernel
theorem dX6_findEnd_37 : decode cX6_findEnd 37 = .ok (.iconst 1, 1) := by decide +kernel
theorem dX6_findEnd_38 : decode cX6_findEnd 38 = .ok (.isub, 1) := by decide +kernel
theorem dX6_findEnd_39 : decode cX6_findEnd 39 = .ok (.invokevirtual 131, 3) := by decide +kernel
theorem dX6_findEnd_42 : decode cX6_findEnd 42 = .ok (.lstore_n 2, 1) := by decide +kernel
theorem dX6_findEnd_43 : decode cX6_findEnd 43 = .ok (.lload_n 2, 1) := by decide +kernel
theorem dX6_findEnd_44 : decode cX6_findEnd 44 = .ok (.aload_n 1, 1) := by decide +kernel
theorem dX6_findEnd_45 : decode cX6_findEnd 45 = .ok (.getfield 135, 3) := by decide +kernel
theorem dX6_findEnd_48 : decode cX6_findEnd 48 = .ok (.invokestatic 138, 3) := by decide +kernel
theorem dX6_findEnd_51 : decode cX6_findEnd 51 = .ok (.ifCond .eq 15, 3) := by decide +kernel
theorem dX6_findEnd_54 : decode cX6_findEnd 54 = .ok (.aload_n 0, 1) := by decide +kernel
theorem dX6_findEnd_55 : decode cX6_findEnd 55 = .ok (.aload_n 1, 1) := by decide +kernel
theorem dX6_findEnd_56 : decode cX6_findEnd 56 = .ok (.iload 4, 2) := by decide +kernel
theorem dX6_findEnd_58 : decode cX6_findEnd 58 = .ok (.invokevirtual 142, 3) := by decide +kernel
theorem dX6_findEnd_61 : decode cX6_findEnd 61 = .ok (.ifCond .eq 5, 3) := by decide +kernel
theorem dX6_findEnd_64 : decode cX6_findEnd 64 = .ok (.iconst 1, 1) := by decide +kernel
theorem dX6_findEnd_65 : decode cX6_findEnd 65 = .ok (.ireturn, 1) := by decide +kernel
theorem dX6_findEnd_66 : decode cX6_findEnd 66 = .ok (.lload_n 2, 1) := by decide +kernel
theorem dX6_findEnd_67 : decode cX6_findEnd 67 = .ok (.lconst 1, 1) := by decide +kernel
theorem dX6_findEnd_68 : decode cX6_findEnd 68 = .ok (.aload_n 1, 1) := by decide +kernel
theorem dX6_findEnd_69 : decode cX6_findEnd 69 = .ok (.getfield 146, 3) := by decide +kernel
theorem dX6_findEnd_72 : decode cX6_findEnd 72 = .ok (.lshl, 1) := by decide +kernel
theorem dX6_findEnd_73 : decode cX6_findEnd 73 = .ok (.aload_n 0, 1) := by decide +kernel
theorem dX6_findEnd_74 : decode cX6_findEnd 74 = .ok (.getfield 9, 3) := by decide +kernel
theorem dX6_findEnd_77 : decode cX6_findEnd 77 = .ok (.iload 4, 2) := by decide +kernel
theorem dX6_findEnd_79 : decode cX6_findEnd 79 = .ok (.laload, 1) := by decide +kernel
theorem dX6_findEnd_80 : decode cX6_findEnd 80 = .ok (.land, 1) := by decide +kernel
theorem dX6_findEnd_81 : decode cX6_findEnd 81 = .ok (.lor, 1) := by decide +kernel
theorem dX6_findEnd_82 : decode cX6_findEnd 82 = .ok (.lstore_n 2, 1) := by decide +kernel
theorem dX6_findEnd_83 : decode cX6_findEnd 83 = .ok (.iinc 4 1, 3) := by decide +kernel
theorem dX6_findEnd_86 : decode cX6_findEnd 86 = .ok (.goto (-78), 3) := by decide +kernel
theorem dX6_findEnd_89 : decode cX6_findEnd 89 = .ok (.iconst 0, 1) := by decide +kernel
theorem dX6_findEnd_90 : decode cX6_findEnd 90 = .ok (.ireturn, 1) := by decide +kernel
theorem dX6_findStart_0 : decode cX6_findStart 0 = .ok (.aload_n 1, 1) := by decide +kernel
theorem dX6_findStart_1 : decode cX6_findStart 1 = .ok (.getfield 58, 3) := by decide +kernel
theorem dX6_findStart_4 : decode cX6_findStart 4 = .ok (.iload_n 2, 1) := by decide +kernel
theorem dX6_findStart_5 : decode cX6_findStart 5 = .ok (.aload_n 1, 1) := by decide +kernel
theorem dX6_findStart_6 : decode cX6_findStart 6 = .ok (.getfield 149, 3) := by decide +kernel
theorem dX6_findStart_9 : decode cX6_findStart 9 = .ok (.isub, 1) := by decide +kernel
theorem dX6_findStart_10 : decode cX6_findStart 10 = .ok (.invokestatic 46, 3) := by decide +kernel
theorem dX6_findStart_13 : decode cX6_findStart 13 = .ok (.istore_n 3, 1) := by decide +kernel
theorem dX6_findStart_14 : decode cX6_findStart 14 = .ok (.aload_n 0, 1) := by decide +kernel
theorem dX6_findStart_15 : decode cX6_findStart 15 = .ok (.getfield 20, 3) := by decide +kernel
theorem dX6_findStart_18 : decode cX6_findStart 18 = .ok (.iload_n 2, 1) := by decide +kernel
theorem dX6_findStart_19 : decode cX6_findStart 19 = .ok (.lconst 1, 1) := by decide +kernel
theorem dX6_findStart_20 : decode cX6_findStart 20 = .ok (.aload_n 1, 1) := by decide +kernel
theorem dX6_findStart_21 : decode cX6_findStart 21 = .ok (.getfield 135, 3) := by decide +kernel
theorem dX6_findStart_24 : decode cX6_findStart 24 = .ok (.lshl, 1) := by decide +kernel
theorem dX6_findStart_25 : decode cX6_findStart 25 = .ok (.aload_n 0, 1) := by decide +kernel
theorem dX6_findStart_26 : decode cX6_findStart 26 = .ok (.getfield 9, 3) := by decide +kernel
theorem dX6_findStart_29 : decode cX6_findStart 29 = .ok (.iload_n 2, 1) := by decide +kernel
theorem dX6_findStart_30 : decode cX6_findStart 30 = .ok (.laload, 1) := by decide +kernel
theorem dX6_findStart_31 : decode cX6_findStart 31 = .ok (.land, 1) := by decide +kernel
theorem dX6_findStart_32 : decode cX6_findStart 32 = .ok (.lastore, 1) := by decide +kernel
theorem dX6_findStart_33 : decode cX6_findStart 33 = .ok (.iload_n 2, 1) := by decide +kernel
theorem dX6_findStart_34 : decode cX6_findStart 34 = .ok (.iconst 1, 1) := by decide +kernel
theorem dX6_findStart_35 : decode cX6_findStart 35 = .ok (.isub, 1) := by decide +kernel
theorem dX6_findStart_36 : decode cX6_findStart 36 = .ok (.istore 4, 2) := by decide +kernel
theorem dX6_findStart_38 : decode cX6_findStart 38 = .ok (.iload 4, 2) := by decide +kernel
theorem dX6_findStart_40 : decode cX6_findStart 40 = .ok (.iload_n 3, 1) := by decide +kernel
theorem dX6_findStart_41 : decode cX6_findStart 41 = .ok (.if_icmp .lt 61, 3) := by decide +kernel
theorem dX6_findStart_44 : decode cX6_findStart 44 = .ok (.aload_n 0, 1) := by decide +kernel
theorem dX6_findStart_45 : decode cX6_findStart 45 = .ok (.getfield 20, 3) := by decide +kernel
theorem dX6_findStart_48 : decode cX6_findStart 48 = .ok (.iload 4, 2) := by decide +kernel
theorem dX6_findStart_50 : decode cX6_findStart 50 = .ok (.aload_n 0, 1) := by decide +kernel
theorem dX6_findStart_51 : decode cX6_findStart 51 = .ok (.aload_n 0, 1) := by decide +kernel
theorem dX6_findStart_52 : decode cX6_findStart 52 = .ok (.getfield 20, 3) := by decide +kernel
theorem dX6_findStart_55 : decode cX6_findStart 55 = .ok (.iload 4, 2) := by decide +kernel
theorem dX6_findStart_57 : decode cX6_findStart 57 = .ok (.iconst 1, 1) := by decide +kernel
theorem dX6_findStart_58 : decode cX6_findStart 58 = .ok (.iadd, 1) := by decide +kernel
theorem dX6_findStart_59 : decode cX6_findStart 59 = .ok (.laload, 1) := by decide +kernel
theorem dX6_findStart_60 : decode cX6_findStart 60 = .ok (.iload 4, 2) := by decide +kernel
theorem dX6_findStart_62 : decode cX6_findStart 62 = .ok (.invokevirtual 152, 3) := by decide +kernel
theorem dX6_findStart_65 : decode cX6_findStart 65 = .ok (.lastore, 1) := by decide +kernel
theorem dX6_findStart_66 : decode cX6_findStart 66 = .ok (.aload_n 0, 1) := by decide +kernel
theorem dX6_findStart_67 : decode cX6_findStart 67 = .ok (.getfield 20, 3) := by decide +kernel
theorem dX6_findStart_70 : decode cX6_findStart 70 = .ok (.iload 4, 2) := by decide +kernel
theorem dX6_findStart_72 : decode cX6_findStart 72 = .ok (.laload, 1) := by decide +kernel
theorem dX6_findStart_73 : decode cX6_findStart 73 = .ok (.aload_n 1, 1) := by decide +kernel
theorem dX6_findStart_74 : decode cX6_findStart 74 = .ok (.getfield 146, 3) := by decide +kernel
theorem dX6_findStart_77 : decode cX6_findStart 77 = .ok (.invokestatic 138, 3) := by decide +kernel
theorem dX6_findStart_80 : decode cX6_findStart 80 = .ok (.ifCond .eq 16, 3) := by decide +kernel
theorem dX6_findStart_83 : decode cX6_findStart 83 = .ok (.aload_n 0, 1) := by decide +kernel
theorem dX6_findStart_84 : decode cX6_findStart 84 = .ok (.iload 4, 2) := by decide +kernel
theorem dX6_findStart_86 : decode cX6_findStart 86 = .ok (.putfield 155, 3) := by decide +kernel
theorem dX6_findStart_89 : decode cX6_findStart 89 = .ok (.aload_n 0, 1) := by decide +kernel
theorem dX6_findStart_90 : decode cX6_findStart 90 = .ok (.iload_n 2, 1) := by decide +kernel
theorem dX6_findStart_91 : decode cX6_findStart 91 = .ok (.putfield 156, 3) := by decide +kernel
theorem dX6_findStart_94 : decode cX6_findStart 94 = .ok (.iconst 1, 1) := by decide +kernel
theorem dX6_findStart_95 : decode cX6_findStart 95 = .ok (.ireturn, 1) := by decide +kernel
theorem dX6_findStart_96 : decode cX6_findStart 96 = .ok (.iinc 4 (-1), 3) := by decide +kernel
theorem dX6_findStart_99 : decode cX6_findStart 99 = .ok (.goto (-61), 3) := by decide +kernel
theorem dX6_findStart_102 : decode cX6_findStart 102 = .ok (.iconst 0, 1) := by decide +kernel
theorem dX6_findStart_103 : decode cX6_findStart 103 = .ok (.ireturn, 1) := by decide +kernel
theorem dX6_follow_0 : decode cX6_follow 0 = .ok (.aload_n 1, 1) := by decide +kernel
theorem dX6_follow_1 : decode cX6_follow 1 = .ok (.getfield 146, 3) := by decide +kernel
theorem dX6_follow_4 : decode cX6_follow 4 = .ok (.istore_n 2, 1) := by decide +kernel
theorem dX6_follow_5 : decode cX6_follow 5 = .ok (.aload_n 1, 1) := by decide +kernel
theorem dX6_follow_6 : decode cX6_follow 6 = .ok (.getfield 86, 3) := by decide +kernel
theorem dX6_follow_9 : decode cX6_follow 9 = .ok (.aload_n 0, 1) := by decide +kernel
theorem dX6_follow_10 : decode cX6_follow 10 = .ok (.getfield 155, 3) := by decide +kernel
theorem dX6_follow_13 : decode cX6_follow 13 = .ok (.iload_n 2, 1) := by decide +kernel
theorem dX6_follow_14 : decode cX6_follow 14 = .ok (.invokevirtual 157, 3) := by decide +kernel
theorem dX6_follow_17 : decode cX6_follow 17 = .ok (.aload_n 0, 1) := by decide +kernel
theorem dX6_follow_18 : decode cX6_follow 18 = .ok (.getfield 155, 3) := by decide +kernel
theorem dX6_follow_21 : decode cX6_follow 21 = .ok (.istore_n 3, 1) := by decide +kernel
theorem dX6_follow_22 : decode cX6_follow 22 = .ok (.iload_n 3, 1) := by decide +kernel
theorem dX6_follow_23 : decode cX6_follow 23 = .ok (.aload_n 0, 1) := by decide +kernel
theorem dX6_follow_24 : decode cX6_follow 24 = .ok (.getfield 156, 3) := by decide +kernel
theorem dX6_follow_27 : decode cX6_follow 27 = .ok (.if_icmp .ge 38, 3) := by decide +kernel
theorem dX6_follow_30 : decode cX6_follow 30 = .ok (.aload_n 0, 1) := by decide +kernel
theorem dX6_follow_31 : decode cX6_follow 31 = .ok (.iload_n 2, 1) := by decide +kernel
theorem dX6_follow_32 : decode cX6_follow 32 = .ok (.iload_n 3, 1) := by decide +kernel
theorem dX6_follow_33 : decode cX6_follow 33 = .ok (.invokevirtual 161, 3) := by decide +kernel
theorem dX6_follow_36 : decode cX6_follow 36 = .ok (.istore 4, 2) := by decide +kernel
theorem dX6_follow_38 : decode cX6_follow 38 = .ok (.aload_n 0, 1) := by decide +kernel
theorem dX6_follow_39 : decode cX6_follow 39 = .ok (.getfield 23, 3) := by decide +kernel
theorem dX6_follow_42 : decode cX6_follow 42 = .ok (.iload_n 2, 1) := by decide +kernel
theorem dX6_follow_43 : decode cX6_follow 43 = .ok (.iload 4, 2) := by decide +kernel
theorem dX6_follow_45 : decode cX6_follow 45 = .ok (.invokevirtual 164, 3) := by decide +kernel
theorem dX6_follow_48 : decode cX6_follow 48 = .ok (.istore_n 2, 1) := by decide +kernel
theorem dX6_follow_49 : decode cX6_follow 49 = .ok (.aload_n 1, 1) := by decide +kernel
theorem dX6_follow_50 : decode cX6_follow 50 = .ok (.getfield 86, 3) := by decide +kernel
theorem dX6_follow_53 : decode cX6_follow 53 = .ok (.iload 4, 2) := by decide +kernel
theorem dX6_follow_55 : decode cX6_follow 55 = .ok (.iload_n 2, 1) := by decide +kernel
theorem dX6_follow_56 : decode cX6_follow 56 = .ok (.invokevirtual 167, 3) := by decide +kernel
theorem dX6_follow_59 : decode cX6_follow 59 = .ok (.iinc 3 1, 3) := by decide +kernel
theorem dX6_follow_62 : decode cX6_follow 62 = .ok (.goto (-40), 3) := by decide +kernel
theorem dX6_follow_65 : decode cX6_follow 65 = .ok (.return_, 1) := by decide +kernel
theorem dX6_firstStep_0 : decode cX6_firstStep 0 = .ok (.iconst 0, 1) := by decide +kernel
theorem dX6_firstStep_1 : decode cX6_firstStep 1 = .ok (.istore_n 3, 1) := by decide +kernel
theorem dX6_firstStep_2 : decode cX6_firstStep 2 = .ok (.iload_n 3, 1) := by decide +kernel
theorem dX6_firstStep_3 : decode cX6_firstStep 3 = .ok (.iconst 4, 1) := by decide +kernel
theorem dX6_firstStep_4 : decode cX6_firstStep 4 = .ok (.if_icmp .ge 54, 3) := by decide +kernel
theorem dX6_firstStep_7 : decode cX6_firstStep 7 = .ok (.aload_n 0, 1) := by decide +kernel
theorem dX6_firstStep_8 : decode cX6_firstStep 8 = .ok (.getfield 23, 3) := by decide +kernel
theorem dX6_firstStep_11 : decode cX6_firstStep 11 = .ok (.iload_n 1, 1) := by decide +kernel
theorem dX6_firstStep_12 : decode cX6_firstStep 12 = .ok (.iload_n 3, 1) := by decide +kernel
theorem dX6_firstStep_13 : decode cX6_firstStep 13 = .ok (.invokevirtual 164, 3) := by decide +kernel
theorem dX6_firstStep_16 : decode cX6_firstStep 16 = .ok (.istore 4, 2) := by decide +kernel
theorem dX6_firstStep_18 : decode cX6_firstStep 18 = .ok (.iload 4, 2) := by decide +kernel
theorem dX6_firstStep_20 : decode cX6_firstStep 20 = .ok (.iconst (-1), 1) := by decide +kernel
theorem dX6_firstStep_21 : decode cX6_firstStep 21 = .ok (.if_icmp .eq 31, 3) := by decide +kernel
theorem dX6_firstStep_24 : decode cX6_firstStep 24 = .ok (.aload_n 0, 1) := by decide +kernel
theorem dX6_firstStep_25 : decode cX6_firstStep 25 = .ok (.getfield 20, 3) := by decide +kernel
theorem dX6_firstStep_28 : decode cX6_firstStep 28 = .ok (.iload_n 2, 1) := by decide +kernel
theorem dX6_firstStep_29 : decode cX6_firstStep 29 = .ok (.iconst 1, 1) := by decide +kernel
theorem dX6_firstStep_30 : decode cX6_firstStep 30 = .ok (.iadd, 1) := by decide +kernel
theorem dX6_firstStep_31 : decode cX6_firstStep 31 = .ok (.laload, 1) := by decide +kernel
theorem dX6_firstStep_32 : decode cX6_firstStep 32 = .ok (.iload 4, 2) := by decide +kernel
theorem dX6_firstStep_34 : decode cX6_firstStep 34 = .ok (.invokestatic 138, 3) := by decide +kernel
theorem dX6_firstStep_37 : decode cX6_firstStep 37 = .ok (.ifCond .eq 15, 3) := by decide +kernel
theorem dX6_firstStep_40 : decode cX6_firstStep 40 = .ok (.aload_n 0, 1) := by decide +kernel
theorem dX6_firstStep_41 : decode cX6_firstStep 41 = .ok (.iload_n 3, 1) := by decide +kernel
theorem dX6_firstStep_42 : decode cX6_firstStep 42 = .ok (.iload_n 1, 1) := by decide +kernel
theorem dX6_firstStep_43 : decode cX6_firstStep 43 = .ok (.iload_n 2, 1) := by decide +kernel
theorem dX6_firstStep_44 : decode cX6_firstStep 44 = .ok (.invokevirtual 170, 3) := by decide +kernel
theorem dX6_firstStep_47 : decode cX6_firstStep 47 = .ok (.ifCond .eq 5, 3) := by decide +kernel
theorem dX6_firstStep_50 : decode cX6_firstStep 50 = .ok (.iload_n 3, 1) := by decide +kernel
theorem dX6_firstStep_51 : decode cX6_firstStep 51 = .ok (.ireturn, 1) := by decide +kernel
theorem dX6_firstStep_52 : decode cX6_firstStep 52 = .ok (.iinc 3 1, 3) := by decide +kernel
theorem dX6_firstStep_55 : decode cX6_firstStep 55 = .ok (.goto (-53), 3) := by decide +kernel
theorem dX6_firstStep_58 : decode cX6_firstStep 58 = .ok (.iconst 4, 1) := by decide +kernel
theorem dX6_firstStep_59 : decode cX6_firstStep 59 = .ok (.ireturn, 1) := by decide +kernel
theorem dX7_init_0 : decode cX7_init 0 = .ok (.aload_n 0, 1) := by decide +kernel
theorem dX7_init_1 : decode cX7_init 1 = .ok (.invokespecial 3, 3) := by decide +kernel
theorem dX7_init_4 : decode cX7_init 4 = .ok (.aload_n 0, 1) := by decide +kernel
theorem dX7_init_5 : decode cX7_init 5 = .ok (.bipush 60, 2) := by decide +kernel
theorem dX7_init_7 : decode cX7_init 7 = .ok (.newarray .long, 2) := by decide +kernel
theorem dX7_init_9 : decode cX7_init 9 = .ok (.putfield 9, 3) := by decide +kernel
theorem dX7_init_12 : decode cX7_init 12 = .ok (.aload_n 0, 1) := by decide +kernel
theorem dX7_init_13 : decode cX7_init 13 = .ok (.aload_n 1, 1) := by decide +kernel
theorem dX7_init_14 : decode cX7_init 14 = .ok (.putfield 15, 3) := by decide +kernel
theorem dX7_init_17 : decode cX7_init 17 = .ok (.aload_n 0, 1) := by decide +kernel
theorem dX7_init_18 : decode cX7_init 18 = .ok (.aload_n 2, 1) := by decide +kernel
theorem dX7_init_19 : decode cX7_init 19 = .ok (.putfield 19, 3) := by decide +kernel
end
section
theorem dX7_init_22 : decode cX7_init 22 = .ok (.return_, 1) := by decide +kernel
theorem dX7_see_0 : decode cX7_see 0 = .ok (.aload_n 0, 1) := by decide +kernel
theorem dX7_see_1 : decode cX7_see 1 = .ok (.iconst 1, 1) := by decide +kernel
theorem dX7_see_2 : decode cX7_see 2 = .ok (.putfield 23, 3) := by decide +kernel
theorem dX7_see_5 : decode cX7_see 5 = .ok (.aload_n 0, 1) := by decide +kernel
theorem dX7_see_6 : decode cX7_see 6 = .ok (.iload_n 1, 1) := by decide +kernel
theorem dX7_see_7 : decode cX7_see 7 = .ok (.putfield 27, 3) := by decide +kernel
theorem dX7_see_10 : decode cX7_see 10 = .ok (.aload_n 0, 1) := by decide +kernel
theorem dX7_see_11 : decode cX7_see 11 = .ok (.iload_n 2, 1) := by decide +kernel
theorem dX7_see_12 : decode cX7_see 12 = .ok (.putfield 31, 3) := by decide +kernel
theorem dX7_see_15 : decode cX7_see 15 = .ok (.aload_n 0, 1) := by decide +kernel
theorem dX7_see_16 : decode cX7_see 16 = .ok (.iload_n 3, 1) := by decide +kernel
theorem dX7_see_17 : decode cX7_see 17 = .ok (.putfield 34, 3) := by decide +kernel
theorem dX7_see_20 : decode cX7_see 20 = .ok (.return_, 1) := by decide +kernel
theorem dX7_spread_0 : decode cX7_spread 0 = .ok (.lconst 0, 1) := by decide +kernel
theorem dX7_spread_1 : decode cX7_spread 1 = .ok (.lstore_n 1, 1) := by decide +kernel
theorem dX7_spread_2 : decode cX7_spread 2 = .ok (.iconst 0, 1) := by decide +kernel
theorem dX7_spread_3 : decode cX7_spread 3 = .ok (.istore_n 3, 1) := by decide +kernel
theorem dX7_spread_4 : decode cX7_spread 4 = .ok (.iload_n 3, 1) := by decide +kernel
theorem dX7_spread_5 : decode cX7_spread 5 = .ok (.bipush 60, 2) := by decide +kernel
theorem dX7_spread_7 : decode cX7_spread 7 = .ok (.if_icmp .ge 48, 3) := by decide +kernel
theorem dX7_spread_10 : decode cX7_spread 10 = .ok (.aload_n 0, 1) := by decide +kernel
theorem dX7_spread_11 : decode cX7_spread 11 = .ok (.getfield 23, 3) := by decide +kernel
theorem dX7_spread_14 : decode cX7_spread 14 = .ok (.ifCond .eq 21, 3) := by decide +kernel
theorem dX7_spread_17 : decode cX7_spread 17 = .ok (.iload_n 3, 1) := by decide +kernel
theorem dX7_spread_18 : decode cX7_spread 18 = .ok (.aload_n 0, 1) := by decide +kernel
theorem dX7_spread_19 : decode cX7_spread 19 = .ok (.getfield 31, 3) := by decide +kernel
theorem dX7_spread_22 : decode cX7_spread 22 = .ok (.if_icmp .ne 13, 3) := by decide +kernel
theorem dX7_spread_25 : decode cX7_spread 25 = .ok (.lconst 1, 1) := by decide +kernel
theorem dX7_spread_26 : decode cX7_spread 26 = .ok (.aload_n 0, 1) := by decide +kernel
theorem dX7_spread_27 : decode cX7_spread 27 = .ok (.getfield 27, 3) := by decide +kernel
theorem dX7_spread_30 : decode cX7_spread 30 = .ok (.lshl, 1) := by decide +kernel
theorem dX7_spread_31 : decode cX7_spread 31 = .ok (.lstore_n 1, 1) := by decide +kernel
theorem dX7_spread_32 : decode cX7_spread 32 = .ok (.goto 10, 3) := by decide +kernel
theorem dX7_spread_35 : decode cX7_spread 35 = .ok (.aload_n 0, 1) := by decide +kernel
theorem dX7_spread_36 : decode cX7_spread 36 = .ok (.lload_n 1, 1) := by decide +kernel
theorem dX7_spread_37 : decode cX7_spread 37 = .ok (.iload_n 3, 1) := by decide +kernel
theorem dX7_spread_38 : decode cX7_spread 38 = .ok (.invokevirtual 37, 3) := by decide +kernel
theorem dX7_spread_41 : decode cX7_spread 41 = .ok (.lstore_n 1, 1) := by decide +kernel
theorem dX7_spread_42 : decode cX7_spread 42 = .ok (.aload_n 0, 1) := by decide +kernel
theorem dX7_spread_43 : decode cX7_spread 43 = .ok (.getfield 9, 3) := by decide +kernel
theorem dX7_spread_46 : decode cX7_spread 46 = .ok (.iload_n 3, 1) := by decide +kernel
theorem dX7_spread_47 : decode cX7_spread 47 = .ok (.lload_n 1, 1) := by decide +kernel
theorem dX7_spread_48 : decode cX7_spread 48 = .ok (.lastore, 1) := by decide +kernel
theorem dX7_spread_49 : decode cX7_spread 49 = .ok (.iinc 3 1, 3) := by decide +kernel
theorem dX7_spread_52 : decode cX7_spread 52 = .ok (.goto (-48), 3) := by decide +kernel
theorem dX7_spread_55 : decode cX7_spread 55 = .ok (.return_, 1) := by decide +kernel
theorem dX7_spreadInto_0 : decode cX7_spreadInto 0 = .ok (.lload_n 1, 1) := by decide +kernel
theorem dX7_spreadInto_1 : decode cX7_spreadInto 1 = .ok (.lstore 4, 2) := by decide +kernel
theorem dX7_spreadInto_3 : decode cX7_spreadInto 3 = .ok (.iconst 0, 1) := by decide +kernel
theorem dX7_spreadInto_4 : decode cX7_spreadInto 4 = .ok (.istore 6, 2) := by decide +kernel
theorem dX7_spreadInto_6 : decode cX7_spreadInto 6 = .ok (.iload 6, 2) := by decide +kernel
theorem dX7_spreadInto_8 : decode cX7_spreadInto 8 = .ok (.aload_n 0, 1) := by decide +kernel
theorem dX7_spreadInto_9 : decode cX7_spreadInto 9 = .ok (.getfield 34, 3) := by decide +kernel
theorem dX7_spreadInto_12 : decode cX7_spreadInto 12 = .ok (.if_icmp .ge 37, 3) := by decide +kernel
theorem dX7_spreadInto_15 : decode cX7_spreadInto 15 = .ok (.lload 4, 2) := by decide +kernel
theorem dX7_spreadInto_17 : decode cX7_spreadInto 17 = .ok (.aload_n 0, 1) := by decide +kernel
theorem dX7_spreadInto_18 : decode cX7_spreadInto 18 = .ok (.getfield 15, 3) := by decide +kernel
theorem dX7_spreadInto_21 : decode cX7_spreadInto 21 = .ok (.lload 4, 2) := by decide +kernel
theorem dX7_spreadInto_23 : decode cX7_spreadInto 23 = .ok (.invokevirtual 41, 3) := by decide +kernel
theorem dX7_spreadInto_26 : decode cX7_spreadInto 26 = .ok (.aload_n 0, 1) := by decide +kernel
theorem dX7_spreadInto_27 : decode cX7_spreadInto 27 = .ok (.getfield 15, 3) := by decide +kernel
theorem dX7_spreadInto_30 : decode cX7_spreadInto 30 = .ok (.getfield 47, 3) := by decide +kernel
theorem dX7_spreadInto_33 : decode cX7_spreadInto 33 = .ok (.iload_n 3, 1) := by decide +kernel
theorem dX7_spreadInto_34 : decode cX7_spreadInto 34 = .ok (.laload, 1) := by decide +kernel
theorem dX7_spreadInto_35 : decode cX7_spreadInto 35 = .ok (.ldc2_w 50, 3) := by decide +kernel
theorem dX7_spreadInto_38 : decode cX7_spreadInto 38 = .ok (.lxor, 1) := by decide +kernel
theorem dX7_spreadInto_39 : decode cX7_spreadInto 39 = .ok (.land, 1) := by decide +kernel
theorem dX7_spreadInto_40 : decode cX7_spreadInto 40 = .ok (.lor, 1) := by decide +kernel
theorem dX7_spreadInto_41 : decode cX7_spreadInto 41 = .ok (.lstore 4, 2) := by decide +kernel
theorem dX7_spreadInto_43 : decode cX7_spreadInto 43 = .ok (.iinc 6 1, 3) := by decide +kernel
theorem dX7_spreadInto_46 : decode cX7_spreadInto 46 = .ok (.goto (-40), 3) := by decide +kernel
theorem dX7_spreadInto_49 : decode cX7_spreadInto 49 = .ok (.lload 4, 2) := by decide +kernel
theorem dX7_spreadInto_51 : decode cX7_spreadInto 51 = .ok (.lreturn, 1) := by decide +kernel
theorem dX7_firstTouch_0 : decode cX7_firstTouch 0 = .ok (.aload_n 1, 1) := by decide +kernel
theorem dX7_firstTouch_1 : decode cX7_firstTouch 1 = .ok (.getfield 52, 3) := by decide +kernel
theorem dX7_firstTouch_4 : decode cX7_firstTouch 4 = .ok (.iconst 0, 1) := by decide +kernel
theorem dX7_firstTouch_5 : decode cX7_firstTouch 5 = .ok (.invokestatic 57, 3) := by decide +kernel
theorem dX7_firstTouch_8 : decode cX7_firstTouch 8 = .ok (.istore_n 2, 1) := by decide +kernel
theorem dX7_firstTouch_9 : decode cX7_firstTouch 9 = .ok (.iload_n 2, 1) := by decide +kernel
theorem dX7_firstTouch_10 : decode cX7_firstTouch 10 = .ok (.aload_n 1, 1) := by decide +kernel
theorem dX7_firstTouch_11 : decode cX7_firstTouch 11 = .ok (.getfield 63, 3) := by decide +kernel
theorem dX7_firstTouch_14 : decode cX7_firstTouch 14 = .ok (.if_icmp .gt 34, 3) := by decide +kernel
theorem dX7_firstTouch_17 : decode cX7_firstTouch 17 = .ok (.iload_n 2, 1) := by decide +kernel
theorem dX7_firstTouch_18 : decode cX7_firstTouch 18 = .ok (.bipush 60, 2) := by decide +kernel
theorem dX7_firstTouch_20 : decode cX7_firstTouch 20 = .ok (.if_icmp .ge 28, 3) := by decide +kernel
theorem dX7_firstTouch_23 : decode cX7_firstTouch 23 = .ok (.aload_n 0, 1) := by decide +kernel
theorem dX7_firstTouch_24 : decode cX7_firstTouch 24 = .ok (.getfield 9, 3) := by decide +kernel
theorem dX7_firstTouch_27 : decode cX7_firstTouch 27 = .ok (.iload_n 2, 1) := by decide +kernel
theorem dX7_firstTouch_28 : decode cX7_firstTouch 28 = .ok (.laload, 1) := by decide +kernel
theorem dX7_firstTouch_29 : decode cX7_firstTouch 29 = .ok (.aload_n 1, 1) := by decide +kernel
theorem dX7_firstTouch_30 : decode cX7_firstTouch 30 = .ok (.iload_n 2, 1) := by decide +kernel
theorem dX7_firstTouch_31 : decode cX7_firstTouch 31 = .ok (.invokevirtual 66, 3) := by decide +kernel
theorem dX7_firstTouch_34 : decode cX7_firstTouch 34 = .ok (.invokestatic 70, 3) := by decide +kernel
theorem dX7_firstTouch_37 : decode cX7_firstTouch 37 = .ok (.ifCond .eq 5, 3) := by decide +kernel
theorem dX7_firstTouch_40 : decode cX7_firstTouch 40 = .ok (.iload_n 2, 1) := by decide +kernel
theorem dX7_firstTouch_41 : decode cX7_firstTouch 41 = .ok (.ireturn, 1) := by decide +kernel
theorem dX7_firstTouch_42 : decode cX7_firstTouch 42 = .ok (.iinc 2 1, 3) := by decide +kernel
theorem dX7_firstTouch_45 : decode cX7_firstTouch 45 = .ok (.goto (-36), 3) := by decide +kernel
theorem dX7_firstTouch_48 : decode cX7_firstTouch 48 = .ok (.ldc 74, 2) := by decide +kernel
theorem dX7_firstTouch_50 : decode cX7_firstTouch 50 = .ok (.ireturn, 1) := by decide +kernel
theorem dX7_touches_0 : decode cX7_touches 0 = .ok (.aload_n 0, 1) := by decide +kernel
theorem dX7_touches_1 : decode cX7_touches 1 = .ok (.getfield 19, 3) := by decide +kernel
theorem dX7_touches_4 : decode cX7_touches 4 = .ok (.getfield 75, 3) := by decide +kernel
theorem dX7_touches_7 : decode cX7_touches 7 = .ok (.iload_n 1, 1) := by decide +kernel
theorem dX7_touches_8 : decode cX7_touches 8 = .ok (.aaload, 1) := by decide +kernel
theorem dX7_touches_9 : decode cX7_touches 9 = .ok (.getfield 81, 3) := by decide +kernel
theorem dX7_touches_12 : decode cX7_touches 12 = .ok (.ifCond .eq 28, 3) := by decide +kernel
theorem dX7_touches_15 : decode cX7_touches 15 = .ok (.aload_n 0, 1) := by decide +kernel
theorem dX7_touches_16 : decode cX7_touches 16 = .ok (.aload_n 0, 1) := by decide +kernel
theorem dX7_touches_17 : decode cX7_touches 17 = .ok (.getfield 19, 3) := by decide +kernel
theorem dX7_touches_20 : decode cX7_touches 20 = .ok (.getfield 75, 3) := by decide +kernel
theorem dX7_touches_23 : decode cX7_touches 23 = .ok (.iload_n 1, 1) := by decide +kernel
theorem dX7_touches_24 : decode cX7_touches 24 = .ok (.aaload, 1) := by decide +kernel
theorem dX7_touches_25 : decode cX7_touches 25 = .ok (.getfield 86, 3) := by decide +kernel
theorem dX7_touches_28 : decode cX7_touches 28 = .ok (.invokevirtual 90, 3) := by decide +kernel
theorem dX7_touches_31 : decode cX7_touches 31 = .ok (.ldc 74, 2) := by decide +kernel
theorem dX7_touches_33 : decode cX7_touches 33 = .ok (.if_icmp .eq 7, 3) := by decide +kernel
theorem dX7_touches_36 : decode cX7_touches 36 = .ok (.iconst 1, 1) := by decide +kernel
theorem dX7_touches_37 : decode cX7_touches 37 = .ok (.goto 4, 3) := by decide +kernel
theorem dX7_touches_40 : decode cX7_touches 40 = .ok (.iconst 0, 1) := by decide +kernel
theorem dX7_touches_41 : decode cX7_touches 41 = .ok (.ireturn, 1) := by decide +kernel
theorem dX7_countTouched_0 : decode cX7_countTouched 0 = .ok (.iconst 0, 1) := by decide +kernel
theorem dX7_countTouched_1 : decode cX7_countTouched 1 = .ok (.istore_n 1, 1) := by decide +kernel
theorem dX7_countTouched_2 : decode cX7_countTouched 2 = .ok (.iconst 0, 1) := by decide +kernel
theorem dX7_countTouched_3 : decode cX7_countTouched 3 = .ok (.istore_n 2, 1) := by decide +kernel
theorem dX7_countTouched_4 : decode cX7_countTouched 4 = .ok (.iload_n 2, 1) := by decide +kernel
theorem dX7_countTouched_5 : decode cX7_countTouched 5 = .ok (.aload_n 0, 1) := by decide +kernel
theorem dX7_countTouched_6 : decode cX7_countTouched 6 = .ok (.getfield 19, 3) := by decide +kernel
theorem dX7_countTouched_9 : decode cX7_countTouched 9 = .ok (.getfield 94, 3) := by decide +kernel
theorem dX7_countTouched_12 : decode cX7_countTouched 12 = .ok (.if_icmp .ge 20, 3) := by decide +kernel
theorem dX7_countTouched_15 : decode cX7_countTouched 15 = .ok (.aload_n 0, 1) := by decide +kernel
theorem dX7_countTouched_16 : decode cX7_countTouched 16 = .ok (.iload_n 2, 1) := by decide +kernel
theorem dX7_countTouched_17 : decode cX7_countTouched 17 = .ok (.invokevirtual 97, 3) := by decide +kernel
theorem dX7_countTouched_20 : decode cX7_countTouched 20 = .ok (.ifCond .eq 6, 3) := by decide +kernel
theorem dX7_countTouched_23 : decode cX7_countTouched 23 = .ok (.iinc 1 1, 3) := by decide +kernel
theorem dX7_countTouched_26 : decode cX7_countTouched 26 = .ok (.iinc 2 1, 3) := by decide +kernel
theorem dX7_countTouched_29 : decode cX7_countTouched 29 = .ok (.goto (-25), 3) := by decide +kernel
theorem dX7_countTouched_32 : decode cX7_countTouched 32 = .ok (.iload_n 1, 1) := by decide +kernel
theorem dX7_countTouched_33 : decode cX7_countTouched 33 = .ok (.ireturn, 1) := by decide +kernel
theorem dX7_touched_0 : decode cX7_touched 0 = .ok (.iconst 0, 1) := by decide +kernel
theorem dX7_touched_1 : decode cX7_touched 1 = .ok (.istore_n 2, 1) := by decide +kernel
theorem dX7_touched_2 : decode cX7_touched 2 = .ok (.iconst 0, 1) := by decide +kernel
theorem dX7_touched_3 : decode cX7_touched 3 = .ok (.istore_n 3, 1) := by decide +kernel
theorem dX7_touched_4 : decode cX7_touched 4 = .ok (.iload_n 3, 1) := by decide +kernel
theorem dX7_touched_5 : decode cX7_touched 5 = .ok (.aload_n 0, 1) := by decide +kernel
theorem dX7_touched_6 : decode cX7_touched 6 = .ok (.getfield 19, 3) := by decide +kernel
theorem dX7_touched_9 : decode cX7_touched 9 = .ok (.getfield 94, 3) := by decide +kernel
theorem dX7_touched_12 : decode cX7_touched 12 = .ok (.if_icmp .ge 27, 3) := by decide +kernel
theorem dX7_touched_15 : decode cX7_touched 15 = .ok (.aload_n 0, 1) := by decide +kernel
theorem dX7_touched_16 : decode cX7_touched 16 = .ok (.iload_n 3, 1) := by decide +kernel
theorem dX7_touched_17 : decode cX7_touched 17 = .ok (.invokevirtual 97, 3) := by decide +kernel
theorem dX7_touched_20 : decode cX7_touched 20 = .ok (.ifCond .eq 13, 3) := by decide +kernel
theorem dX7_touched_23 : decode cX7_touched 23 = .ok (.iload_n 2, 1) := by decide +kernel
theorem dX7_touched_24 : decode cX7_touched 24 = .ok (.iload_n 1, 1) := by decide +kernel
theorem dX7_touched_25 : decode cX7_touched 25 = .ok (.if_icmp .ne 5, 3) := by decide +kernel
theorem dX7_touched_28 : decode cX7_touched 28 = .ok (.iload_n 3, 1) := by decide +kernel
theorem dX7_touched_29 : decode cX7_touched 29 = .ok (.ireturn, 1) := by decide +kernel
theorem dX7_touched_30 : decode cX7_touched 30 = .ok (.iinc 2 1, 3) := by decide +kernel
theorem dX7_touched_33 : decode cX7_touched 33 = .ok (.iinc 3 1, 3) := by decide +kernel
theorem dX7_touched_36 : decode cX7_touched 36 = .ok (.goto (-32), 3) := by decide +kernel
theorem dX7_touched_39 : decode cX7_touched 39 = .ok (.ldc 74, 2) := by decide +kernel
theorem dX7_touched_41 : decode cX7_touched 41 = .ok (.ireturn, 1) := by decide +kernel
theorem dX8_init_0 : decode cX8_init 0 = .ok (.aload_n 0, 1) := by decide +kernel
theorem dX8_init_1 : decode cX8_init 1 = .ok (.invokespecial 3, 3) := by decide +kernel
theorem dX8_init_4 : decode cX8_init 4 = .ok (.aload_n 0, 1) := by decide +kernel
theorem dX8_init_5 : decode cX8_init 5 = .ok (.iconst 1, 1) := by decide +kernel
theorem dX8_init_6 : decode cX8_init 6 = .ok (.putfield 9, 3) := by decide +kernel
theorem dX8_init_9 : decode cX8_init 9 = .ok (.aload_n 0, 1) := by decide +kernel
theorem dX8_init_10 : decode cX8_init 10 = .ok (.iconst 0, 1) := by decide +kernel
theorem dX8_init_11 : decode cX8_init 11 = .ok (.putfield 15, 3) := by decide +kernel
theorem dX8_init_14 : decode cX8_init 14 = .ok (.aload_n 0, 1) := by decide +kernel
theorem dX8_init_15 : decode cX8_init 15 = .ok (.bipush 36, 2) := by decide +kernel
theorem dX8_init_17 : decode cX8_init 17 = .ok (.newarray .int, 2) := by decide +kernel
theorem dX8_init_19 : decode cX8_init 19 = .ok (.putfield 18, 3) := by decide +kernel
theorem dX8_init_22 : decode cX8_init 22 = .ok (.aload_n 0, 1) := by decide +kernel
theorem dX8_init_23 : decode cX8_init 23 = .ok (.bipush 36, 2) := by decide +kernel
theorem dX8_init_25 : decode cX8_init 25 = .ok (.newarray .int, 2) := by decide +kernel
theorem dX8_init_27 : decode cX8_init 27 = .ok (.putfield 22, 3) := by decide +kernel
theorem dX8_init_30 : decode cX8_init 30 = .ok (.aload_n 0, 1) := by decide +kernel
theorem dX8_init_31 : decode cX8_init 31 = .ok (.bipush 36, 2) := by decide +kernel
theorem dX8_init_33 : decode cX8_init 33 = .ok (.newarray .long, 2) := by decide +kernel
theorem dX8_init_35 : decode cX8_init 35 = .ok (.putfield 25, 3) := by decide +kernel
theorem dX8_init_38 : decode cX8_init 38 = .ok (.aload_n 0, 1) := by decide +kernel
theorem dX8_init_39 : decode cX8_init 39 = .ok (.bipush 60, 2) := by decide +kernel
theorem dX8_init_41 : decode cX8_init 41 = .ok (.newarray .long, 2) := by decide +kernel
theorem dX8_init_43 : decode cX8_init 43 = .ok (.putfield 29, 3) := by decide +kernel
theorem dX8_init_46 : decode cX8_init 46 = .ok (.aload_n 0, 1) := by decide +kernel
theorem dX8_init_47 : decode cX8_init 47 = .ok (.bipush 60, 2) := by decide +kernel
theorem dX8_init_49 : decode cX8_init 49 = .ok (.newarray .long, 2) := by decide +kernel
theorem dX8_init_51 : decode cX8_init 51 = .ok (.putfield 32, 3) := by decide +kernel
theorem dX8_init_54 : decode cX8_init 54 = .ok (.aload_n 0, 1) := by decide +kernel
theorem dX8_init_55 : decode cX8_init 55 = .ok (.bipush 60, 2) := by decide +kernel
theorem dX8_init_57 : decode cX8_init 57 = .ok (.newarray .long, 2) := by decide +kernel
theorem dX8_init_59 : decode cX8_init 59 = .ok (.putfield 35, 3) := by decide +kernel
theorem dX8_init_62 : decode cX8_init 62 = .ok (.aload_n 0, 1) := by decide +kernel
theorem dX8_init_63 : decode cX8_init 63 = .ok (.iconst 4, 1) := by decide +kernel
theorem dX8_init_64 : decode cX8_init 64 = .ok (.iconst 4, 1) := by decide +kernel
theorem dX8_init_65 : decode cX8_init 65 = .ok (.invokevirtual 38, 3) := by decide +kernel
theorem dX8_init_68 : decode cX8_init 68 = .ok (.return_, 1) := by decide +kernel
theorem dX8_lay_0 : decode cX8_lay 0 = .ok (.aload_n 0, 1) := by decide +kernel
theorem dX8_lay_1 : decode cX8_lay 1 = .ok (.iload_n 1, 1) := by decide +kernel
theorem dX8_lay_2 : decode cX8_lay 2 = .ok (.putfield 42, 3) := by decide +kernel
theorem dX8_lay_5 : decode cX8_lay 5 = .ok (.aload_n 0, 1) := by decide +kernel
theorem dX8_lay_6 : decode cX8_lay 6 = .ok (.iload_n 1, 1) := by decide +kernel
theorem dX8_lay_7 : decode cX8_lay 7 = .ok (.iload_n 2, 1) := by decide +kernel
theorem dX8_lay_8 : decode cX8_lay 8 = .ok (.imul, 1) := by decide +kernel
theorem dX8_lay_9 : decode cX8_lay 9 = .ok (.bipush 36, 2) := by decide +kernel
theorem dX8_lay_11 : decode cX8_lay 11 = .ok (.invokestatic 45, 3) := by decide +kernel
theorem dX8_lay_14 : decode cX8_lay 14 = .ok (.putfield 51, 3) := by decide +kernel
theorem dX8_lay_17 : decode cX8_lay 17 = .ok (.aload_n 0, 1) := by decide +kernel
theorem dX8_lay_18 : decode cX8_lay 18 = .ok (.lconst 1, 1) := by decide +kernel
theorem dX8_lay_19 : decode cX8_lay 19 = .ok (.aload_n 0, 1) := by decide +kernel
theorem dX8_lay_20 : decode cX8_lay 20 = .ok (.getfield 51, 3) := by decide +kernel
theorem dX8_lay_23 : decode cX8_lay 23 = .ok (.lshl, 1) := by decide +kernel
theorem dX8_lay_24 : decode cX8_lay 24 = .ok (.lconst 1, 1) := by decide +kernel
theorem dX8_lay_25 : decode cX8_lay 25 = .ok (.lsub, 1) := by decide +kernel
theorem dX8_lay_26 : decode cX8_lay 26 = .ok (.putfield 54, 3) := by decide +kernel
theorem dX8_lay_29 : decode cX8_lay 29 = .ok (.aload_n 0, 1) := by decide +kernel
theorem dX8_lay_30 : decode cX8_lay 30 = .ok (.invokevirtual 58, 3) := by decide +kernel
theorem dX8_lay_33 : decode cX8_lay 33 = .ok (.aload_n 0, 1) := by decide +kernel
theorem dX8_lay_34 : decode cX8_lay 34 = .ok (.iconst 0, 1) := by decide +kernel
theorem dX8_lay_35 : decode cX8_lay 35 = .ok (.putfield 61, 3) := by decide +kernel
theorem dX8_lay_38 : decode cX8_lay 38 = .ok (.aload_n 0, 1) := by decide +kernel
theorem dX8_lay_39 : decode cX8_lay 39 = .ok (.iconst 0, 1) := by decide +kernel
theorem dX8_lay_40 : decode cX8_lay 40 = .ok (.putfield 64, 3) := by decide +kernel
theorem dX8_lay_43 : decode cX8_lay 43 = .ok (.iconst 0, 1) := by decide +kernel
theorem dX8_lay_44 : decode cX8_lay 44 = .ok (.istore_n 3, 1) := by decide +kernel
theorem dX8_lay_45 : decode cX8_lay 45 = .ok (.iload_n 3, 1) := by decide +kernel
theorem dX8_lay_46 : decode cX8_lay 46 = .ok (.bipush 60, 2) := by decide +kernel
theorem dX8_lay_48 : decode cX8_lay 48 = .ok (.if_icmp .ge 23, 3) := by decide +kernel
theorem dX8_lay_51 : decode cX8_lay 51 = .ok (.aload_n 0, 1) := by decide +kernel
theorem dX8_lay_52 : decode cX8_lay 52 = .ok (.getfield 29, 3) := by decide +kernel
theorem dX8_lay_55 : decode cX8_lay 55 = .ok (.iload_n 3, 1) := by decide +kernel
theorem dX8_lay_56 : decode cX8_lay 56 = .ok (.lconst 0, 1) := by decide +kernel
theorem dX8_lay_57 : decode cX8_lay 57 = .ok (.lastore, 1) := by decide +kernel
theorem dX8_lay_58 : decode cX8_lay 58 = .ok (.aload_n 0, 1) := by decide +kernel
theorem dX8_lay_59 : decode cX8_lay 59 = .ok (.getfield 32, 3) := by decide +kernel
theorem dX8_lay_62 : decode cX8_lay 62 = .ok (.iload_n 3, 1) := by decide +kernel
theorem dX8_lay_63 : decode cX8_lay 63 = .ok (.lconst 0, 1) := by decide +kernel
theorem dX8_lay_64 : decode cX8_lay 64 = .ok (.lastore, 1) := by decide +kernel
theorem dX8_lay_65 : decode cX8_lay 65 = .ok (.iinc 3 1, 3) := by decide +kernel
theorem dX8_lay_68 : decode cX8_lay 68 = .ok (.goto (-23), 3) := by decide +kernel
theorem dX8_lay_71 : decode cX8_lay 71 = .ok (.aload_n 0, 1) := by decide +kernel
theorem dX8_lay_72 : decode cX8_lay 72 = .ok (.invokevirtual 67, 3) := by decide +kernel
theorem dX8_lay_75 : decode cX8_lay 75 = .ok (.aload_n 0, 1) := by decide +kernel
theorem dX8_lay_76 : decode cX8_lay 76 = .ok (.invokevirtual 70, 3) := by decide +kernel
theorem dX8_lay_79 : decode cX8_lay 79 = .ok (.return_, 1) := by decide +kernel
theorem dX8_placeCells_0 : decode cX8_placeCells 0 = .ok (.aload_n 0, 1) := by decide +kernel
theorem dX8_placeCells_1 : decode cX8_placeCells 1 = .ok (.lconst 0, 1) := by decide +kernel
theorem dX8_placeCells_2 : decode cX8_placeCells 2 = .ok (.putfield 73, 3) := by decide +kernel
theorem dX8_placeCells_5 : decode cX8_placeCells 5 = .ok (.aload_n 0, 1) := by decide +kernel
theorem dX8_placeCells_6 : decode cX8_placeCells 6 = .ok (.lconst 0, 1) := by decide +kernel
theorem dX8_placeCells_7 : decode cX8_placeCells 7 = .ok (.putfield 76, 3) := by decide +kernel
theorem dX8_placeCells_10 : decode cX8_placeCells 10 = .ok (.iconst 0, 1) := by decide +kernel
theorem dX8_placeCells_11 : decode cX8_placeCells 11 = .ok (.istore_n 1, 1) := by decide +kernel
theorem dX8_placeCells_12 : decode cX8_placeCells 12 = .ok (.iconst 0, 1) := by decide +kernel
theorem dX8_placeCells_13 : decode cX8_placeCells 13 = .ok (.istore_n 2, 1) := by decide +kernel
theorem dX8_placeCells_14 : decode cX8_placeCells 14 = .ok (.iconst 0, 1) := by decide +kernel
theorem dX8_placeCells_15 : decode cX8_placeCells 15 = .ok (.istore_n 3, 1) := by decide +kernel
theorem dX8_placeCells_16 : decode cX8_placeCells 16 = .ok (.iload_n 3, 1) := by decide +kernel
theorem dX8_placeCells_17 : decode cX8_placeCells 17 = .ok (.aload_n 0, 1) := by decide +kernel
theorem dX8_placeCells_18 : decode cX8_placeCells 18 = .ok (.getfield 51, 3) := by decide +kernel
theorem dX8_placeCells_21 : decode cX8_placeCells 21 = .ok (.if_icmp .ge 67, 3) := by decide +kernel
theorem dX8_placeCells_24 : decode cX8_placeCells 24 = .ok (.aload_n 0, 1) := by decide +kernel
theorem dX8_placeCells_25 : decode cX8_placeCells 25 = .ok (.getfield 18, 3) := by decide +kernel
theorem dX8_placeCells_28 : decode cX8_placeCells 28 = .ok (.iload_n 3, 1) := by decide +kernel
theorem dX8_placeCells_29 : decode cX8_placeCells 29 = .ok (.iload_n 1, 1) := by decide +kernel
theorem dX8_placeCells_30 : decode cX8_placeCells 30 = .ok (.iastore, 1) := by decide +kernel
theorem dX8_placeCells_31 : decode cX8_placeCells 31 = .ok (.aload_n 0, 1) := by decide +kernel
theorem dX8_placeCells_32 : decode cX8_placeCells 32 = .ok (.getfield 22, 3) := by decide +kernel
theorem dX8_placeCells_35 : decode cX8_placeCells 35 = .ok (.iload_n 3, 1) := by decide +kernel
theorem dX8_placeCells_36 : decode cX8_placeCells 36 = .ok (.iload_n 2, 1) := by decide +kernel
theorem dX8_placeCells_37 : decode cX8_placeCells 37 = .ok (.iastore, 1) := by decide +kernel
theorem dX8_placeCells_38 : decode cX8_placeCells 38 = .ok (.iload_n 1, 1) := by decide +kernel
theorem dX8_placeCells_39 : decode cX8_placeCells 39 = .ok (.ifCond .ne 15, 3) := by decide +kernel
theorem dX8_placeCells_42 : decode cX8_placeCells 42 = .ok (.aload_n 0, 1) := by decide +kernel
theorem dX8_placeCells_43 : decode cX8_placeCells 43 = .ok (.dup, 1) := by decide +kernel
theorem dX8_placeCells_44 : decode cX8_placeCells 44 = .ok (.getfield 73, 3) := by decide +kernel
theorem dX8_placeCells_47 : decode cX8_placeCells 47 = .ok (.lconst 1, 1) := by decide +kernel
theorem dX8_placeCells_48 : decode cX8_placeCells 48 = .ok (.iload_n 3, 1) := by decide +kernel
theorem dX8_placeCells_49 : decode cX8_placeCells 49 = .ok (.lshl, 1) := by decide +kernel
theorem dX8_placeCells_50 : decode cX8_placeCells 50 = .ok (.lor, 1) := by decide +kernel
theorem dX8_placeCells_51 : decode cX8_placeCells 51 = .ok (.putfield 73, 3) := by decide +kernel
theorem dX8_placeCells_54 : decode cX8_placeCells 54 = .ok (.iinc 1 1, 3) := by decide +kernel
theorem dX8_placeCells_57 : decode cX8_placeCells 57 = .ok (.iload_n 1, 1) := by decide +kernel
theorem dX8_placeCells_58 : decode cX8_placeCells 58 = .ok (.aload_n 0, 1) := by decide +kernel
theorem dX8_placeCells_59 : decode cX8_placeCells 59 = .ok (.getfield 42, 3) := by decide +kernel
theorem dX8_placeCells_62 : decode cX8_placeCells 62 = .ok (.if_icmp .ne 20, 3) := by decide +kernel
theorem dX8_placeCells_65 : decode cX8_placeCells 65 = .ok (.aload_n 0, 1) := by decide +kernel
theorem dX8_placeCells_66 : decode cX8_placeCells 66 = .ok (.dup, 1) := by decide +kernel
theorem dX8_placeCells_67 : decode cX8_placeCells 67 = .ok (.getfield 76, 3) := by decide +kernel
theorem dX8_placeCells_70 : decode cX8_placeCells 70 = .ok (.lconst 1, 1) := by decide +kernel
theorem dX8_placeCells_71 : decode cX8_placeCells 71 = .ok (.iload_n 3, 1) := by decide +kernel
theorem dX8_placeCells_72 : decode cX8_placeCells 72 = .ok (.lshl, 1) := by decide +kernel
theorem dX8_placeCells_73 : decode cX8_placeCells 73 = .ok (.lor, 1) := by decide +kernel
theorem dX8_placeCells_74 : decode cX8_placeCells 74 = .ok (.putfield 76, 3) := by decide +kernel
theorem dX8_placeCells_77 : decode cX8_placeCells 77 = .ok (.iconst 0, 1) := by decide +kernel
theorem dX8_placeCells_78 : decode cX8_placeCells 78 = .ok (.istore_n 1, 1) := by decide +kernel
theorem dX8_placeCells_79 : decode cX8_placeCells 79 = .ok (.iinc 2 1, 3) := by decide +kernel
theorem dX8_placeCells_82 : decode cX8_placeCells 82 = .ok (.iinc 3 1, 3) := by decide +kernel
theorem dX8_placeCells_85 : decode cX8_placeCells 85 = .ok (.goto (-69), 3) := by decide +kernel
theorem dX8_placeCells_88 : decode cX8_placeCells 88 = .ok (.return_, 1) := by decide +kernel
theorem dX8_hasCell_0 : decode cX8_hasCell 0 = .ok (.iload_n 1, 1) := by decide +kernel
theorem dX8_hasCell_1 : decode cX8_hasCell 1 = .ok (.ifCond .lt 15, 3) := by decide +kernel
theorem dX8_hasCell_4 : decode cX8_hasCell 4 = .ok (.iload_n 1, 1) := by decide +kernel
theorem dX8_hasCell_5 : decode cX8_hasCell 5 = .ok (.aload_n 0, 1) := by decide +kernel
theorem dX8_hasCell_6 : decode cX8_hasCell 6 = .ok (.getfield 51, 3) := by decide +kernel
theorem dX8_hasCell_9 : decode cX8_hasCell 9 = .ok (.if_icmp .ge 7, 3) := by decide +kernel
theorem dX8_hasCell_12 : decode cX8_hasCell 12 = .ok (.iconst 1, 1) := by decide +kernel
theorem dX8_hasCell_13 : decode cX8_hasCell 13 = .ok (.goto 4, 3) := by decide +kernel
theorem dX8_hasCell_16 : decode cX8_hasCell 16 = .ok (.iconst 0, 1) := by decide +kernel
theorem dX8_hasCell_17 : decode cX8_hasCell 17 = .ok (.ireturn, 1) := by decide +kernel
theorem dX8_addShut_0 : decode cX8_addShut 0 = .ok (.aload_n 0, 1) := by decide +kernel
theorem dX8_addShut_1 : decode cX8_addShut 1 = .ok (.getfield 29, 3) := by decide +kernel
theorem dX8_addShut_4 : decode cX8_addShut 4 = .ok (.iload_n 1, 1) := by decide +kernel
theorem dX8_addShut_5 : decode cX8_addShut 5 = .ok (.iload_n 2, 1) := by decide +kernel
theorem dX8_addShut_6 : decode cX8_addShut 6 = .ok (.iload_n 3, 1) := by decide +kernel
theorem dX8_addShut_7 : decode cX8_addShut 7 = .ok (.invokestatic 79, 3) := by decide +kernel
theorem dX8_addShut_10 : decode cX8_addShut 10 = .ok (.aload_n 0, 1) := by decide +kernel
theorem dX8_addShut_11 : decode cX8_addShut 11 = .ok (.dup, 1) := by decide +kernel
theorem dX8_addShut_12 : decode cX8_addShut 12 = .ok (.getfield 61, 3) := by decide +kernel
theorem dX8_addShut_15 : decode cX8_addShut 15 = .ok (.iconst 1, 1) := by decide +kernel
theorem dX8_addShut_16 : decode cX8_addShut 16 = .ok (.iadd, 1) := by decide +kernel
theorem dX8_addShut_17 : decode cX8_addShut 17 = .ok (.putfield 61, 3) := by decide +kernel
theorem dX8_addShut_20 : decode cX8_addShut 20 = .ok (.aload_n 0, 1) := by decide +kernel
theorem dX8_addShut_21 : decode cX8_addShut 21 = .ok (.invokevirtual 70, 3) := by decide +kernel
theorem dX8_addShut_24 : decode cX8_addShut 24 = .ok (.aload_n 0, 1) := by decide +kernel
theorem dX8_addShut_25 : decode cX8_addShut 25 = .ok (.getfield 61, 3) := by decide +kernel
theorem dX8_addShut_28 : decode cX8_addShut 28 = .ok (.ireturn, 1) := by decide +kernel
theorem dX8_addFolk_0 : decode cX8_addFolk 0 = .ok (.aload_n 0, 1) := by decide +kernel
theorem dX8_addFolk_1 : decode cX8_addFolk 1 = .ok (.getfield 32, 3) := by decide +kernel
theorem dX8_addFolk_4 : decode cX8_addFolk 4 = .ok (.iload_n 1, 1) := by decide +kernel
theorem dX8_addFolk_5 : decode cX8_addFolk 5 = .ok (.iload_n 2, 1) := by decide +kernel
theorem dX8_addFolk_6 : decode cX8_addFolk 6 = .ok (.iload_n 3, 1) := by decide +kernel
theorem dX8_addFolk_7 : decode cX8_addFolk 7 = .ok (.invokestatic 79, 3) := by decide +kernel
theorem dX8_addFolk_10 : decode cX8_addFolk 10 = .ok (.aload_n 0, 1) := by decide +kernel
theorem dX8_addFolk_11 : decode cX8_addFolk 11 = .ok (.dup, 1) := by decide +kernel
theorem dX8_addFolk_12 : decode cX8_addFolk 12 = .ok (.getfield 64, 3) := by decide +kernel
theorem dX8_addFolk_15 : decode cX8_addFolk 15 = .ok (.iconst 1, 1) := by decide +kernel
theorem dX8_addFolk_16 : decode cX8_addFolk 16 = .ok (.iadd, 1) := by decide +kernel
theorem dX8_addFolk_17 : decode cX8_addFolk 17 = .ok (.putfield 64, 3) := by decide +kernel
theorem dX8_addFolk_20 : decode cX8_addFolk 20 = .ok (.aload_n 0, 1) := by decide +kernel
theorem dX8_addFolk_21 : decode cX8_addFolk 21 = .ok (.invokevirtual 70, 3) := by decide +kernel
theorem dX8_addFolk_24 : decode cX8_addFolk 24 = .ok (.aload_n 0, 1) := by decide +kernel
theorem dX8_addFolk_25 : decode cX8_addFolk 25 = .ok (.getfield 64, 3) := by decide +kernel
theorem dX8_addFolk_28 : decode cX8_addFolk 28 = .ok (.ireturn, 1) := by decide +kernel
theorem dX8_mark_0 : decode cX8_mark 0 = .ok (.iload_n 2, 1) := by decide +kernel
theorem dX8_mark_1 : decode cX8_mark 1 = .ok (.iconst 0, 1) := by decide +kernel
theorem dX8_mark_2 : decode cX8_mark 2 = .ok (.invokestatic 83, 3) := by decide +kernel
theorem dX8_mark_5 : decode cX8_mark 5 = .ok (.istore 4, 2) := by decide +kernel
theorem dX8_mark_7 : decode cX8_mark 7 = .ok (.iload 4, 2) := by decide +kernel
theorem dX8_mark_9 : decode cX8_mark 9 = .ok (.iload_n 3, 1) := by decide +kernel
theorem dX8_mark_10 : decode cX8_mark 10 = .ok (.if_icmp .gt 26, 3) := by decide +kernel
theorem dX8_mark_13 : decode cX8_mark 13 = .ok (.iload 4, 2) := by decide +kernel
theorem dX8_mark_15 : decode cX8_mark 15 = .ok (.bipush 60, 2) := by decide +kernel
theorem dX8_mark_17 : decode cX8_mark 17 = .ok (.if_icmp .ge 19, 3) := by decide +kernel
theorem dX8_mark_20 : decode cX8_mark 20 = .ok (.aload_n 0, 1) := by decide +kernel
theorem dX8_mark_21 : decode cX8_mark 21 = .ok (.iload 4, 2) := by decide +kernel
theorem dX8_mark_23 : decode cX8_mark 23 = .ok (.dup2, 1) := by decide +kernel
theorem dX8_mark_24 : decode cX8_mark 24 = .ok (.laload, 1) := by decide +kernel
theorem dX8_mark_25 : decode cX8_mark 25 = .ok (.lconst 1, 1) := by decide +kernel
theorem dX8_mark_26 : decode cX8_mark 26 = .ok (.iload_n 1, 1) := by decide +kernel
theorem dX8_mark_27 : decode cX8_mark 27 = .ok (.lshl, 1) := by decide +kernel
theorem dX8_mark_28 : decode cX8_mark 28 = .ok (.lor, 1) := by decide +kernel
theorem dX8_mark_29 : decode cX8_mark 29 = .ok (.lastore, 1) := by decide +kernel
theorem dX8_mark_30 : decode cX8_mark 30 = .ok (.iinc 4 1, 3) := by decide +kernel
theorem dX8_mark_33 : decode cX8_mark 33 = .ok (.goto (-26), 3) := by decide +kernel
theorem dX8_mark_36 : decode cX8_mark 36 = .ok (.return_, 1) := by decide +kernel
theorem dX8_changeGlide_0 : decode cX8_changeGlide 0 = .ok (.aload_n 0, 1) := by decide +kernel
theorem dX8_changeGlide_1 : decode cX8_changeGlide 1 = .ok (.getfield 9, 3) := by decide +kernel
theorem dX8_changeGlide_4 : decode cX8_changeGlide 4 = .ok (.istore_n 2, 1) := by decide +kernel
theorem dX8_changeGlide_5 : decode cX8_changeGlide 5 = .ok (.aload_n 0, 1) := by decide +kernel
theorem dX8_changeGlide_6 : decode cX8_changeGlide 6 = .ok (.iload_n 1, 1) := by decide +kernel
theorem dX8_changeGlide_7 : decode cX8_changeGlide 7 = .ok (.putfield 9, 3) := by decide +kernel
theorem dX8_changeGlide_10 : decode cX8_changeGlide 10 = .ok (.aload_n 0, 1) := by decide +kernel
theorem dX8_changeGlide_11 : decode cX8_changeGlide 11 = .ok (.invokevirtual 70, 3) := by decide +kernel
theorem dX8_changeGlide_14 : decode cX8_changeGlide 14 = .ok (.iload_n 2, 1) := by decide +kernel
theorem dX8_changeGlide_15 : decode cX8_changeGlide 15 = .ok (.ireturn, 1) := by decide +kernel
theorem dX8_changeNear_0 : decode cX8_changeNear 0 = .ok (.aload_n 0, 1) := by decide +kernel
theorem dX8_changeNear_1 : decode cX8_changeNear 1 = .ok (.getfield 15, 3) := by decide +kernel
theorem dX8_changeNear_4 : decode cX8_changeNear 4 = .ok (.istore_n 2, 1) := by decide +kernel
theorem dX8_changeNear_5 : decode cX8_changeNear 5 = .ok (.aload_n 0, 1) := by decide +kernel
theorem dX8_changeNear_6 : decode cX8_changeNear 6 = .ok (.iload_n 1, 1) := by decide +kernel
theorem dX8_changeNear_7 : decode cX8_changeNear 7 = .ok (.putfield 15, 3) := by decide +kernel
theorem dX8_changeNear_10 : decode cX8_changeNear 10 = .ok (.aload_n 0, 1) := by decide +kernel
theorem dX8_changeNear_11 : decode cX8_changeNear 11 = .ok (.invokevirtual 67, 3) := by decide +kernel
theorem dX8_changeNear_14 : decode cX8_changeNear 14 = .ok (.iload_n 2, 1) := by decide +kernel
theorem dX8_changeNear_15 : decode cX8_changeNear 15 = .ok (.ireturn, 1) := by decide +kernel
theorem dX8_refreshNear_0 : decode cX8_refreshNear 0 = .ok (.iconst 0, 1) := by decide +kernel
theorem dX8_refreshNear_1 : decode cX8_refreshNear 1 = .ok (.istore_n 1, 1) := by decide +kernel
theorem dX8_refreshNear_2 : decode cX8_refreshNear 2 = .ok (.iload_n 1, 1) := by decide +kernel
theorem dX8_refreshNear_3 : decode cX8_refreshNear 3 = .ok (.aload_n 0, 1) := by decide +kernel
theorem dX8_refreshNear_4 : decode cX8_refreshNear 4 = .ok (.getfield 51, 3) := by decide +kernel
theorem dX8_refreshNear_7 : decode cX8_refreshNear 7 = .ok (.if_icmp .ge 57, 3) := by decide +kernel
theorem dX8_refreshNear_10 : decode cX8_refreshNear 10 = .ok (.lconst 0, 1) := by decide +kernel
theorem dX8_refreshNear_11 : decode cX8_refreshNear 11 = .ok (.lstore_n 2, 1) := by decide +kernel
theorem dX8_refreshNear_12 : decode cX8_refreshNear 12 = .ok (.iconst 0, 1) := by decide +kernel
theorem dX8_refreshNear_13 : decode cX8_refreshNear 13 = .ok (.istore 4, 2) := by decide +kernel
theorem dX8_refreshNear_15 : decode cX8_refreshNear 15 = .ok (.iload 4, 2) := by decide +kernel
theorem dX8_refreshNear_17 : decode cX8_refreshNear 17 = .ok (.aload_n 0, 1) := by decide +kernel
theorem dX8_refreshNear_18 : decode cX8_refreshNear 18 = .ok (.getfield 51, 3) := by decide +kernel
theorem dX8_refreshNear_21 : decode cX8_refreshNear 21 = .ok (.if_icmp .ge 30, 3) := by decide +kernel
theorem dX8_refreshNear_24 : decode cX8_refreshNear 24 = .ok (.aload_n 0, 1) := by decide +kernel
theorem dX8_refreshNear_25 : decode cX8_refreshNear 25 = .ok (.iload_n 1, 1) := by decide +kernel
theorem dX8_refreshNear_26 : decode cX8_refreshNear 26 = .ok (.iload 4, 2) := by decide +kernel
theorem dX8_refreshNear_28 : decode cX8_refreshNear 28 = .ok (.invokevirtual 86, 3) := by decide +kernel
theorem dX8_refreshNear_31 : decode cX8_refreshNear 31 = .ok (.aload_n 0, 1) := by decide +kernel
theorem dX8_refreshNear_32 : decode cX8_refreshNear 32 = .ok (.getfield 15, 3) := by decide +kernel
theorem dX8_refreshNear_35 : decode cX8_refreshNear 35 = .ok (.if_icmp .gt 10, 3) := by decide +kernel
theorem dX8_refreshNear_38 : decode cX8_refreshNear 38 = .ok (.lload_n 2, 1) := by decide +kernel
theorem dX8_refreshNear_39 : decode cX8_refreshNear 39 = .ok (.lconst 1, 1) := by decide +kernel
theorem dX8_refreshNear_40 : decode cX8_refreshNear 40 = .ok (.iload 4, 2) := by decide +kernel
theorem dX8_refreshNear_42 : decode cX8_refreshNear 42 = .ok (.lshl, 1) := by decide +kernel
theorem dX8_refreshNear_43 : decode cX8_refreshNear 43 = .ok (.lor, 1) := by decide +kernel
theorem dX8_refreshNear_44 : decode cX8_refreshNear 44 = .ok (.lstore_n 2, 1) := by decide +kernel
theorem dX8_refreshNear_45 : decode cX8_refreshNear 45 = .ok (.iinc 4 1, 3) := by decide +kernel
theorem dX8_refreshNear_48 : decode cX8_refreshNear 48 = .ok (.goto (-33), 3) := by decide +kernel
theorem dX8_refreshNear_51 : decode cX8_refreshNear 51 = .ok (.aload_n 0, 1) := by decide +kernel
theorem dX8_refreshNear_52 : decode cX8_refreshNear 52 = .ok (.getfield 25, 3) := by decide +kernel
theorem dX8_refreshNear_55 : decode cX8_refreshNear 55 = .ok (.iload_n 1, 1) := by decide +kernel
theorem dX8_refreshNear_56 : decode cX8_refreshNear 56 = .ok (.lload_n 2, 1) := by decide +kernel
theorem dX8_refreshNear_57 : decode cX8_refreshNear 57 = .ok (.lastore, 1) := by decide +kernel
theorem dX8_refreshNear_58 : decode cX8_refreshNear 58 = .ok (.iinc 1 1, 3) := by decide +kernel
theorem dX8_refreshNear_61 : decode cX8_refreshNear 61 = .ok (.goto (-59), 3) := by decide +kernel
theorem dX8_refreshNear_64 : decode cX8_refreshNear 64 = .ok (.return_, 1) := by decide +kernel
theorem dX8_refreshOpen_0 : decode cX8_refreshOpen 0 = .ok (.iconst 0, 1) := by decide +kernel
theorem dX8_refreshOpen_1 : decode cX8_refreshOpen 1 = .ok (.istore_n 1, 1) := by decide +kernel
theorem dX8_refreshOpen_2 : decode cX8_refreshOpen 2 = .ok (.iload_n 1, 1) := by decide +kernel
theorem dX8_refreshOpen_3 : decode cX8_refreshOpen 3 = .ok (.bipush 60, 2) := by decide +kernel
theorem dX8_refreshOpen_5 : decode cX8_refreshOpen 5 = .ok (.if_icmp .ge 57, 3) := by decide +kernel
theorem dX8_refreshOpen_8 : decode cX8_refreshOpen 8 = .ok (.lconst 0, 1) := by decide +kernel
theorem dX8_refreshOpen_9 : decode cX8_refreshOpen 9 = .ok (.lstore_n 2, 1) := by decide +kernel
theorem dX8_refreshOpen_10 : decode cX8_refreshOpen 10 = .ok (.iconst 0, 1) := by decide +kernel
theorem dX8_refreshOpen_11 : decode cX8_refreshOpen 11 = .ok (.istore 4, 2) := by decide +kernel
theorem dX8_refreshOpen_13 : decode cX8_refreshOpen 13 = .ok (.iload 4, 2) := by decide +kernel
theorem dX8_refreshOpen_15 : decode cX8_refreshOpen 15 = .ok (.aload_n 0, 1) := by decide +kernel
theorem dX8_refreshOpen_16 : decode cX8_refreshOpen 16 = .ok (.getfield 9, 3) := by decide +kernel
theorem dX8_refreshOpen_19 : decode cX8_refreshOpen 19 = .ok (.if_icmp .gt 19, 3) := by decide +kernel
theorem dX8_refreshOpen_22 : decode cX8_refreshOpen 22 = .ok (.lload_n 2, 1) := by decide +kernel
theorem dX8_refreshOpen_23 : decode cX8_refreshOpen 23 = .ok (.aload_n 0, 1) := by decide +kernel
theorem dX8_refreshOpen_24 : decode cX8_refreshOpen 24 = .ok (.iload 4, 2) := by decide +kernel
theorem dX8_refreshOpen_26 : decode cX8_refreshOpen 26 = .ok (.iload_n 1, 1) := by decide +kernel
theorem dX8_refreshOpen_27 : decode cX8_refreshOpen 27 = .ok (.invokevirtual 89, 3) := by decide +kernel
theorem dX8_refreshOpen_30 : decode cX8_refreshOpen 30 = .ok (.lor, 1) := by decide +kernel
theorem dX8_refreshOpen_31 : decode cX8_refreshOpen 31 = .ok (.lstore_n 2, 1) := by decide +kernel
theorem dX8_refreshOpen_32 : decode cX8_refreshOpen 32 = .ok (.iinc 4 1, 3) := by decide +kernel
theorem dX8_refreshOpen_35 : decode cX8_refreshOpen 35 = .ok (.goto (-22), 3) := by decide +kernel
theorem dX8_refreshOpen_38 : decode cX8_refreshOpen 38 = .ok (.aload_n 0, 1) := by decide +kernel
theorem dX8_refreshOpen_39 : decode cX8_refreshOpen 39 = .ok (.getfield 35, 3) := by decide +kernel
theorem dX8_refreshOpen_42 : decode cX8_refreshOpen 42 = .ok (.iload_n 1, 1) := by decide +kernel
theorem dX8_refreshOpen_43 : decode cX8_refreshOpen 43 = .ok (.lload_n 2, 1) := by decide +kernel
theorem dX8_refreshOpen_44 : decode cX8_refreshOpen 44 = .ok (.aload_n 0, 1) := by decide +kernel
theorem dX8_refreshOpen_45 : decode cX8_refreshOpen 45 = .ok (.getfield 29, 3) := by decide +kernel
theorem dX8_refreshOpen_48 : decode cX8_refreshOpen 48 = .ok (.iload_n 1, 1) := by decide +kernel
theorem dX8_refreshOpen_49 : decode cX8_refreshOpen 49 = .ok (.laload, 1) := by decide +kernel
theorem dX8_refreshOpen_50 : decode cX8_refreshOpen 50 = .ok (.ldc2_w 93, 3) := by decide +kernel
theorem dX8_refreshOpen_53 : decode cX8_refreshOpen 53 = .ok (.lxor, 1) := by decide +kernel
theorem dX8_refreshOpen_54 : decode cX8_refreshOpen 54 = .ok (.land, 1) := by decide +kernel
theorem dX8_refreshOpen_55 : decode cX8_refreshOpen 55 = .ok (.lastore, 1) := by decide +kernel
theorem dX8_refreshOpen_56 : decode cX8_refreshOpen 56 = .ok (.iinc 1 1, 3) := by decide +kernel
theorem dX8_refreshOpen_59 : decode cX8_refreshOpen 59 = .ok (.goto (-57), 3) := by decide +kernel
theorem dX8_refreshOpen_62 : decode cX8_refreshOpen 62 = .ok (.return_, 1) := by decide +kernel
theorem dX8_downBy_0 : decode cX8_downBy 0 = .ok (.iload_n 2, 1) := by decide +kernel
theorem dX8_downBy_1 : decode cX8_downBy 1 = .ok (.iload_n 1, 1) := by decide +kernel
theorem dX8_downBy_2 : decode cX8_downBy 2 = .ok (.iadd, 1) := by decide +kernel
theorem dX8_downBy_3 : decode cX8_downBy 3 = .ok (.istore_n 3, 1) := by decide +kernel
theorem dX8_downBy_4 : decode cX8_downBy 4 = .ok (.iload_n 3, 1) := by decide +kernel
theorem dX8_downBy_5 : decode cX8_downBy 5 = .ok (.invokestatic 95, 3) := by decide +kernel
theorem dX8_downBy_8 : decode cX8_downBy 8 = .ok (.ifCond .eq 21, 3) := by decide +kernel
theorem dX8_downBy_11 : decode cX8_downBy 11 = .ok (.aload_n 0, 1) := by decide +kernel
theorem dX8_downBy_12 : decode cX8_downBy 12 = .ok (.getfield 54, 3) := by decide +kernel
theorem dX8_downBy_15 : decode cX8_downBy 15 = .ok (.aload_n 0, 1) := by decide +kernel
theorem dX8_downBy_16 : decode cX8_downBy 16 = .ok (.getfield 32, 3) := by decide +kernel
theorem dX8_downBy_19 : decode cX8_downBy 19 = .ok (.iload_n 3, 1) := by decide +kernel
theorem dX8_downBy_20 : decode cX8_downBy 20 = .ok (.laload, 1) := by decide +kernel
theorem dX8_downBy_21 : decode cX8_downBy 21 = .ok (.ldc2_w 93, 3) := by decide +kernel
theorem dX8_downBy_24 : decode cX8_downBy 24 = .ok (.lxor, 1) := by decide +kernel
theorem dX8_downBy_25 : decode cX8_downBy 25 = .ok (.land, 1) := by decide +kernel
theorem dX8_downBy_26 : decode cX8_downBy 26 = .ok (.goto 7, 3) := by decide +kernel
theorem dX8_downBy_29 : decode cX8_downBy 29 = .ok (.aload_n 0, 1) := by decide +kernel
theorem dX8_downBy_30 : decode cX8_downBy 30 = .ok (.getfield 54, 3) := by decide +kernel
theorem dX8_downBy_33 : decode cX8_downBy 33 = .ok (.lstore 4, 2) := by decide +kernel
theorem dX8_downBy_35 : decode cX8_downBy 35 = .ok (.iconst 0, 1) := by decide +kernel
theorem dX8_downBy_36 : decode cX8_downBy 36 = .ok (.istore 6, 2) := by decide +kernel
theorem dX8_downBy_38 : decode cX8_downBy 38 = .ok (.iload 6, 2) := by decide +kernel
theorem dX8_downBy_40 : decode cX8_downBy 40 = .ok (.iload_n 1, 1) := by decide +kernel
theorem dX8_downBy_41 : decode cX8_downBy 41 = .ok (.if_icmp .ge 17, 3) := by decide +kernel
theorem dX8_downBy_44 : decode cX8_downBy 44 = .ok (.aload_n 0, 1) := by decide +kernel
theorem dX8_downBy_45 : decode cX8_downBy 45 = .ok (.lload 4, 2) := by decide +kernel
theorem dX8_downBy_47 : decode cX8_downBy 47 = .ok (.invokevirtual 99, 3) := by decide +kernel
theorem dX8_downBy_50 : decode cX8_downBy 50 = .ok (.lstore 4, 2) := by decide +kernel
theorem dX8_downBy_52 : decode cX8_downBy 52 = .ok (.iinc 6 1, 3) := by decide +kernel
theorem dX8_downBy_55 : decode cX8_downBy 55 = .ok (.goto (-17), 3) := by decide +kernel
theorem dX8_downBy_58 : decode cX8_downBy 58 = .ok (.lload 4, 2) := by decide +kernel
theorem dX8_downBy_60 : decode cX8_downBy 60 = .ok (.lreturn, 1) := by decide +kernel
theorem dX8_stepsDown_0 : decode cX8_stepsDown 0 = .ok (.iconst 0, 1) := by decide +kernel
theorem dX8_stepsDown_1 : decode cX8_stepsDown 1 = .ok (.istore_n 3, 1) := by decide +kernel
theorem dX8_stepsDown_2 : decode cX8_stepsDown 2 = .ok (.iload_n 3, 1) := by decide +kernel
theorem dX8_stepsDown_3 : decode cX8_stepsDown 3 = .ok (.aload_n 0, 1) := by decide +kernel
theorem dX8_stepsDown_4 : decode cX8_stepsDown 4 = .ok (.getfield 9, 3) := by decide +kernel
theorem dX8_stepsDown_7 : decode cX8_stepsDown 7 = .ok (.if_icmp .gt 24, 3) := by decide +kernel
theorem dX8_stepsDown_10 : decode cX8_stepsDown 10 = .ok (.aload_n 0, 1) := by decide +kernel
theorem dX8_stepsDown_11 : decode cX8_stepsDown 11 = .ok (.iload_n 3, 1) := by decide +kernel
theorem dX8_stepsDown_12 : decode cX8_stepsDown 12 = .ok (.iload_n 2, 1) := by decide +kernel
theorem dX8_stepsDown_13 : decode cX8_stepsDown 13 = .ok (.invokevirtual 89, 3) := by decide +kernel
theorem dX8_stepsDown_16 : decode cX8_stepsDown 16 = .ok (.iload_n 1, 1) := by decide +kernel
theorem dX8_stepsDown_17 : decode cX8_stepsDown 17 = .ok (.invokestatic 103, 3) := by decide +kernel
theorem dX8_stepsDown_20 : decode cX8_stepsDown 20 = .ok (.ifCond .eq 5, 3) := by decide +kernel
theorem dX8_stepsDown_23 : decode cX8_stepsDown 23 = .ok (.iload_n 3, 1) := by decide +kernel
theorem dX8_stepsDown_24 : decode cX8_stepsDown 24 = .ok (.ireturn, 1) := by decide +kernel
theorem dX8_stepsDown_25 : decode cX8_stepsDown 25 = .ok (.iinc 3 1, 3) := by decide +kernel
theorem dX8_stepsDown_28 : decode cX8_stepsDown 28 = .ok (.goto (-26), 3) := by decide +kernel
theorem dX8_stepsDown_31 : decode cX8_stepsDown 31 = .ok (.ldc 107, 2) := by decide +kernel
theorem dX8_stepsDown_33 : decode cX8_stepsDown 33 = .ok (.ireturn, 1) := by decide +kernel
theorem dX8_besideOf_0 : decode cX8_besideOf 0 = .ok (.lload_n 1, 1) := by decide +kernel
theorem dX8_besideOf_1 : decode cX8_besideOf 1 = .ok (.aload_n 0, 1) := by decide +kernel
theorem dX8_besideOf_2 : decode cX8_besideOf 2 = .ok (.getfield 76, 3) := by decide +kernel
theorem dX8_besideOf_5 : decode cX8_besideOf 5 = .ok (.ldc2_w 93, 3) := by decide +kernel
theorem dX8_besideOf_8 : decode cX8_besideOf 8 = .ok (.lxor, 1) := by decide +kernel
theorem dX8_besideOf_9 : decode cX8_besideOf 9 = .ok (.land, 1) := by decide +kernel
theorem dX8_besideOf_10 : decode cX8_besideOf 10 = .ok (.iconst 1, 1) := by decide +kernel
theorem dX8_besideOf_11 : decode cX8_besideOf 11 = .ok (.lshl, 1) := by decide +kernel
theorem dX8_besideOf_12 : decode cX8_besideOf 12 = .ok (.lload_n 1, 1) := by decide +kernel
theorem dX8_besideOf_13 : decode cX8_besideOf 13 = .ok (.aload_n 0, 1) := by decide +kernel
theorem dX8_besideOf_14 : decode cX8_besideOf 14 = .ok (.getfield 42, 3) := by decide +kernel
theorem dX8_besideOf_17 : decode cX8_besideOf 17 = .ok (.lshl, 1) := by decide +kernel
theorem dX8_besideOf_18 : decode cX8_besideOf 18 = .ok (.lor, 1) := by decide +kernel
theorem dX8_besideOf_19 : decode cX8_besideOf 19 = .ok (.lload_n 1, 1) := by decide +kernel
theorem dX8_besideOf_20 : decode cX8_besideOf 20 = .ok (.aload_n 0, 1) := by decide +kernel
theorem dX8_besideOf_21 : decode cX8_besideOf 21 = .ok (.getfield 73, 3) := by decide +kernel
theorem dX8_besideOf_24 : decode cX8_besideOf 24 = .ok (.ldc2_w 93, 3) := by decide +kernel
theorem dX8_besideOf_27 : decode cX8_besideOf 27 = .ok (.lxor, 1) := by decide +kernel
theorem dX8_besideOf_28 : decode cX8_besideOf 28 = .ok (.land, 1) := by decide +kernel
theorem dX8_besideOf_29 : decode cX8_besideOf 29 = .ok (.iconst 1, 1) := by decide +kernel
theorem dX8_besideOf_30 : decode cX8_besideOf 30 = .ok (.lushr, 1) := by decide +kernel
theorem dX8_besideOf_31 : decode cX8_besideOf 31 = .ok (.lor, 1) := by decide +kernel
theorem dX8_besideOf_32 : decode cX8_besideOf 32 = .ok (.lload_n 1, 1) := by decide +kernel
theorem dX8_besideOf_33 : decode cX8_besideOf 33 = .ok (.aload_n 0, 1) := by decide +kernel
theorem dX8_besideOf_34 : decode cX8_besideOf 34 = .ok (.getfield 42, 3) := by decide +kernel
theorem dX8_besideOf_37 : decode cX8_besideOf 37 = .ok (.lushr, 1) := by decide +kernel
theorem dX8_besideOf_38 : decode cX8_besideOf 38 = .ok (.lor, 1) := by decide +kernel
theorem dX8_besideOf_39 : decode cX8_besideOf 39 = .ok (.lstore_n 3, 1) := by decide +kernel
theorem dX8_besideOf_40 : decode cX8_besideOf 40 = .ok (.lload_n 3, 1) := by decide +kernel
theorem dX8_besideOf_41 : decode cX8_besideOf 41 = .ok (.aload_n 0, 1) := by decide +kernel
theorem dX8_besideOf_42 : decode cX8_besideOf 42 = .ok (.getfield 54, 3) := by decide +kernel
theorem dX8_besideOf_45 : decode cX8_besideOf 45 = .ok (.land, 1) := by decide +kernel
theorem dX8_besideOf_46 : decode cX8_besideOf 46 = .ok (.lreturn, 1) := by decide +kernel
theorem dX8_stepFrom_0 : decode cX8_stepFrom 0 = .ok (.iload_n 1, 1) := by decide +kernel
theorem dX8_stepFrom_1 : decode cX8_stepFrom 1 = .ok (.ifCond .lt 11, 3) := by decide +kernel
theorem dX8_stepFrom_4 : decode cX8_stepFrom 4 = .ok (.iload_n 1, 1) := by decide +kernel
theorem dX8_stepFrom_5 : decode cX8_stepFrom 5 = .ok (.aload_n 0, 1) := by decide +kernel
theorem dX8_stepFrom_6 : decode cX8_stepFrom 6 = .ok (.getfield 51, 3) := by decide +kernel
theorem dX8_stepFrom_9 : decode cX8_stepFrom 9 = .ok (.if_icmp .lt 5, 3) := by decide +kernel
theorem dX8_stepFrom_12 : decode cX8_stepFrom 12 = .ok (.iconst (-1), 1) := by decide +kernel
theorem dX8_stepFrom_13 : decode cX8_stepFrom 13 = .ok (.ireturn, 1) := by decide +kernel
theorem dX8_stepFrom_14 : decode cX8_stepFrom 14 = .ok (.iload_n 2, 1) := by decide +kernel
theorem dX8_stepFrom_15 : decode cX8_stepFrom 15 = .ok (.tableswitch 113 0 3 #[29, 52, 76, 93], 29) := by decide +kernel
theorem dX8_stepFrom_44 : decode cX8_stepFrom 44 = .ok (.aload_n 0, 1) := by decide +kernel
theorem dX8_stepFrom_45 : decode cX8_stepFrom 45 = .ok (.getfield 18, 3) := by decide +kernel
theorem dX8_stepFrom_48 : decode cX8_stepFrom 48 = .ok (.iload_n 1, 1) := by decide +kernel
theorem dX8_stepFrom_49 : decode cX8_stepFrom 49 = .ok (.iaload, 1) := by decide +kernel
theorem dX8_stepFrom_50 : decode cX8_stepFrom 50 = .ok (.iconst 1, 1) := by decide +kernel
theorem dX8_stepFrom_51 : decode cX8_stepFrom 51 = .ok (.iadd, 1) := by decide +kernel
theorem dX8_stepFrom_52 : decode cX8_stepFrom 52 = .ok (.aload_n 0, 1) := by decide +kernel
theorem dX8_stepFrom_53 : decode cX8_stepFrom 53 = .ok (.getfield 42, 3) := by decide +kernel
theorem dX8_stepFrom_56 : decode cX8_stepFrom 56 = .ok (.if_icmp .ge 9, 3) := by decide +kernel
theorem dX8_stepFrom_59 : decode cX8_stepFrom 59 = .ok (.iload_n 1, 1) := by decide +kernel
theorem dX8_stepFrom_60 : decode cX8_stepFrom 60 = .ok (.iconst 1, 1) := by decide +kernel
theorem dX8_stepFrom_61 : decode cX8_stepFrom 61 = .ok (.iadd, 1) := by decide +kernel
theorem dX8_stepFrom_62 : decode cX8_stepFrom 62 = .ok (.goto 4, 3) := by decide +kernel
theorem dX8_stepFrom_65 : decode cX8_stepFrom 65 = .ok (.iconst (-1), 1) := by decide +kernel
theorem dX8_stepFrom_66 : decode cX8_stepFrom 66 = .ok (.ireturn, 1) := by decide +kernel
theorem dX8_stepFrom_67 : decode cX8_stepFrom 67 = .ok (.iload_n 1, 1) := by decide +kernel
theorem dX8_stepFrom_68 : decode cX8_stepFrom 68 = .ok (.aload_n 0, 1) := by decide +kernel
theorem dX8_stepFrom_69 : decode cX8_stepFrom 69 = .ok (.getfield 42, 3) := by decide +kernel
theorem dX8_stepFrom_72 : decode cX8_stepFrom 72 = .ok (.iadd, 1) := by decide +kernel
theorem dX8_stepFrom_73 : decode cX8_stepFrom 73 = .ok (.aload_n 0, 1) := by decide +kernel
theorem dX8_stepFrom_74 : decode cX8_stepFrom 74 = .ok (.getfield 51, 3) := by decide +kernel
theorem dX8_stepFrom_77 : decode cX8_stepFrom 77 = .ok (.if_icmp .ge 12, 3) := by decide +kernel
theorem dX8_stepFrom_80 : decode cX8_stepFrom 80 = .ok (.iload_n 1, 1) := by decide +kernel
theorem dX8_stepFrom_81 : decode cX8_stepFrom 81 = .ok (.aload_n 0, 1) := by decide +kernel
theorem dX8_stepFrom_82 : decode cX8_stepFrom 82 = .ok (.getfield 42, 3) := by decide +kernel
theorem dX8_stepFrom_85 : decode cX8_stepFrom 85 = .ok (.iadd, 1) := by decide +kernel
theorem dX8_stepFrom_86 : decode cX8_stepFrom 86 = .ok (.goto 4, 3) := by decide +kernel
theorem dX8_stepFrom_89 : decode cX8_stepFrom 89 = .ok (.iconst (-1), 1) := by decide +kernel
theorem dX8_stepFrom_90 : decode cX8_stepFrom 90 = .ok (.ireturn, 1) := by decide +kernel
theorem dX8_stepFrom_91 : decode cX8_stepFrom 91 = .ok (.aload_n 0, 1) := by decide +kernel
theorem dX8_stepFrom_92 : decode cX8_stepFrom 92 = .ok (.getfield 18, 3) := by decide +kernel
theorem dX8_stepFrom_95 : decode cX8_stepFrom 95 = .ok (.iload_n 1, 1) := by decide +kernel
theorem dX8_stepFrom_96 : decode cX8_stepFrom 96 = .ok (.iaload, 1) := by decide +kernel
theorem dX8_stepFrom_97 : decode cX8_stepFrom 97 = .ok (.ifCond .le 9, 3) := by decide +kernel
theorem dX8_stepFrom_100 : decode cX8_stepFrom 100 = .ok (.iload_n 1, 1) := by decide +kernel
theorem dX8_stepFrom_101 : decode cX8_stepFrom 101 = .ok (.iconst 1, 1) := by decide +kernel
theorem dX8_stepFrom_102 : decode cX8_stepFrom 102 = .ok (.isub, 1) := by decide +kernel
theorem dX8_stepFrom_103 : decode cX8_stepFrom 103 = .ok (.goto 4, 3) := by decide +kernel
theorem dX8_stepFrom_106 : decode cX8_stepFrom 106 = .ok (.iconst (-1), 1) := by decide +kernel
theorem dX8_stepFrom_107 : decode cX8_stepFrom 107 = .ok (.ireturn, 1) := by decide +kernel
theorem dX8_stepFrom_108 : decode cX8_stepFrom 108 = .ok (.iload_n 1, 1) := by decide +kernel
theorem dX8_stepFrom_109 : decode cX8_stepFrom 109 = .ok (.aload_n 0, 1) := by decide +kernel
theorem dX8_stepFrom_110 : decode cX8_stepFrom 110 = .ok (.getfield 42, 3) := by decide +kernel
theorem dX8_stepFrom_113 : decode cX8_stepFrom 113 = .ok (.isub, 1) := by decide +kernel
theorem dX8_stepFrom_114 : decode cX8_stepFrom 114 = .ok (.ifCond .lt 12, 3) := by decide +kernel
theorem dX8_stepFrom_117 : decode cX8_stepFrom 117 = .ok (.iload_n 1, 1) := by decide +kernel
theorem dX8_stepFrom_118 : decode cX8_stepFrom 118 = .ok (.aload_n 0, 1) := by decide +kernel
theorem dX8_stepFrom_119 : decode cX8_stepFrom 119 = .ok (.getfield 42, 3) := by decide +kernel
theorem dX8_stepFrom_122 : decode cX8_stepFrom 122 = .ok (.isub, 1) := by decide +kernel
theorem dX8_stepFrom_123 : decode cX8_stepFrom 123 = .ok (.goto 4, 3) := by decide +kernel
theorem dX8_stepFrom_126 : decode cX8_stepFrom 126 = .ok (.iconst (-1), 1) := by decide +kernel
theorem dX8_stepFrom_127 : decode cX8_stepFrom 127 = .ok (.ireturn, 1) := by decide +kernel
theorem dX8_stepFrom_128 : decode cX8_stepFrom 128 = .ok (.iload_n 1, 1) := by decide +kernel
theorem dX8_stepFrom_129 : decode cX8_stepFrom 129 = .ok (.ireturn, 1) := by decide +kernel
theorem dX8_apart_0 : decode cX8_apart 0 = .ok (.aload_n 0, 1) := by decide +kernel
theorem dX8_apart_1 : decode cX8_apart 1 = .ok (.iload_n 1, 1) := by decide +kernel
theorem dX8_apart_2 : decode cX8_apart 2 = .ok (.invokevirtual 108, 3) := by decide +kernel
theorem dX8_apart_5 : decode cX8_apart 5 = .ok (.ifCond .eq 11, 3) := by decide +kernel
theorem dX8_apart_8 : decode cX8_apart 8 = .ok (.aload_n 0, 1) := by decide +kernel
theorem dX8_apart_9 : decode cX8_apart 9 = .ok (.iload_n 2, 1) := by decide +kernel
theorem dX8_apart_10 : decode cX8_apart 10 = .ok (.invokevirtual 108, 3) := by decide +kernel
theorem dX8_apart_13 : decode cX8_apart 13 = .ok (.ifCond .ne 6, 3) := by decide +kernel
theorem dX8_apart_16 : decode cX8_apart 16 = .ok (.ldc 111, 2) := by decide +kernel
theorem dX8_apart_18 : decode cX8_apart 18 = .ok (.ireturn, 1) := by decide +kernel
theorem dX8_apart_19 : decode cX8_apart 19 = .ok (.aload_n 0, 1) := by decide +kernel
theorem dX8_apart_20 : decode cX8_apart 20 = .ok (.getfield 18, 3) := by decide +kernel
theorem dX8_apart_23 : decode cX8_apart 23 = .ok (.iload_n 1, 1) := by decide +kernel
theorem dX8_apart_24 : decode cX8_apart 24 = .ok (.iaload, 1) := by decide +kernel
theorem dX8_apart_25 : decode cX8_apart 25 = .ok (.aload_n 0, 1) := by decide +kernel
theorem dX8_apart_26 : decode cX8_apart 26 = .ok (.getfield 18, 3) := by decide +kernel
theorem dX8_apart_29 : decode cX8_apart 29 = .ok (.iload_n 2, 1) := by decide +kernel
theorem dX8_apart_30 : decode cX8_apart 30 = .ok (.iaload, 1) := by decide +kernel
theorem dX8_apart_31 : decode cX8_apart 31 = .ok (.isub, 1) := by decide +kernel
theorem dX8_apart_32 : decode cX8_apart 32 = .ok (.invokestatic 112, 3) := by decide +kernel
theorem dX8_apart_35 : decode cX8_apart 35 = .ok (.aload_n 0, 1) := by decide +kernel
theorem dX8_apart_36 : decode cX8_apart 36 = .ok (.getfield 22, 3) := by decide +kernel
theorem dX8_apart_39 : decode cX8_apart 39 = .ok (.iload_n 1, 1) := by decide +kernel
theorem dX8_apart_40 : decode cX8_apart 40 = .ok (.iaload, 1) := by decide +kernel
theorem dX8_apart_41 : decode cX8_apart 41 = .ok (.aload_n 0, 1) := by decide +kernel
theorem dX8_apart_42 : decode cX8_apart 42 = .ok (.getfield 22, 3) := by decide +kernel
theorem dX8_apart_45 : decode cX8_apart 45 = .ok (.iload_n 2, 1) := by decide +kernel
theorem dX8_apart_46 : decode cX8_apart 46 = .ok (.iaload, 1) := by decide +kernel
theorem dX8_apart_47 : decode cX8_apart 47 = .ok (.isub, 1) := by decide +kernel
theorem dX8_apart_48 : decode cX8_apart 48 = .ok (.invokestatic 112, 3) := by decide +kernel
theorem dX8_apart_51 : decode cX8_apart 51 = .ok (.invokestatic 83, 3) := by decide +kernel
theorem dX8_apart_54 : decode cX8_apart 54 = .ok (.ireturn, 1) := by decide +kernel
theorem dX9_init_0 : decode cX9_init 0 = .ok (.aload_n 0, 1) := by decide +kernel
theorem dX9_init_1 : decode cX9_init 1 = .ok (.invokespecial 3, 3) := by decide +kernel
theorem dX9_init_4 : decode cX9_init 4 = .ok (.aload_n 0, 1) := by decide +kernel
theorem dX9_init_5 : decode cX9_init 5 = .ok (.bipush 31, 2) := by decide +kernel
theorem dX9_init_7 : decode cX9_init 7 = .ok (.newarray .int, 2) := by decide +kernel
theorem dX9_init_9 : decode cX9_init 9 = .ok (.putfield 9, 3) := by decide +kernel
theorem dX9_init_12 : decode cX9_init 12 = .ok (.aload_n 0, 1) := by decide +kernel
theorem dX9_init_13 : decode cX9_init 13 = .ok (.bipush 30, 2) := by decide +kernel
theorem dX9_init_15 : decode cX9_init 15 = .ok (.newarray .int, 2) := by decide +kernel
theorem dX9_init_17 : decode cX9_init 17 = .ok (.putfield 15, 3) := by decide +kernel
theorem dX9_init_20 : decode cX9_init 20 = .ok (.return_, 1) := by decide +kernel
theorem dX9_length_0 : decode cX9_length 0 = .ok (.aload_n 0, 1) := by decide +kernel
theorem dX9_length_1 : decode cX9_length 1 = .ok (.getfield 18, 3) := by decide +kernel
theorem dX9_length_4 : decode cX9_length 4 = .ok (.aload_n 0, 1) := by decide +kernel
theorem dX9_length_5 : decode cX9_length 5 = .ok (.getfield 22, 3) := by decide +kernel
theorem dX9_length_8 : decode cX9_length 8 = .ok (.isub, 1) := by decide +kernel
theorem dX9_length_9 : decode cX9_length 9 = .ok (.ireturn, 1) := by decide +kernel
theorem dX9_cellAt_0 : decode cX9_cellAt 0 = .ok (.iload_n 1, 1) := by decide +kernel
theorem dX9_cellAt_1 : decode cX9_cellAt 1 = .ok (.aload_n 0, 1) := by decide +kernel
theorem dX9_cellAt_2 : decode cX9_cellAt 2 = .ok (.getfield 22, 3) := by decide +kernel
theorem dX9_cellAt_5 : decode cX9_cellAt 5 = .ok (.isub, 1) := by decide +kernel
theorem dX9_cellAt_6 : decode cX9_cellAt 6 = .ok (.istore_n 2, 1) := by decide +kernel
theorem dX9_cellAt_7 : decode cX9_cellAt 7 = .ok (.iload_n 1, 1) := by decide +kernel
theorem dX9_cellAt_8 : decode cX9_cellAt 8 = .ok (.aload_n 0, 1) := by decide +kernel
theorem dX9_cellAt_9 : decode cX9_cellAt 9 = .ok (.getfield 18, 3) := by decide +kernel
theorem dX9_cellAt_12 : decode cX9_cellAt 12 = .ok (.if_icmp .gt 25, 3) := by decide +kernel
theorem dX9_cellAt_15 : decode cX9_cellAt 15 = .ok (.iload_n 2, 1) := by decide +kernel
theorem dX9_cellAt_16 : decode cX9_cellAt 16 = .ok (.ifCond .lt 21, 3) := by decide +kernel
theorem dX9_cellAt_19 : decode cX9_cellAt 19 = .ok (.iload_n 2, 1) := by decide +kernel
theorem dX9_cellAt_20 : decode cX9_cellAt 20 = .ok (.aload_n 0, 1) := by decide +kernel
theorem dX9_cellAt_21 : decode cX9_cellAt 21 = .ok (.getfield 9, 3) := by decide +kernel
theorem dX9_cellAt_24 : decode cX9_cellAt 24 = .ok (.arraylength, 1) := by decide +kernel
theorem dX9_cellAt_25 : decode cX9_cellAt 25 = .ok (.if_icmp .ge 12, 3) := by decide +kernel
theorem dX9_cellAt_28 : decode cX9_cellAt 28 = .ok (.aload_n 0, 1) := by decide +kernel
theorem dX9_cellAt_29 : decode cX9_cellAt 29 = .ok (.getfield 9, 3) := by decide +kernel
theorem dX9_cellAt_32 : decode cX9_cellAt 32 = .ok (.iload_n 2, 1) := by decide +kernel
theorem dX9_cellAt_33 : decode cX9_cellAt 33 = .ok (.iaload, 1) := by decide +kernel
theorem dX9_cellAt_34 : decode cX9_cellAt 34 = .ok (.goto 4, 3) := by decide +kernel
theorem dX9_cellAt_37 : decode cX9_cellAt 37 = .ok (.iconst (-1), 1) := by decide +kernel
theorem dX9_cellAt_38 : decode cX9_cellAt 38 = .ok (.ireturn, 1) := by decide +kernel
theorem dX9_stepAt_0 : decode cX9_stepAt 0 = .ok (.iload_n 1, 1) := by decide +kernel
theorem dX9_stepAt_1 : decode cX9_stepAt 1 = .ok (.aload_n 0, 1) := by decide +kernel
theorem dX9_stepAt_2 : decode cX9_stepAt 2 = .ok (.getfield 22, 3) := by decide +kernel
theorem dX9_stepAt_5 : decode cX9_stepAt 5 = .ok (.isub, 1) := by decide +kernel
theorem dX9_stepAt_6 : decode cX9_stepAt 6 = .ok (.istore_n 2, 1) := by decide +kernel
theorem dX9_stepAt_7 : decode cX9_stepAt 7 = .ok (.iload_n 1, 1) := by decide +kernel
theorem dX9_stepAt_8 : decode cX9_stepAt 8 = .ok (.aload_n 0, 1) := by decide +kernel
theorem dX9_stepAt_9 : decode cX9_stepAt 9 = .ok (.getfield 18, 3) := by decide +kernel
theorem dX9_stepAt_12 : decode cX9_stepAt 12 = .ok (.if_icmp .ge 25, 3) := by decide +kernel
theorem dX9_stepAt_15 : decode cX9_stepAt 15 = .ok (.iload_n 2, 1) := by decide +kernel
theorem dX9_stepAt_16 : decode cX9_stepAt 16 = .ok (.ifCond .lt 21, 3) := by decide +kernel
theorem dX9_stepAt_19 : decode cX9_stepAt 19 = .ok (.iload_n 2, 1) := by decide +kernel
theorem dX9_stepAt_20 : decode cX9_stepAt 20 = .ok (.aload_n 0, 1) := by decide +kernel
theorem dX9_stepAt_21 : decode cX9_stepAt 21 = .ok (.getfield 15, 3) := by decide +kernel
theorem dX9_stepAt_24 : decode cX9_stepAt 24 = .ok (.arraylength, 1) := by decide +kernel
theorem dX9_stepAt_25 : decode cX9_stepAt 25 = .ok (.if_icmp .ge 12, 3) := by decide +kernel
theorem dX9_stepAt_28 : decode cX9_stepAt 28 = .ok (.aload_n 0, 1) := by decide +kernel
theorem dX9_stepAt_29 : decode cX9_stepAt 29 = .ok (.getfield 15, 3) := by decide +kernel
theorem dX9_stepAt_32 : decode cX9_stepAt 32 = .ok (.iload_n 2, 1) := by decide +kernel
theorem dX9_stepAt_33 : decode cX9_stepAt 33 = .ok (.iaload, 1) := by decide +kernel
theorem dX9_stepAt_34 : decode cX9_stepAt 34 = .ok (.goto 4, 3) := by decide +kernel
theorem dX9_stepAt_37 : decode cX9_stepAt 37 = .ok (.iconst 4, 1) := by decide +kernel
theorem dX9_stepAt_38 : decode cX9_stepAt 38 = .ok (.ireturn, 1) := by decide +kernel
theorem dX9_begin_0 : decode cX9_begin 0 = .ok (.aload_n 0, 1) := by decide +kernel
theorem dX9_begin_1 : decode cX9_begin 1 = .ok (.iload_n 1, 1) := by decide +kernel
theorem dX9_begin_2 : decode cX9_begin 2 = .ok (.putfield 22, 3) := by decide +kernel
theorem dX9_begin_5 : decode cX9_begin 5 = .ok (.aload_n 0, 1) := by decide +kernel
theorem dX9_begin_6 : decode cX9_begin 6 = .ok (.iload_n 1, 1) := by decide +kernel
theorem dX9_begin_7 : decode cX9_begin 7 = .ok (.putfield 18, 3) := by decide +kernel
theorem dX9_begin_10 : decode cX9_begin 10 = .ok (.aload_n 0, 1) := by decide +kernel
theorem dX9_begin_11 : decode cX9_begin 11 = .ok (.getfield 9, 3) := by decide +kernel
theorem dX9_begin_14 : decode cX9_begin 14 = .ok (.iconst 0, 1) := by decide +kernel
theorem dX9_begin_15 : decode cX9_begin 15 = .ok (.iload_n 2, 1) := by decide +kernel
theorem dX9_begin_16 : decode cX9_begin 16 = .ok (.iastore, 1) := by decide +kernel
theorem dX9_begin_17 : decode cX9_begin 17 = .ok (.return_, 1) := by decide +kernel
theorem dX9_goOn_0 : decode cX9_goOn 0 = .ok (.aload_n 0, 1) := by decide +kernel
theorem dX9_goOn_1 : decode cX9_goOn 1 = .ok (.invokevirtual 25, 3) := by decide +kernel
theorem dX9_goOn_4 : decode cX9_goOn 4 = .ok (.istore_n 3, 1) := by decide +kernel
theorem dX9_goOn_5 : decode cX9_goOn 5 = .ok (.iload_n 3, 1) := by decide +kernel
theorem dX9_goOn_6 : decode cX9_goOn 6 = .ok (.ifCond .lt 38, 3) := by decide +kernel
theorem dX9_goOn_9 : decode cX9_goOn 9 = .ok (.iload_n 3, 1) := by decide +kernel
theorem dX9_goOn_10 : decode cX9_goOn 10 = .ok (.aload_n 0, 1) := by decide +kernel
theorem dX9_goOn_11 : decode cX9_goOn 11 = .ok (.getfield 15, 3) := by decide +kernel
theorem dX9_goOn_14 : decode cX9_goOn 14 = .ok (.arraylength, 1) := by decide +kernel
theorem dX9_goOn_15 : decode cX9_goOn 15 = .ok (.if_icmp .ge 29, 3) := by decide +kernel
theorem dX9_goOn_18 : decode cX9_goOn 18 = .ok (.aload_n 0, 1) := by decide +kernel
theorem dX9_goOn_19 : decode cX9_goOn 19 = .ok (.getfield 15, 3) := by decide +kernel
theorem dX9_goOn_22 : decode cX9_goOn 22 = .ok (.iload_n 3, 1) := by decide +kernel
theorem dX9_goOn_23 : decode cX9_goOn 23 = .ok (.iload_n 1, 1) := by decide +kernel
theorem dX9_goOn_24 : decode cX9_goOn 24 = .ok (.iastore, 1) := by decide +kernel
theorem dX9_goOn_25 : decode cX9_goOn 25 = .ok (.aload_n 0, 1) := by decide +kernel
theorem dX9_goOn_26 : decode cX9_goOn 26 = .ok (.getfield 9, 3) := by decide +kernel
theorem dX9_goOn_29 : decode cX9_goOn 29 = .ok (.iload_n 3, 1) := by decide +kernel
theorem dX9_goOn_30 : decode cX9_goOn 30 = .ok (.iconst 1, 1) := by decide +kernel
theorem dX9_goOn_31 : decode cX9_goOn 31 = .ok (.iadd, 1) := by decide +kernel
theorem dX9_goOn_32 : decode cX9_goOn 32 = .ok (.iload_n 2, 1) := by decide +kernel
theorem dX9_goOn_33 : decode cX9_goOn 33 = .ok (.iastore, 1) := by decide +kernel
theorem dX9_goOn_34 : decode cX9_goOn 34 = .ok (.aload_n 0, 1) := by decide +kernel
theorem dX9_goOn_35 : decode cX9_goOn 35 = .ok (.dup, 1) := by decide +kernel
theorem dX9_goOn_36 : decode cX9_goOn 36 = .ok (.getfield 18, 3) := by decide +kernel
theorem dX9_goOn_39 : decode cX9_goOn 39 = .ok (.iconst 1, 1) := by decide +kernel
theorem dX9_goOn_40 : decode cX9_goOn 40 = .ok (.iadd, 1) := by decide +kernel
theorem dX9_goOn_41 : decode cX9_goOn 41 = .ok (.putfield 18, 3) := by decide +kernel
theorem dX9_goOn_44 : decode cX9_goOn 44 = .ok (.return_, 1) := by decide +kernel
theorem dX9_tell_0 : decode cX9_tell 0 = .ok (.iload_n 1, 1) := by decide +kernel
theorem dX9_tell_1 : decode cX9_tell 1 = .ok (.ifCond .ne 8, 3) := by decide +kernel
theorem dX9_tell_4 : decode cX9_tell 4 = .ok (.aload_n 0, 1) := by decide +kernel
theorem dX9_tell_5 : decode cX9_tell 5 = .ok (.getfield 22, 3) := by decide +kernel
theorem dX9_tell_8 : decode cX9_tell 8 = .ok (.ireturn, 1) := by decide +kernel
theorem dX9_tell_9 : decode cX9_tell 9 = .ok (.iload_n 2, 1) := by decide +kernel
theorem dX9_tell_10 : decode cX9_tell 10 = .ok (.ifCond .lt 29, 3) := by decide +kernel
theorem dX9_tell_13 : decode cX9_tell 13 = .ok (.iload_n 2, 1) := by decide +kernel
theorem dX9_tell_14 : decode cX9_tell 14 = .ok (.aload_n 0, 1) := by decide +kernel
theorem dX9_tell_15 : decode cX9_tell 15 = .ok (.invokevirtual 25, 3) := by decide +kernel
theorem dX9_tell_18 : decode cX9_tell 18 = .ok (.if_icmp .ge 21, 3) := by decide +kernel
theorem dX9_tell_21 : decode cX9_tell 21 = .ok (.iload_n 2, 1) := by decide +kernel
theorem dX9_tell_22 : decode cX9_tell 22 = .ok (.aload_n 0, 1) := by decide +kernel
theorem dX9_tell_23 : decode cX9_tell 23 = .ok (.getfield 15, 3) := by decide +kernel
theorem dX9_tell_26 : decode cX9_tell 26 = .ok (.arraylength, 1) := by decide +kernel
theorem dX9_tell_27 : decode cX9_tell 27 = .ok (.if_icmp .ge 12, 3) := by decide +kernel
theorem dX9_tell_30 : decode cX9_tell 30 = .ok (.aload_n 0, 1) := by decide +kernel
theorem dX9_tell_31 : decode cX9_tell 31 = .ok (.getfield 15, 3) := by decide +kernel
theorem dX9_tell_34 : decode cX9_tell 34 = .ok (.iload_n 2, 1) := by decide +kernel
theorem dX9_tell_35 : decode cX9_tell 35 = .ok (.iaload, 1) := by decide +kernel
theorem dX9_tell_36 : decode cX9_tell 36 = .ok (.goto 5, 3) := by decide +kernel
theorem dX9_tell_39 : decode cX9_tell 39 = .ok (.ldc 29, 2) := by decide +kernel
theorem dX9_tell_41 : decode cX9_tell 41 = .ok (.ireturn, 1) := by decide +kernel
theorem dX10_init_0 : decode cX10_init 0 = .ok (.aload_n 0, 1) := by decide +kernel
theorem dX10_init_1 : decode cX10_init 1 = .ok (.invokespecial 1, 3) := by decide +kernel
theorem dX10_init_4 : decode cX10_init 4 = .ok (.aload_n 0, 1) := by decide +kernel
theorem dX10_init_5 : decode cX10_init 5 = .ok (.new 7, 3) := by decide +kernel
theorem dX10_init_8 : decode cX10_init 8 = .ok (.dup, 1) := by decide +kernel
theorem dX10_init_9 : decode cX10_init 9 = .ok (.invokespecial 9, 3) := by decide +kernel
theorem dX10_init_12 : decode cX10_init 12 = .ok (.putfield 10, 3) := by decide +kernel
theorem dX10_init_15 : decode cX10_init 15 = .ok (.aload_n 0, 1) := by decide +kernel
theorem dX10_init_16 : decode cX10_init 16 = .ok (.new 16, 3) := by decide +kernel
theorem dX10_init_19 : decode cX10_init 19 = .ok (.dup, 1) := by decide +kernel
theorem dX10_init_20 : decode cX10_init 20 = .ok (.invokespecial 18, 3) := by decide +kernel
theorem dX10_init_23 : decode cX10_init 23 = .ok (.putfield 19, 3) := by decide +kernel
theorem dX10_init_26 : decode cX10_init 26 = .ok (.aload_n 0, 1) := by decide +kernel
theorem dX10_init_27 : decode cX10_init 27 = .ok (.new 23, 3) := by decide +kernel
theorem dX10_init_30 : decode cX10_init 30 = .ok (.dup, 1) := by decide +kernel
theorem dX10_init_31 : decode cX10_init 31 = .ok (.aload_n 0, 1) := by decide +kernel
theorem dX10_init_32 : decode cX10_init 32 = .ok (.getfield 10, 3) := by decide +kernel
theorem dX10_init_35 : decode cX10_init 35 = .ok (.aload_n 0, 1) := by decide +kernel
theorem dX10_init_36 : decode cX10_init 36 = .ok (.getfield 19, 3) := by decide +kernel
theorem dX10_init_39 : decode cX10_init 39 = .ok (.invokespecial 25, 3) := by decide +kernel
theorem dX10_init_42 : decode cX10_init 42 = .ok (.putfield 28, 3) := by decide +kernel
theorem dX10_init_45 : decode cX10_init 45 = .ok (.aload_n 0, 1) := by decide +kernel
theorem dX10_init_46 : decode cX10_init 46 = .ok (.new 32, 3) := by decide +kernel
theorem dX10_init_49 : decode cX10_init 49 = .ok (.dup, 1) := by decide +kernel
theorem dX10_init_50 : decode cX10_init 50 = .ok (.aload_n 0, 1) := by decide +kernel
theorem dX10_init_51 : decode cX10_init 51 = .ok (.getfield 10, 3) := by decide +kernel
theorem dX10_init_54 : decode cX10_init 54 = .ok (.aload_n 0, 1) := by decide +kernel
theorem dX10_init_55 : decode cX10_init 55 = .ok (.getfield 19, 3) := by decide +kernel
theorem dX10_init_58 : decode cX10_init 58 = .ok (.invokespecial 34, 3) := by decide +kernel
theorem dX10_init_61 : decode cX10_init 61 = .ok (.putfield 35, 3) := by decide +kernel
theorem dX10_init_64 : decode cX10_init 64 = .ok (.aload_n 0, 1) := by decide +kernel
theorem dX10_init_65 : decode cX10_init 65 = .ok (.new 39, 3) := by decide +kernel
theorem dX10_init_68 : decode cX10_init 68 = .ok (.dup, 1) := by decide +kernel
theorem dX10_init_69 : decode cX10_init 69 = .ok (.aload_n 0, 1) := by decide +kernel
theorem dX10_init_70 : decode cX10_init 70 = .ok (.getfield 10, 3) := by decide +kernel
theorem dX10_init_73 : decode cX10_init 73 = .ok (.aload_n 0, 1) := by decide +kernel
theorem dX10_init_74 : decode cX10_init 74 = .ok (.getfield 35, 3) := by decide +kernel
theorem dX10_init_77 : decode cX10_init 77 = .ok (.aload_n 0, 1) := by decide +kernel
theorem dX10_init_78 : decode cX10_init 78 = .ok (.getfield 28, 3) := by decide +kernel
theorem dX10_init_81 : decode cX10_init 81 = .ok (.invokespecial 41, 3) := by decide +kernel
theorem dX10_init_84 : decode cX10_init 84 = .ok (.putfield 44, 3) := by decide +kernel
theorem dX10_init_87 : decode cX10_init 87 = .ok (.aload_n 0, 1) := by decide +kernel
theorem dX10_init_88 : decode cX10_init 88 = .ok (.new 48, 3) := by decide +kernel
theorem dX10_init_91 : decode cX10_init 91 = .ok (.dup, 1) := by decide +kernel
theorem dX10_init_92 : decode cX10_init 92 = .ok (.aload_n 0, 1) := by decide +kernel
theorem dX10_init_93 : decode cX10_init 93 = .ok (.getfield 19, 3) := by decide +kernel
theorem dX10_init_96 : decode cX10_init 96 = .ok (.aload_n 0, 1) := by decide +kernel
theorem dX10_init_97 : decode cX10_init 97 = .ok (.getfield 35, 3) := by decide +kernel
theorem dX10_init_100 : decode cX10_init 100 = .ok (.invokespecial 50, 3) := by decide +kernel
theorem dX10_init_103 : decode cX10_init 103 = .ok (.putfield 53, 3) := by decide +kernel
theorem dX10_init_106 : decode cX10_init 106 = .ok (.aload_n 0, 1) := by decide +kernel
theorem dX10_init_107 : decode cX10_init 107 = .ok (.new 57, 3) := by decide +kernel
theorem dX10_init_110 : decode cX10_init 110 = .ok (.dup, 1) := by decide +kernel
theorem dX10_init_111 : decode cX10_init 111 = .ok (.aload_n 0, 1) := by decide +kernel
theorem dX10_init_112 : decode cX10_init 112 = .ok (.getfield 19, 3) := by decide +kernel
theorem dX10_init_115 : decode cX10_init 115 = .ok (.aload_n 0, 1) := by decide +kernel
theorem dX10_init_116 : decode cX10_init 116 = .ok (.getfield 35, 3) := by decide +kernel
theorem dX10_init_119 : decode cX10_init 119 = .ok (.invokespecial 59, 3) := by decide +kernel
theorem dX10_init_122 : decode cX10_init 122 = .ok (.putfield 60, 3) := by decide +kernel
theorem dX10_init_125 : decode cX10_init 125 = .ok (.aload_n 0, 1) := by decide +kernel
theorem dX10_init_126 : decode cX10_init 126 = .ok (.new 64, 3) := by decide +kernel
theorem dX10_init_129 : decode cX10_init 129 = .ok (.dup, 1) := by decide +kernel
theorem dX10_init_130 : decode cX10_init 130 = .ok (.aload_n 0, 1) := by decide +kernel
theorem dX10_init_131 : decode cX10_init 131 = .ok (.getfield 10, 3) := by decide +kernel
theorem dX10_init_134 : decode cX10_init 134 = .ok (.aload_n 0, 1) := by decide +kernel
theorem dX10_init_135 : decode cX10_init 135 = .ok (.getfield 19, 3) := by decide +kernel
theorem dX10_init_138 : decode cX10_init 138 = .ok (.invokespecial 66, 3) := by decide +kernel
theorem dX10_init_141 : decode cX10_init 141 = .ok (.putfield 67, 3) := by decide +kernel
theorem dX10_init_144 : decode cX10_init 144 = .ok (.return_, 1) := by decide +kernel
theorem dX10_air_0 : decode cX10_air 0 = .ok (.iload_n 1, 1) := by decide +kernel
theorem dX10_air_1 : decode cX10_air 1 = .ok (.iconst 2, 1) := by decide +kernel
theorem dX10_air_2 : decode cX10_air 2 = .ok (.bipush 6, 2) := by decide +kernel
theorem dX10_air_4 : decode cX10_air 4 = .ok (.invokestatic 71, 3) := by decide +kernel
theorem dX10_air_7 : decode cX10_air 7 = .ok (.ifCond .eq 13, 3) := by decide +kernel
theorem dX10_air_10 : decode cX10_air 10 = .ok (.iload_n 2, 1) := by decide +kernel
theorem dX10_air_11 : decode cX10_air 11 = .ok (.iconst 2, 1) := by decide +kernel
theorem dX10_air_12 : decode cX10_air 12 = .ok (.bipush 6, 2) := by decide +kernel
theorem dX10_air_14 : decode cX10_air 14 = .ok (.invokestatic 71, 3) := by decide +kernel
theorem dX10_air_17 : decode cX10_air 17 = .ok (.ifCond .ne 6, 3) := by decide +kernel
theorem dX10_air_20 : decode cX10_air 20 = .ok (.ldc 75, 2) := by decide +kernel
theorem dX10_air_22 : decode cX10_air 22 = .ok (.ireturn, 1) := by decide +kernel
theorem dX10_air_23 : decode cX10_air 23 = .ok (.aload_n 0, 1) := by decide +kernel
theorem dX10_air_24 : decode cX10_air 24 = .ok (.getfield 10, 3) := by decide +kernel
theorem dX10_air_27 : decode cX10_air 27 = .ok (.iload_n 1, 1) := by decide +kernel
theorem dX10_air_28 : decode cX10_air 28 = .ok (.iload_n 2, 1) := by decide +kernel
theorem dX10_air_29 : decode cX10_air 29 = .ok (.invokevirtual 76, 3) := by decide +kernel
theorem dX10_air_32 : decode cX10_air 32 = .ok (.aload_n 0, 1) := by decide +kernel
theorem dX10_air_33 : decode cX10_air 33 = .ok (.getfield 19, 3) := by decide +kernel
theorem dX10_air_36 : decode cX10_air 36 = .ok (.iconst 0, 1) := by decide +kernel
theorem dX10_air_37 : decode cX10_air 37 = .ok (.putfield 80, 3) := by decide +kernel
theorem dX10_air_40 : decode cX10_air 40 = .ok (.aload_n 0, 1) := by decide +kernel
theorem dX10_air_41 : decode cX10_air 41 = .ok (.getfield 28, 3) := by decide +kernel
theorem dX10_air_44 : decode cX10_air 44 = .ok (.invokevirtual 84, 3) := by decide +kernel
theorem dX10_air_47 : decode cX10_air 47 = .ok (.aload_n 0, 1) := by decide +kernel
theorem dX10_air_48 : decode cX10_air 48 = .ok (.getfield 67, 3) := by decide +kernel
theorem dX10_air_51 : decode cX10_air 51 = .ok (.iconst 0, 1) := by decide +kernel
theorem dX10_air_52 : decode cX10_air 52 = .ok (.putfield 87, 3) := by decide +kernel
theorem dX10_air_55 : decode cX10_air 55 = .ok (.aload_n 0, 1) := by decide +kernel
theorem dX10_air_56 : decode cX10_air 56 = .ok (.getfield 10, 3) := by decide +kernel
theorem dX10_air_59 : decode cX10_air 59 = .ok (.getfield 91, 3) := by decide +kernel
theorem dX10_air_62 : decode cX10_air 62 = .ok (.ireturn, 1) := by decide +kernel
theorem dX10_shut_0 : decode cX10_shut 0 = .ok (.aload_n 0, 1) := by decide +kernel
theorem dX10_shut_1 : decode cX10_shut 1 = .ok (.iload_n 1, 1) := by decide +kernel
theorem dX10_shut_2 : decode cX10_shut 2 = .ok (.iload_n 2, 1) := by decide +kernel
theorem dX10_shut_3 : decode cX10_shut 3 = .ok (.iload_n 3, 1) := by decide +kernel
theorem dX10_shut_4 : decode cX10_shut 4 = .ok (.aload_n 0, 1) := by decide +kernel
theorem dX10_shut_5 : decode cX10_shut 5 = .ok (.getfield 10, 3) := by decide +kernel
theorem dX10_shut_8 : decode cX10_shut 8 = .ok (.getfield 94, 3) := by decide +kernel
theorem dX10_shut_11 : decode cX10_shut 11 = .ok (.invokevirtual 97, 3) := by decide +kernel
theorem dX10_shut_14 : decode cX10_shut 14 = .ok (.istore 4, 2) := by decide +kernel
theorem dX10_shut_16 : decode cX10_shut 16 = .ok (.iload 4, 2) := by decide +kernel
theorem dX10_shut_18 : decode cX10_shut 18 = .ok (.ifCond .ne 16, 3) := by decide +kernel
theorem dX10_shut_21 : decode cX10_shut 21 = .ok (.aload_n 0, 1) := by decide +kernel
theorem dX10_shut_22 : decode cX10_shut 22 = .ok (.getfield 10, 3) := by decide +kernel
theorem dX10_shut_25 : decode cX10_shut 25 = .ok (.iload_n 1, 1) := by decide +kernel
theorem dX10_shut_26 : decode cX10_shut 26 = .ok (.iload_n 2, 1) := by decide +kernel
theorem dX10_shut_27 : decode cX10_shut 27 = .ok (.iload_n 3, 1) := by decide +kernel
theorem dX10_shut_28 : decode cX10_shut 28 = .ok (.invokevirtual 101, 3) := by decide +kernel
theorem dX10_shut_31 : decode cX10_shut 31 = .ok (.goto 5, 3) := by decide +kernel
theorem dX10_shut_34 : decode cX10_shut 34 = .ok (.iload 4, 2) := by decide +kernel
theorem dX10_shut_36 : decode cX10_shut 36 = .ok (.ireturn, 1) := by decide +kernel
theorem dX10_folk_0 : decode cX10_folk 0 = .ok (.aload_n 0, 1) := by decide +kernel
theorem dX10_folk_1 : decode cX10_folk 1 = .ok (.iload_n 1, 1) := by decide +kernel
theorem dX10_folk_2 : decode cX10_folk 2 = .ok (.iload_n 2, 1) := by decide +kernel
theorem dX10_folk_3 : decode cX10_folk 3 = .ok (.iload_n 3, 1) := by decide +kernel
theorem dX10_folk_4 : decode cX10_folk 4 = .ok (.aload_n 0, 1) := by decide +kernel
theorem dX10_folk_5 : decode cX10_folk 5 = .ok (.getfield 10, 3) := by decide +kernel
theorem dX10_folk_8 : decode cX10_folk 8 = .ok (.getfield 105, 3) := by decide +kernel
theorem dX10_folk_11 : decode cX10_folk 11 = .ok (.invokevirtual 97, 3) := by decide +kernel
end
section
theorem dX10_folk_14 : decode cX10_folk 14 = .ok (.istore 4, 2) := by decide +kernel
theorem dX10_folk_16 : decode cX10_folk 16 = .ok (.iload 4, 2) := by decide +kernel
theorem dX10_folk_18 : decode cX10_folk 18 = .ok (.ifCond .ne 16, 3) := by decide +kernel
theorem dX10_folk_21 : decode cX10_folk 21 = .ok (.aload_n 0, 1) := by decide +kernel
theorem dX10_folk_22 : decode cX10_folk 22 = .ok (.getfield 10, 3) := by decide +kernel
theorem dX10_folk_25 : decode cX10_folk 25 = .ok (.iload_n 1, 1) := by decide +kernel
theorem dX10_folk_26 : decode cX10_folk 26 = .ok (.iload_n 2, 1) := by decide +kernel
theorem dX10_folk_27 : decode cX10_folk 27 = .ok (.iload_n 3, 1) := by decide +kernel
theorem dX10_folk_28 : decode cX10_folk 28 = .ok (.invokevirtual 108, 3) := by decide +kernel
theorem dX10_folk_31 : decode cX10_folk 31 = .ok (.goto 5, 3) := by decide +kernel
theorem dX10_folk_34 : decode cX10_folk 34 = .ok (.iload 4, 2) := by decide +kernel
theorem dX10_folk_36 : decode cX10_folk 36 = .ok (.ireturn, 1) := by decide +kernel
theorem dX10_rule_0 : decode cX10_rule 0 = .ok (.iload_n 1, 1) := by decide +kernel
theorem dX10_rule_1 : decode cX10_rule 1 = .ok (.ifCond .ne 21, 3) := by decide +kernel
theorem dX10_rule_4 : decode cX10_rule 4 = .ok (.iload_n 2, 1) := by decide +kernel
theorem dX10_rule_5 : decode cX10_rule 5 = .ok (.iconst 0, 1) := by decide +kernel
theorem dX10_rule_6 : decode cX10_rule 6 = .ok (.iconst 4, 1) := by decide +kernel
theorem dX10_rule_7 : decode cX10_rule 7 = .ok (.invokestatic 71, 3) := by decide +kernel
theorem dX10_rule_10 : decode cX10_rule 10 = .ok (.ifCond .eq 12, 3) := by decide +kernel
theorem dX10_rule_13 : decode cX10_rule 13 = .ok (.aload_n 0, 1) := by decide +kernel
theorem dX10_rule_14 : decode cX10_rule 14 = .ok (.getfield 10, 3) := by decide +kernel
theorem dX10_rule_17 : decode cX10_rule 17 = .ok (.iload_n 2, 1) := by decide +kernel
theorem dX10_rule_18 : decode cX10_rule 18 = .ok (.invokevirtual 111, 3) := by decide +kernel
theorem dX10_rule_21 : decode cX10_rule 21 = .ok (.ireturn, 1) := by decide +kernel
theorem dX10_rule_22 : decode cX10_rule 22 = .ok (.iload_n 1, 1) := by decide +kernel
theorem dX10_rule_23 : decode cX10_rule 23 = .ok (.iconst 1, 1) := by decide +kernel
theorem dX10_rule_24 : decode cX10_rule 24 = .ok (.if_icmp .ne 21, 3) := by decide +kernel
theorem dX10_rule_27 : decode cX10_rule 27 = .ok (.iload_n 2, 1) := by decide +kernel
theorem dX10_rule_28 : decode cX10_rule 28 = .ok (.iconst 0, 1) := by decide +kernel
theorem dX10_rule_29 : decode cX10_rule 29 = .ok (.iconst 3, 1) := by decide +kernel
theorem dX10_rule_30 : decode cX10_rule 30 = .ok (.invokestatic 71, 3) := by decide +kernel
theorem dX10_rule_33 : decode cX10_rule 33 = .ok (.ifCond .eq 12, 3) := by decide +kernel
theorem dX10_rule_36 : decode cX10_rule 36 = .ok (.aload_n 0, 1) := by decide +kernel
theorem dX10_rule_37 : decode cX10_rule 37 = .ok (.getfield 10, 3) := by decide +kernel
theorem dX10_rule_40 : decode cX10_rule 40 = .ok (.iload_n 2, 1) := by decide +kernel
theorem dX10_rule_41 : decode cX10_rule 41 = .ok (.invokevirtual 115, 3) := by decide +kernel
theorem dX10_rule_44 : decode cX10_rule 44 = .ok (.ireturn, 1) := by decide +kernel
theorem dX10_rule_45 : decode cX10_rule 45 = .ok (.ldc 75, 2) := by decide +kernel
theorem dX10_rule_47 : decode cX10_rule 47 = .ok (.ireturn, 1) := by decide +kernel
theorem dX10_down_0 : decode cX10_down 0 = .ok (.aload_n 0, 1) := by decide +kernel
theorem dX10_down_1 : decode cX10_down 1 = .ok (.iload_n 1, 1) := by decide +kernel
theorem dX10_down_2 : decode cX10_down 2 = .ok (.iload_n 2, 1) := by decide +kernel
theorem dX10_down_3 : decode cX10_down 3 = .ok (.invokevirtual 118, 3) := by decide +kernel
theorem dX10_down_6 : decode cX10_down 6 = .ok (.istore_n 3, 1) := by decide +kernel
theorem dX10_down_7 : decode cX10_down 7 = .ok (.iload_n 3, 1) := by decide +kernel
theorem dX10_down_8 : decode cX10_down 8 = .ok (.ifCond .ne 15, 3) := by decide +kernel
theorem dX10_down_11 : decode cX10_down 11 = .ok (.aload_n 0, 1) := by decide +kernel
theorem dX10_down_12 : decode cX10_down 12 = .ok (.getfield 10, 3) := by decide +kernel
theorem dX10_down_15 : decode cX10_down 15 = .ok (.iload_n 1, 1) := by decide +kernel
theorem dX10_down_16 : decode cX10_down 16 = .ok (.iload_n 2, 1) := by decide +kernel
theorem dX10_down_17 : decode cX10_down 17 = .ok (.invokevirtual 122, 3) := by decide +kernel
theorem dX10_down_20 : decode cX10_down 20 = .ok (.goto 4, 3) := by decide +kernel
theorem dX10_down_23 : decode cX10_down 23 = .ok (.iload_n 3, 1) := by decide +kernel
theorem dX10_down_24 : decode cX10_down 24 = .ok (.ireturn, 1) := by decide +kernel
theorem dX10_open_0 : decode cX10_open 0 = .ok (.aload_n 0, 1) := by decide +kernel
theorem dX10_open_1 : decode cX10_open 1 = .ok (.iload_n 1, 1) := by decide +kernel
theorem dX10_open_2 : decode cX10_open 2 = .ok (.iload_n 2, 1) := by decide +kernel
theorem dX10_open_3 : decode cX10_open 3 = .ok (.invokevirtual 118, 3) := by decide +kernel
theorem dX10_open_6 : decode cX10_open 6 = .ok (.istore_n 3, 1) := by decide +kernel
theorem dX10_open_7 : decode cX10_open 7 = .ok (.iload_n 3, 1) := by decide +kernel
theorem dX10_open_8 : decode cX10_open 8 = .ok (.ifCond .ne 22, 3) := by decide +kernel
theorem dX10_open_11 : decode cX10_open 11 = .ok (.aload_n 0, 1) := by decide +kernel
theorem dX10_open_12 : decode cX10_open 12 = .ok (.getfield 10, 3) := by decide +kernel
theorem dX10_open_15 : decode cX10_open 15 = .ok (.getfield 125, 3) := by decide +kernel
theorem dX10_open_18 : decode cX10_open 18 = .ok (.iload_n 2, 1) := by decide +kernel
theorem dX10_open_19 : decode cX10_open 19 = .ok (.laload, 1) := by decide +kernel
theorem dX10_open_20 : decode cX10_open 20 = .ok (.iload_n 1, 1) := by decide +kernel
theorem dX10_open_21 : decode cX10_open 21 = .ok (.invokestatic 129, 3) := by decide +kernel
theorem dX10_open_24 : decode cX10_open 24 = .ok (.invokestatic 133, 3) := by decide +kernel
theorem dX10_open_27 : decode cX10_open 27 = .ok (.goto 4, 3) := by decide +kernel
theorem dX10_open_30 : decode cX10_open 30 = .ok (.iload_n 3, 1) := by decide +kernel
theorem dX10_open_31 : decode cX10_open 31 = .ok (.ireturn, 1) := by decide +kernel
theorem dX10_ask_0 : decode cX10_ask 0 = .ok (.aload_n 0, 1) := by decide +kernel
theorem dX10_ask_1 : decode cX10_ask 1 = .ok (.getfield 10, 3) := by decide +kernel
theorem dX10_ask_4 : decode cX10_ask 4 = .ok (.iload_n 1, 1) := by decide +kernel
theorem dX10_ask_5 : decode cX10_ask 5 = .ok (.invokevirtual 137, 3) := by decide +kernel
theorem dX10_ask_8 : decode cX10_ask 8 = .ok (.ifCond .eq 14, 3) := by decide +kernel
theorem dX10_ask_11 : decode cX10_ask 11 = .ok (.aload_n 0, 1) := by decide +kernel
theorem dX10_ask_12 : decode cX10_ask 12 = .ok (.getfield 10, 3) := by decide +kernel
theorem dX10_ask_15 : decode cX10_ask 15 = .ok (.iload_n 2, 1) := by decide +kernel
theorem dX10_ask_16 : decode cX10_ask 16 = .ok (.invokevirtual 137, 3) := by decide +kernel
theorem dX10_ask_19 : decode cX10_ask 19 = .ok (.ifCond .ne 6, 3) := by decide +kernel
theorem dX10_ask_22 : decode cX10_ask 22 = .ok (.ldc 141, 2) := by decide +kernel
theorem dX10_ask_24 : decode cX10_ask 24 = .ok (.ireturn, 1) := by decide +kernel
theorem dX10_ask_25 : decode cX10_ask 25 = .ok (.iload_n 3, 1) := by decide +kernel
theorem dX10_ask_26 : decode cX10_ask 26 = .ok (.invokestatic 142, 3) := by decide +kernel
theorem dX10_ask_29 : decode cX10_ask 29 = .ok (.ifCond .eq 50, 3) := by decide +kernel
theorem dX10_ask_32 : decode cX10_ask 32 = .ok (.iload 4, 2) := by decide +kernel
theorem dX10_ask_34 : decode cX10_ask 34 = .ok (.invokestatic 142, 3) := by decide +kernel
theorem dX10_ask_37 : decode cX10_ask 37 = .ok (.ifCond .eq 42, 3) := by decide +kernel
theorem dX10_ask_40 : decode cX10_ask 40 = .ok (.iload_n 3, 1) := by decide +kernel
theorem dX10_ask_41 : decode cX10_ask 41 = .ok (.iload 4, 2) := by decide +kernel
theorem dX10_ask_43 : decode cX10_ask 43 = .ok (.if_icmp .ge 36, 3) := by decide +kernel
theorem dX10_ask_46 : decode cX10_ask 46 = .ok (.iload 5, 2) := by decide +kernel
theorem dX10_ask_48 : decode cX10_ask 48 = .ok (.iconst 1, 1) := by decide +kernel
theorem dX10_ask_49 : decode cX10_ask 49 = .ok (.bipush 30, 2) := by decide +kernel
theorem dX10_ask_51 : decode cX10_ask 51 = .ok (.invokestatic 71, 3) := by decide +kernel
theorem dX10_ask_54 : decode cX10_ask 54 = .ok (.ifCond .eq 25, 3) := by decide +kernel
theorem dX10_ask_57 : decode cX10_ask 57 = .ok (.iload 6, 2) := by decide +kernel
theorem dX10_ask_59 : decode cX10_ask 59 = .ok (.iconst 1, 1) := by decide +kernel
theorem dX10_ask_60 : decode cX10_ask 60 = .ok (.bipush 9, 2) := by decide +kernel
theorem dX10_ask_62 : decode cX10_ask 62 = .ok (.invokestatic 71, 3) := by decide +kernel
theorem dX10_ask_65 : decode cX10_ask 65 = .ok (.ifCond .eq 14, 3) := by decide +kernel
theorem dX10_ask_68 : decode cX10_ask 68 = .ok (.iload 7, 2) := by decide +kernel
theorem dX10_ask_70 : decode cX10_ask 70 = .ok (.iconst 1, 1) := by decide +kernel
theorem dX10_ask_71 : decode cX10_ask 71 = .ok (.bipush 9, 2) := by decide +kernel
theorem dX10_ask_73 : decode cX10_ask 73 = .ok (.invokestatic 71, 3) := by decide +kernel
theorem dX10_ask_76 : decode cX10_ask 76 = .ok (.ifCond .ne 6, 3) := by decide +kernel
theorem dX10_ask_79 : decode cX10_ask 79 = .ok (.ldc 75, 2) := by decide +kernel
theorem dX10_ask_81 : decode cX10_ask 81 = .ok (.ireturn, 1) := by decide +kernel
theorem dX10_ask_82 : decode cX10_ask 82 = .ok (.iload_n 1, 1) := by decide +kernel
theorem dX10_ask_83 : decode cX10_ask 83 = .ok (.iload_n 2, 1) := by decide +kernel
theorem dX10_ask_84 : decode cX10_ask 84 = .ok (.if_icmp .ne 6, 3) := by decide +kernel
theorem dX10_ask_87 : decode cX10_ask 87 = .ok (.ldc 145, 2) := by decide +kernel
theorem dX10_ask_89 : decode cX10_ask 89 = .ok (.ireturn, 1) := by decide +kernel
theorem dX10_ask_90 : decode cX10_ask 90 = .ok (.aload_n 0, 1) := by decide +kernel
theorem dX10_ask_91 : decode cX10_ask 91 = .ok (.getfield 19, 3) := by decide +kernel
theorem dX10_ask_94 : decode cX10_ask 94 = .ok (.invokevirtual 146, 3) := by decide +kernel
theorem dX10_ask_97 : decode cX10_ask 97 = .ok (.ifCond .eq 6, 3) := by decide +kernel
theorem dX10_ask_100 : decode cX10_ask 100 = .ok (.ldc 150, 2) := by decide +kernel
theorem dX10_ask_102 : decode cX10_ask 102 = .ok (.ireturn, 1) := by decide +kernel
theorem dX10_ask_103 : decode cX10_ask 103 = .ok (.aload_n 0, 1) := by decide +kernel
theorem dX10_ask_104 : decode cX10_ask 104 = .ok (.getfield 19, 3) := by decide +kernel
theorem dX10_ask_107 : decode cX10_ask 107 = .ok (.invokevirtual 151, 3) := by decide +kernel
theorem dX10_ask_110 : decode cX10_ask 110 = .ok (.astore 8, 2) := by decide +kernel
theorem dX10_ask_112 : decode cX10_ask 112 = .ok (.aload 8, 2) := by decide +kernel
theorem dX10_ask_114 : decode cX10_ask 114 = .ok (.iload_n 1, 1) := by decide +kernel
theorem dX10_ask_115 : decode cX10_ask 115 = .ok (.iload_n 2, 1) := by decide +kernel
theorem dX10_ask_116 : decode cX10_ask 116 = .ok (.invokevirtual 155, 3) := by decide +kernel
theorem dX10_ask_119 : decode cX10_ask 119 = .ok (.aload 8, 2) := by decide +kernel
theorem dX10_ask_121 : decode cX10_ask 121 = .ok (.iload_n 3, 1) := by decide +kernel
theorem dX10_ask_122 : decode cX10_ask 122 = .ok (.iload 4, 2) := by decide +kernel
theorem dX10_ask_124 : decode cX10_ask 124 = .ok (.invokevirtual 160, 3) := by decide +kernel
theorem dX10_ask_127 : decode cX10_ask 127 = .ok (.aload 8, 2) := by decide +kernel
theorem dX10_ask_129 : decode cX10_ask 129 = .ok (.iload 5, 2) := by decide +kernel
theorem dX10_ask_131 : decode cX10_ask 131 = .ok (.iload 6, 2) := by decide +kernel
theorem dX10_ask_133 : decode cX10_ask 133 = .ok (.iload 7, 2) := by decide +kernel
theorem dX10_ask_135 : decode cX10_ask 135 = .ok (.invokevirtual 163, 3) := by decide +kernel
theorem dX10_ask_138 : decode cX10_ask 138 = .ok (.aload_n 0, 1) := by decide +kernel
theorem dX10_ask_139 : decode cX10_ask 139 = .ok (.getfield 19, 3) := by decide +kernel
theorem dX10_ask_142 : decode cX10_ask 142 = .ok (.getfield 80, 3) := by decide +kernel
theorem dX10_ask_145 : decode cX10_ask 145 = .ok (.iconst 1, 1) := by decide +kernel
theorem dX10_ask_146 : decode cX10_ask 146 = .ok (.isub, 1) := by decide +kernel
theorem dX10_ask_147 : decode cX10_ask 147 = .ok (.ireturn, 1) := by decide +kernel
theorem dX10_about_0 : decode cX10_about 0 = .ok (.aload_n 0, 1) := by decide +kernel
theorem dX10_about_1 : decode cX10_about 1 = .ok (.getfield 19, 3) := by decide +kernel
theorem dX10_about_4 : decode cX10_about 4 = .ok (.iload_n 1, 1) := by decide +kernel
theorem dX10_about_5 : decode cX10_about 5 = .ok (.invokevirtual 167, 3) := by decide +kernel
theorem dX10_about_8 : decode cX10_about 8 = .ok (.ifCond .ne 6, 3) := by decide +kernel
theorem dX10_about_11 : decode cX10_about 11 = .ok (.ldc 141, 2) := by decide +kernel
theorem dX10_about_13 : decode cX10_about 13 = .ok (.ireturn, 1) := by decide +kernel
theorem dX10_about_14 : decode cX10_about 14 = .ok (.aload_n 0, 1) := by decide +kernel
theorem dX10_about_15 : decode cX10_about 15 = .ok (.getfield 19, 3) := by decide +kernel
theorem dX10_about_18 : decode cX10_about 18 = .ok (.getfield 170, 3) := by decide +kernel
theorem dX10_about_21 : decode cX10_about 21 = .ok (.iload_n 1, 1) := by decide +kernel
theorem dX10_about_22 : decode cX10_about 22 = .ok (.aaload, 1) := by decide +kernel
theorem dX10_about_23 : decode cX10_about 23 = .ok (.astore_n 3, 1) := by decide +kernel
theorem dX10_about_24 : decode cX10_about 24 = .ok (.iload_n 2, 1) := by decide +kernel
theorem dX10_about_25 : decode cX10_about 25 = .ok (.tableswitch 90 0 7 #[47, 52, 57, 62, 67, 72, 77, 82], 47) := by decide +kernel
theorem dX10_about_72 : decode cX10_about 72 = .ok (.aload_n 3, 1) := by decide +kernel
theorem dX10_about_73 : decode cX10_about 73 = .ok (.getfield 174, 3) := by decide +kernel
theorem dX10_about_76 : decode cX10_about 76 = .ok (.ireturn, 1) := by decide +kernel
theorem dX10_about_77 : decode cX10_about 77 = .ok (.aload_n 3, 1) := by decide +kernel
theorem dX10_about_78 : decode cX10_about 78 = .ok (.getfield 177, 3) := by decide +kernel
theorem dX10_about_81 : decode cX10_about 81 = .ok (.ireturn, 1) := by decide +kernel
theorem dX10_about_82 : decode cX10_about 82 = .ok (.aload_n 3, 1) := by decide +kernel
theorem dX10_about_83 : decode cX10_about 83 = .ok (.getfield 180, 3) := by decide +kernel
theorem dX10_about_86 : decode cX10_about 86 = .ok (.ireturn, 1) := by decide +kernel
theorem dX10_about_87 : decode cX10_about 87 = .ok (.aload_n 3, 1) := by decide +kernel
theorem dX10_about_88 : decode cX10_about 88 = .ok (.getfield 183, 3) := by decide +kernel
theorem dX10_about_91 : decode cX10_about 91 = .ok (.ireturn, 1) := by decide +kernel
theorem dX10_about_92 : decode cX10_about 92 = .ok (.aload_n 3, 1) := by decide +kernel
theorem dX10_about_93 : decode cX10_about 93 = .ok (.getfield 186, 3) := by decide +kernel
theorem dX10_about_96 : decode cX10_about 96 = .ok (.ireturn, 1) := by decide +kernel
theorem dX10_about_97 : decode cX10_about 97 = .ok (.aload_n 3, 1) := by decide +kernel
theorem dX10_about_98 : decode cX10_about 98 = .ok (.getfield 189, 3) := by decide +kernel
theorem dX10_about_101 : decode cX10_about 101 = .ok (.ireturn, 1) := by decide +kernel
theorem dX10_about_102 : decode cX10_about 102 = .ok (.aload_n 3, 1) := by decide +kernel
theorem dX10_about_103 : decode cX10_about 103 = .ok (.getfield 192, 3) := by decide +kernel
theorem dX10_about_106 : decode cX10_about 106 = .ok (.ireturn, 1) := by decide +kernel
theorem dX10_about_107 : decode cX10_about 107 = .ok (.aload_n 3, 1) := by decide +kernel
theorem dX10_about_108 : decode cX10_about 108 = .ok (.getfield 195, 3) := by decide +kernel
theorem dX10_about_111 : decode cX10_about 111 = .ok (.invokestatic 133, 3) := by decide +kernel
theorem dX10_about_114 : decode cX10_about 114 = .ok (.ireturn, 1) := by decide +kernel
theorem dX10_about_115 : decode cX10_about 115 = .ok (.ldc 75, 2) := by decide +kernel
theorem dX10_about_117 : decode cX10_about 117 = .ok (.ireturn, 1) := by decide +kernel
theorem dX10_soonest_0 : decode cX10_soonest 0 = .ok (.aload_n 0, 1) := by decide +kernel
theorem dX10_soonest_1 : decode cX10_soonest 1 = .ok (.iload_n 1, 1) := by decide +kernel
theorem dX10_soonest_2 : decode cX10_soonest 2 = .ok (.invokevirtual 198, 3) := by decide +kernel
theorem dX10_soonest_5 : decode cX10_soonest 5 = .ok (.istore_n 2, 1) := by decide +kernel
theorem dX10_soonest_6 : decode cX10_soonest 6 = .ok (.iload_n 2, 1) := by decide +kernel
theorem dX10_soonest_7 : decode cX10_soonest 7 = .ok (.ifCond .ne 19, 3) := by decide +kernel
theorem dX10_soonest_10 : decode cX10_soonest 10 = .ok (.aload_n 0, 1) := by decide +kernel
theorem dX10_soonest_11 : decode cX10_soonest 11 = .ok (.aload_n 0, 1) := by decide +kernel
theorem dX10_soonest_12 : decode cX10_soonest 12 = .ok (.getfield 19, 3) := by decide +kernel
theorem dX10_soonest_15 : decode cX10_soonest 15 = .ok (.getfield 170, 3) := by decide +kernel
theorem dX10_soonest_18 : decode cX10_soonest 18 = .ok (.iload_n 1, 1) := by decide +kernel
theorem dX10_soonest_19 : decode cX10_soonest 19 = .ok (.aaload, 1) := by decide +kernel
theorem dX10_soonest_20 : decode cX10_soonest 20 = .ok (.invokevirtual 201, 3) := by decide +kernel
theorem dX10_soonest_23 : decode cX10_soonest 23 = .ok (.goto 4, 3) := by decide +kernel
theorem dX10_soonest_26 : decode cX10_soonest 26 = .ok (.iload_n 2, 1) := by decide +kernel
theorem dX10_soonest_27 : decode cX10_soonest 27 = .ok (.ireturn, 1) := by decide +kernel
theorem dX10_soonestAt_0 : decode cX10_soonestAt 0 = .ok (.aload_n 0, 1) := by decide +kernel
theorem dX10_soonestAt_1 : decode cX10_soonestAt 1 = .ok (.iload_n 1, 1) := by decide +kernel
theorem dX10_soonestAt_2 : decode cX10_soonestAt 2 = .ok (.iload_n 2, 1) := by decide +kernel
theorem dX10_soonestAt_3 : decode cX10_soonestAt 3 = .ok (.invokevirtual 205, 3) := by decide +kernel
theorem dX10_soonestAt_6 : decode cX10_soonestAt 6 = .ok (.istore 4, 2) := by decide +kernel
theorem dX10_soonestAt_8 : decode cX10_soonestAt 8 = .ok (.iload 4, 2) := by decide +kernel
theorem dX10_soonestAt_10 : decode cX10_soonestAt 10 = .ok (.ifCond .eq 6, 3) := by decide +kernel
theorem dX10_soonestAt_13 : decode cX10_soonestAt 13 = .ok (.iload 4, 2) := by decide +kernel
theorem dX10_soonestAt_15 : decode cX10_soonestAt 15 = .ok (.ireturn, 1) := by decide +kernel
theorem dX10_soonestAt_16 : decode cX10_soonestAt 16 = .ok (.aload_n 0, 1) := by decide +kernel
theorem dX10_soonestAt_17 : decode cX10_soonestAt 17 = .ok (.getfield 19, 3) := by decide +kernel
theorem dX10_soonestAt_20 : decode cX10_soonestAt 20 = .ok (.getfield 170, 3) := by decide +kernel
theorem dX10_soonestAt_23 : decode cX10_soonestAt 23 = .ok (.iload_n 1, 1) := by decide +kernel
theorem dX10_soonestAt_24 : decode cX10_soonestAt 24 = .ok (.aaload, 1) := by decide +kernel
theorem dX10_soonestAt_25 : decode cX10_soonestAt 25 = .ok (.astore 5, 2) := by decide +kernel
theorem dX10_soonestAt_27 : decode cX10_soonestAt 27 = .ok (.aload_n 0, 1) := by decide +kernel
theorem dX10_soonestAt_28 : decode cX10_soonestAt 28 = .ok (.getfield 35, 3) := by decide +kernel
theorem dX10_soonestAt_31 : decode cX10_soonestAt 31 = .ok (.aload 5, 2) := by decide +kernel
theorem dX10_soonestAt_33 : decode cX10_soonestAt 33 = .ok (.invokevirtual 208, 3) := by decide +kernel
theorem dX10_soonestAt_36 : decode cX10_soonestAt 36 = .ok (.ifCond .eq 16, 3) := by decide +kernel
theorem dX10_soonestAt_39 : decode cX10_soonestAt 39 = .ok (.aload 5, 2) := by decide +kernel
theorem dX10_soonestAt_41 : decode cX10_soonestAt 41 = .ok (.getfield 212, 3) := by decide +kernel
theorem dX10_soonestAt_44 : decode cX10_soonestAt 44 = .ok (.iload_n 2, 1) := by decide +kernel
theorem dX10_soonestAt_45 : decode cX10_soonestAt 45 = .ok (.iload_n 3, 1) := by decide +kernel
theorem dX10_soonestAt_46 : decode cX10_soonestAt 46 = .ok (.invokevirtual 216, 3) := by decide +kernel
theorem dX10_soonestAt_49 : decode cX10_soonestAt 49 = .ok (.goto 5, 3) := by decide +kernel
theorem dX10_soonestAt_52 : decode cX10_soonestAt 52 = .ok (.ldc 221, 2) := by decide +kernel
theorem dX10_soonestAt_54 : decode cX10_soonestAt 54 = .ok (.ireturn, 1) := by decide +kernel
theorem dX10_give_0 : decode cX10_give 0 = .ok (.aload_n 0, 1) := by decide +kernel
theorem dX10_give_1 : decode cX10_give 1 = .ok (.iload_n 1, 1) := by decide +kernel
theorem dX10_give_2 : decode cX10_give 2 = .ok (.invokevirtual 198, 3) := by decide +kernel
theorem dX10_give_5 : decode cX10_give 5 = .ok (.istore_n 2, 1) := by decide +kernel
theorem dX10_give_6 : decode cX10_give 6 = .ok (.iload_n 2, 1) := by decide +kernel
theorem dX10_give_7 : decode cX10_give 7 = .ok (.ifCond .eq 5, 3) := by decide +kernel
theorem dX10_give_10 : decode cX10_give 10 = .ok (.iload_n 2, 1) := by decide +kernel
theorem dX10_give_11 : decode cX10_give 11 = .ok (.ireturn, 1) := by decide +kernel
theorem dX10_give_12 : decode cX10_give 12 = .ok (.aload_n 0, 1) := by decide +kernel
theorem dX10_give_13 : decode cX10_give 13 = .ok (.getfield 19, 3) := by decide +kernel
theorem dX10_give_16 : decode cX10_give 16 = .ok (.getfield 170, 3) := by decide +kernel
theorem dX10_give_19 : decode cX10_give 19 = .ok (.iload_n 1, 1) := by decide +kernel
theorem dX10_give_20 : decode cX10_give 20 = .ok (.aaload, 1) := by decide +kernel
theorem dX10_give_21 : decode cX10_give 21 = .ok (.astore_n 3, 1) := by decide +kernel
theorem dX10_give_22 : decode cX10_give 22 = .ok (.aload_n 3, 1) := by decide +kernel
theorem dX10_give_23 : decode cX10_give 23 = .ok (.aload_n 0, 1) := by decide +kernel
theorem dX10_give_24 : decode cX10_give 24 = .ok (.getfield 35, 3) := by decide +kernel
theorem dX10_give_27 : decode cX10_give 27 = .ok (.aload_n 3, 1) := by decide +kernel
theorem dX10_give_28 : decode cX10_give 28 = .ok (.invokevirtual 208, 3) := by decide +kernel
theorem dX10_give_31 : decode cX10_give 31 = .ok (.invokestatic 222, 3) := by decide +kernel
theorem dX10_give_34 : decode cX10_give 34 = .ok (.ireturn, 1) := by decide +kernel
theorem dX10_giveQuiet_0 : decode cX10_giveQuiet 0 = .ok (.aload_n 0, 1) := by decide +kernel
theorem dX10_giveQuiet_1 : decode cX10_giveQuiet 1 = .ok (.iload_n 1, 1) := by decide +kernel
theorem dX10_giveQuiet_2 : decode cX10_giveQuiet 2 = .ok (.invokevirtual 198, 3) := by decide +kernel
theorem dX10_giveQuiet_5 : decode cX10_giveQuiet 5 = .ok (.istore_n 2, 1) := by decide +kernel
theorem dX10_giveQuiet_6 : decode cX10_giveQuiet 6 = .ok (.iload_n 2, 1) := by decide +kernel
theorem dX10_giveQuiet_7 : decode cX10_giveQuiet 7 = .ok (.ifCond .eq 5, 3) := by decide +kernel
theorem dX10_giveQuiet_10 : decode cX10_giveQuiet 10 = .ok (.iload_n 2, 1) := by decide +kernel
theorem dX10_giveQuiet_11 : decode cX10_giveQuiet 11 = .ok (.ireturn, 1) := by decide +kernel
theorem dX10_giveQuiet_12 : decode cX10_giveQuiet 12 = .ok (.aload_n 0, 1) := by decide +kernel
theorem dX10_giveQuiet_13 : decode cX10_giveQuiet 13 = .ok (.getfield 19, 3) := by decide +kernel
theorem dX10_giveQuiet_16 : decode cX10_giveQuiet 16 = .ok (.getfield 170, 3) := by decide +kernel
theorem dX10_giveQuiet_19 : decode cX10_giveQuiet 19 = .ok (.iload_n 1, 1) := by decide +kernel
theorem dX10_giveQuiet_20 : decode cX10_giveQuiet 20 = .ok (.aaload, 1) := by decide +kernel
theorem dX10_giveQuiet_21 : decode cX10_giveQuiet 21 = .ok (.astore_n 3, 1) := by decide +kernel
theorem dX10_giveQuiet_22 : decode cX10_giveQuiet 22 = .ok (.aload_n 3, 1) := by decide +kernel
theorem dX10_giveQuiet_23 : decode cX10_giveQuiet 23 = .ok (.aload_n 0, 1) := by decide +kernel
theorem dX10_giveQuiet_24 : decode cX10_giveQuiet 24 = .ok (.getfield 44, 3) := by decide +kernel
theorem dX10_giveQuiet_27 : decode cX10_giveQuiet 27 = .ok (.aload_n 3, 1) := by decide +kernel
theorem dX10_giveQuiet_28 : decode cX10_giveQuiet 28 = .ok (.invokevirtual 226, 3) := by decide +kernel
theorem dX10_giveQuiet_31 : decode cX10_giveQuiet 31 = .ok (.invokestatic 222, 3) := by decide +kernel
theorem dX10_giveQuiet_34 : decode cX10_giveQuiet 34 = .ok (.ireturn, 1) := by decide +kernel
theorem dX10_take_0 : decode cX10_take 0 = .ok (.aload_n 0, 1) := by decide +kernel
theorem dX10_take_1 : decode cX10_take 1 = .ok (.iload_n 1, 1) := by decide +kernel
theorem dX10_take_2 : decode cX10_take 2 = .ok (.invokevirtual 229, 3) := by decide +kernel
theorem dX10_take_5 : decode cX10_take 5 = .ok (.istore_n 2, 1) := by decide +kernel
theorem dX10_take_6 : decode cX10_take 6 = .ok (.iload_n 2, 1) := by decide +kernel
theorem dX10_take_7 : decode cX10_take 7 = .ok (.ifCond .eq 5, 3) := by decide +kernel
theorem dX10_take_10 : decode cX10_take 10 = .ok (.iload_n 2, 1) := by decide +kernel
theorem dX10_take_11 : decode cX10_take 11 = .ok (.ireturn, 1) := by decide +kernel
theorem dX10_take_12 : decode cX10_take 12 = .ok (.aload_n 0, 1) := by decide +kernel
theorem dX10_take_13 : decode cX10_take 13 = .ok (.getfield 19, 3) := by decide +kernel
theorem dX10_take_16 : decode cX10_take 16 = .ok (.getfield 170, 3) := by decide +kernel
theorem dX10_take_19 : decode cX10_take 19 = .ok (.iload_n 1, 1) := by decide +kernel
theorem dX10_take_20 : decode cX10_take 20 = .ok (.aaload, 1) := by decide +kernel
theorem dX10_take_21 : decode cX10_take 21 = .ok (.astore_n 3, 1) := by decide +kernel
theorem dX10_take_22 : decode cX10_take 22 = .ok (.aload_n 3, 1) := by decide +kernel
theorem dX10_take_23 : decode cX10_take 23 = .ok (.iconst 0, 1) := by decide +kernel
theorem dX10_take_24 : decode cX10_take 24 = .ok (.putfield 195, 3) := by decide +kernel
theorem dX10_take_27 : decode cX10_take 27 = .ok (.aload_n 3, 1) := by decide +kernel
theorem dX10_take_28 : decode cX10_take 28 = .ok (.getfield 212, 3) := by decide +kernel
theorem dX10_take_31 : decode cX10_take 31 = .ok (.getfield 232, 3) := by decide +kernel
theorem dX10_take_34 : decode cX10_take 34 = .ok (.ireturn, 1) := by decide +kernel
theorem dX10_where_0 : decode cX10_where 0 = .ok (.aload_n 0, 1) := by decide +kernel
theorem dX10_where_1 : decode cX10_where 1 = .ok (.getfield 19, 3) := by decide +kernel
theorem dX10_where_4 : decode cX10_where 4 = .ok (.iload_n 1, 1) := by decide +kernel
theorem dX10_where_5 : decode cX10_where 5 = .ok (.invokevirtual 167, 3) := by decide +kernel
theorem dX10_where_8 : decode cX10_where 8 = .ok (.ifCond .ne 6, 3) := by decide +kernel
theorem dX10_where_11 : decode cX10_where 11 = .ok (.ldc 141, 2) := by decide +kernel
theorem dX10_where_13 : decode cX10_where 13 = .ok (.ireturn, 1) := by decide +kernel
theorem dX10_where_14 : decode cX10_where 14 = .ok (.iload_n 2, 1) := by decide +kernel
theorem dX10_where_15 : decode cX10_where 15 = .ok (.invokestatic 142, 3) := by decide +kernel
theorem dX10_where_18 : decode cX10_where 18 = .ok (.ifCond .ne 6, 3) := by decide +kernel
theorem dX10_where_21 : decode cX10_where 21 = .ok (.ldc 75, 2) := by decide +kernel
theorem dX10_where_23 : decode cX10_where 23 = .ok (.ireturn, 1) := by decide +kernel
theorem dX10_where_24 : decode cX10_where 24 = .ok (.aload_n 0, 1) := by decide +kernel
theorem dX10_where_25 : decode cX10_where 25 = .ok (.getfield 19, 3) := by decide +kernel
theorem dX10_where_28 : decode cX10_where 28 = .ok (.getfield 170, 3) := by decide +kernel
theorem dX10_where_31 : decode cX10_where 31 = .ok (.iload_n 1, 1) := by decide +kernel
theorem dX10_where_32 : decode cX10_where 32 = .ok (.aaload, 1) := by decide +kernel
theorem dX10_where_33 : decode cX10_where 33 = .ok (.astore_n 3, 1) := by decide +kernel
theorem dX10_where_34 : decode cX10_where 34 = .ok (.aload_n 3, 1) := by decide +kernel
theorem dX10_where_35 : decode cX10_where 35 = .ok (.getfield 195, 3) := by decide +kernel
theorem dX10_where_38 : decode cX10_where 38 = .ok (.ifCond .ne 6, 3) := by decide +kernel
theorem dX10_where_41 : decode cX10_where 41 = .ok (.ldc 145, 2) := by decide +kernel
theorem dX10_where_43 : decode cX10_where 43 = .ok (.ireturn, 1) := by decide +kernel
theorem dX10_where_44 : decode cX10_where 44 = .ok (.aload_n 3, 1) := by decide +kernel
theorem dX10_where_45 : decode cX10_where 45 = .ok (.getfield 212, 3) := by decide +kernel
theorem dX10_where_48 : decode cX10_where 48 = .ok (.iload_n 2, 1) := by decide +kernel
theorem dX10_where_49 : decode cX10_where 49 = .ok (.invokevirtual 235, 3) := by decide +kernel
theorem dX10_where_52 : decode cX10_where 52 = .ok (.istore 4, 2) := by decide +kernel
theorem dX10_where_54 : decode cX10_where 54 = .ok (.iload 4, 2) := by decide +kernel
theorem dX10_where_56 : decode cX10_where 56 = .ok (.iconst (-1), 1) := by decide +kernel
theorem dX10_where_57 : decode cX10_where 57 = .ok (.if_icmp .ne 8, 3) := by decide +kernel
theorem dX10_where_60 : decode cX10_where 60 = .ok (.ldc 221, 2) := by decide +kernel
theorem dX10_where_62 : decode cX10_where 62 = .ok (.goto 5, 3) := by decide +kernel
theorem dX10_where_65 : decode cX10_where 65 = .ok (.iload 4, 2) := by decide +kernel
theorem dX10_where_67 : decode cX10_where 67 = .ok (.ireturn, 1) := by decide +kernel
theorem dX10_meet_0 : decode cX10_meet 0 = .ok (.aload_n 0, 1) := by decide +kernel
theorem dX10_meet_1 : decode cX10_meet 1 = .ok (.getfield 19, 3) := by decide +kernel
theorem dX10_meet_4 : decode cX10_meet 4 = .ok (.iload_n 1, 1) := by decide +kernel
theorem dX10_meet_5 : decode cX10_meet 5 = .ok (.invokevirtual 167, 3) := by decide +kernel
theorem dX10_meet_8 : decode cX10_meet 8 = .ok (.ifCond .eq 14, 3) := by decide +kernel
theorem dX10_meet_11 : decode cX10_meet 11 = .ok (.aload_n 0, 1) := by decide +kernel
theorem dX10_meet_12 : decode cX10_meet 12 = .ok (.getfield 19, 3) := by decide +kernel
theorem dX10_meet_15 : decode cX10_meet 15 = .ok (.iload_n 2, 1) := by decide +kernel
theorem dX10_meet_16 : decode cX10_meet 16 = .ok (.invokevirtual 167, 3) := by decide +kernel
theorem dX10_meet_19 : decode cX10_meet 19 = .ok (.ifCond .ne 6, 3) := by decide +kernel
theorem dX10_meet_22 : decode cX10_meet 22 = .ok (.ldc 141, 2) := by decide +kernel
theorem dX10_meet_24 : decode cX10_meet 24 = .ok (.ireturn, 1) := by decide +kernel
theorem dX10_meet_25 : decode cX10_meet 25 = .ok (.iload_n 3, 1) := by decide +kernel
theorem dX10_meet_26 : decode cX10_meet 26 = .ok (.iconst 0, 1) := by decide +kernel
theorem dX10_meet_27 : decode cX10_meet 27 = .ok (.iconst 3, 1) := by decide +kernel
theorem dX10_meet_28 : decode cX10_meet 28 = .ok (.invokestatic 71, 3) := by decide +kernel
theorem dX10_meet_31 : decode cX10_meet 31 = .ok (.ifCond .ne 6, 3) := by decide +kernel
theorem dX10_meet_34 : decode cX10_meet 34 = .ok (.ldc 75, 2) := by decide +kernel
theorem dX10_meet_36 : decode cX10_meet 36 = .ok (.ireturn, 1) := by decide +kernel
theorem dX10_meet_37 : decode cX10_meet 37 = .ok (.aload_n 0, 1) := by decide +kernel
theorem dX10_meet_38 : decode cX10_meet 38 = .ok (.getfield 19, 3) := by decide +kernel
theorem dX10_meet_41 : decode cX10_meet 41 = .ok (.getfield 170, 3) := by decide +kernel
theorem dX10_meet_44 : decode cX10_meet 44 = .ok (.iload_n 1, 1) := by decide +kernel
theorem dX10_meet_45 : decode cX10_meet 45 = .ok (.aaload, 1) := by decide +kernel
theorem dX10_meet_46 : decode cX10_meet 46 = .ok (.astore 4, 2) := by decide +kernel
theorem dX10_meet_48 : decode cX10_meet 48 = .ok (.aload_n 0, 1) := by decide +kernel
theorem dX10_meet_49 : decode cX10_meet 49 = .ok (.getfield 19, 3) := by decide +kernel
theorem dX10_meet_52 : decode cX10_meet 52 = .ok (.getfield 170, 3) := by decide +kernel
theorem dX10_meet_55 : decode cX10_meet 55 = .ok (.iload_n 2, 1) := by decide +kernel
theorem dX10_meet_56 : decode cX10_meet 56 = .ok (.aaload, 1) := by decide +kernel
theorem dX10_meet_57 : decode cX10_meet 57 = .ok (.astore 5, 2) := by decide +kernel
theorem dX10_meet_59 : decode cX10_meet 59 = .ok (.aload 4, 2) := by decide +kernel
theorem dX10_meet_61 : decode cX10_meet 61 = .ok (.getfield 195, 3) := by decide +kernel
theorem dX10_meet_64 : decode cX10_meet 64 = .ok (.ifCond .eq 11, 3) := by decide +kernel
theorem dX10_meet_67 : decode cX10_meet 67 = .ok (.aload 5, 2) := by decide +kernel
theorem dX10_meet_69 : decode cX10_meet 69 = .ok (.getfield 195, 3) := by decide +kernel
theorem dX10_meet_72 : decode cX10_meet 72 = .ok (.ifCond .ne 6, 3) := by decide +kernel
theorem dX10_meet_75 : decode cX10_meet 75 = .ok (.ldc 145, 2) := by decide +kernel
theorem dX10_meet_77 : decode cX10_meet 77 = .ok (.ireturn, 1) := by decide +kernel
theorem dX10_meet_78 : decode cX10_meet 78 = .ok (.aload_n 0, 1) := by decide +kernel
theorem dX10_meet_79 : decode cX10_meet 79 = .ok (.getfield 35, 3) := by decide +kernel
theorem dX10_meet_82 : decode cX10_meet 82 = .ok (.aload 4, 2) := by decide +kernel
theorem dX10_meet_84 : decode cX10_meet 84 = .ok (.getfield 212, 3) := by decide +kernel
theorem dX10_meet_87 : decode cX10_meet 87 = .ok (.aload 5, 2) := by decide +kernel
theorem dX10_meet_89 : decode cX10_meet 89 = .ok (.getfield 212, 3) := by decide +kernel
theorem dX10_meet_92 : decode cX10_meet 92 = .ok (.iload_n 3, 1) := by decide +kernel
theorem dX10_meet_93 : decode cX10_meet 93 = .ok (.invokevirtual 238, 3) := by decide +kernel
theorem dX10_meet_96 : decode cX10_meet 96 = .ok (.invokestatic 133, 3) := by decide +kernel
theorem dX10_meet_99 : decode cX10_meet 99 = .ok (.ireturn, 1) := by decide +kernel
theorem dX10_bars_0 : decode cX10_bars 0 = .ok (.aload_n 0, 1) := by decide +kernel
theorem dX10_bars_1 : decode cX10_bars 1 = .ok (.iload_n 1, 1) := by decide +kernel
theorem dX10_bars_2 : decode cX10_bars 2 = .ok (.invokevirtual 198, 3) := by decide +kernel
theorem dX10_bars_5 : decode cX10_bars 5 = .ok (.istore_n 2, 1) := by decide +kernel
theorem dX10_bars_6 : decode cX10_bars 6 = .ok (.iload_n 2, 1) := by decide +kernel
theorem dX10_bars_7 : decode cX10_bars 7 = .ok (.ifCond .eq 5, 3) := by decide +kernel
theorem dX10_bars_10 : decode cX10_bars 10 = .ok (.iload_n 2, 1) := by decide +kernel
theorem dX10_bars_11 : decode cX10_bars 11 = .ok (.ireturn, 1) := by decide +kernel
theorem dX10_bars_12 : decode cX10_bars 12 = .ok (.aload_n 0, 1) := by decide +kernel
theorem dX10_bars_13 : decode cX10_bars 13 = .ok (.getfield 53, 3) := by decide +kernel
theorem dX10_bars_16 : decode cX10_bars 16 = .ok (.aload_n 0, 1) := by decide +kernel
theorem dX10_bars_17 : decode cX10_bars 17 = .ok (.getfield 19, 3) := by decide +kernel
theorem dX10_bars_20 : decode cX10_bars 20 = .ok (.getfield 170, 3) := by decide +kernel
theorem dX10_bars_23 : decode cX10_bars 23 = .ok (.iload_n 1, 1) := by decide +kernel
theorem dX10_bars_24 : decode cX10_bars 24 = .ok (.aaload, 1) := by decide +kernel
theorem dX10_bars_25 : decode cX10_bars 25 = .ok (.invokevirtual 242, 3) := by decide +kernel
theorem dX10_bars_28 : decode cX10_bars 28 = .ok (.ifCond .eq 13, 3) := by decide +kernel
theorem dX10_bars_31 : decode cX10_bars 31 = .ok (.aload_n 0, 1) := by decide +kernel
theorem dX10_bars_32 : decode cX10_bars 32 = .ok (.getfield 53, 3) := by decide +kernel
theorem dX10_bars_35 : decode cX10_bars 35 = .ok (.getfield 245, 3) := by decide +kernel
theorem dX10_bars_38 : decode cX10_bars 38 = .ok (.goto 5, 3) := by decide +kernel
theorem dX10_bars_41 : decode cX10_bars 41 = .ok (.ldc 221, 2) := by decide +kernel
theorem dX10_bars_43 : decode cX10_bars 43 = .ok (.ireturn, 1) := by decide +kernel
theorem dX10_bar_0 : decode cX10_bar 0 = .ok (.aload_n 0, 1) := by decide +kernel
theorem dX10_bar_1 : decode cX10_bar 1 = .ok (.iload_n 1, 1) := by decide +kernel
theorem dX10_bar_2 : decode cX10_bar 2 = .ok (.invokevirtual 198, 3) := by decide +kernel
theorem dX10_bar_5 : decode cX10_bar 5 = .ok (.istore_n 3, 1) := by decide +kernel
theorem dX10_bar_6 : decode cX10_bar 6 = .ok (.iload_n 3, 1) := by decide +kernel
theorem dX10_bar_7 : decode cX10_bar 7 = .ok (.ifCond .eq 5, 3) := by decide +kernel
theorem dX10_bar_10 : decode cX10_bar 10 = .ok (.iload_n 3, 1) := by decide +kernel
theorem dX10_bar_11 : decode cX10_bar 11 = .ok (.ireturn, 1) := by decide +kernel
theorem dX10_bar_12 : decode cX10_bar 12 = .ok (.aload_n 0, 1) := by decide +kernel
theorem dX10_bar_13 : decode cX10_bar 13 = .ok (.getfield 53, 3) := by decide +kernel
theorem dX10_bar_16 : decode cX10_bar 16 = .ok (.aload_n 0, 1) := by decide +kernel
theorem dX10_bar_17 : decode cX10_bar 17 = .ok (.getfield 19, 3) := by decide +kernel
theorem dX10_bar_20 : decode cX10_bar 20 = .ok (.getfield 170, 3) := by decide +kernel
theorem dX10_bar_23 : decode cX10_bar 23 = .ok (.iload_n 1, 1) := by decide +kernel
theorem dX10_bar_24 : decode cX10_bar 24 = .ok (.aaload, 1) := by decide +kernel
theorem dX10_bar_25 : decode cX10_bar 25 = .ok (.invokevirtual 242, 3) := by decide +kernel
theorem dX10_bar_28 : decode cX10_bar 28 = .ok (.ifCond .eq 14, 3) := by decide +kernel
theorem dX10_bar_31 : decode cX10_bar 31 = .ok (.aload_n 0, 1) := by decide +kernel
theorem dX10_bar_32 : decode cX10_bar 32 = .ok (.getfield 53, 3) := by decide +kernel
theorem dX10_bar_35 : decode cX10_bar 35 = .ok (.iload_n 2, 1) := by decide +kernel
theorem dX10_bar_36 : decode cX10_bar 36 = .ok (.invokevirtual 246, 3) := by decide +kernel
theorem dX10_bar_39 : decode cX10_bar 39 = .ok (.goto 5, 3) := by decide +kernel
theorem dX10_bar_42 : decode cX10_bar 42 = .ok (.ldc 221, 2) := by decide +kernel
theorem dX10_bar_44 : decode cX10_bar 44 = .ok (.ireturn, 1) := by decide +kernel
theorem dX10_atOnce_0 : decode cX10_atOnce 0 = .ok (.aload_n 0, 1) := by decide +kernel
theorem dX10_atOnce_1 : decode cX10_atOnce 1 = .ok (.iload_n 1, 1) := by decide +kernel
theorem dX10_atOnce_2 : decode cX10_atOnce 2 = .ok (.invokevirtual 249, 3) := by decide +kernel
theorem dX10_atOnce_5 : decode cX10_atOnce 5 = .ok (.istore_n 2, 1) := by decide +kernel
theorem dX10_atOnce_6 : decode cX10_atOnce 6 = .ok (.iload_n 2, 1) := by decide +kernel
theorem dX10_atOnce_7 : decode cX10_atOnce 7 = .ok (.ifCond .eq 5, 3) := by decide +kernel
theorem dX10_atOnce_10 : decode cX10_atOnce 10 = .ok (.iload_n 2, 1) := by decide +kernel
theorem dX10_atOnce_11 : decode cX10_atOnce 11 = .ok (.ireturn, 1) := by decide +kernel
theorem dX10_atOnce_12 : decode cX10_atOnce 12 = .ok (.aload_n 0, 1) := by decide +kernel
theorem dX10_atOnce_13 : decode cX10_atOnce 13 = .ok (.getfield 60, 3) := by decide +kernel
theorem dX10_atOnce_16 : decode cX10_atOnce 16 = .ok (.iload_n 1, 1) := by decide +kernel
theorem dX10_atOnce_17 : decode cX10_atOnce 17 = .ok (.invokevirtual 252, 3) := by decide +kernel
theorem dX10_atOnce_20 : decode cX10_atOnce 20 = .ok (.aload_n 0, 1) := by decide +kernel
theorem dX10_atOnce_21 : decode cX10_atOnce 21 = .ok (.getfield 60, 3) := by decide +kernel
theorem dX10_atOnce_24 : decode cX10_atOnce 24 = .ok (.getfield 256, 3) := by decide +kernel
theorem dX10_atOnce_27 : decode cX10_atOnce 27 = .ok (.ireturn, 1) := by decide +kernel
theorem dX10_order_0 : decode cX10_order 0 = .ok (.aload_n 0, 1) := by decide +kernel
theorem dX10_order_1 : decode cX10_order 1 = .ok (.iload_n 1, 1) := by decide +kernel
theorem dX10_order_2 : decode cX10_order 2 = .ok (.invokevirtual 249, 3) := by decide +kernel
theorem dX10_order_5 : decode cX10_order 5 = .ok (.istore_n 3, 1) := by decide +kernel
theorem dX10_order_6 : decode cX10_order 6 = .ok (.iload_n 3, 1) := by decide +kernel
theorem dX10_order_7 : decode cX10_order 7 = .ok (.ifCond .eq 5, 3) := by decide +kernel
theorem dX10_order_10 : decode cX10_order 10 = .ok (.iload_n 3, 1) := by decide +kernel
theorem dX10_order_11 : decode cX10_order 11 = .ok (.ireturn, 1) := by decide +kernel
theorem dX10_order_12 : decode cX10_order 12 = .ok (.aload_n 0, 1) := by decide +kernel
theorem dX10_order_13 : decode cX10_order 13 = .ok (.getfield 60, 3) := by decide +kernel
theorem dX10_order_16 : decode cX10_order 16 = .ok (.iload_n 1, 1) := by decide +kernel
theorem dX10_order_17 : decode cX10_order 17 = .ok (.invokevirtual 252, 3) := by decide +kernel
theorem dX10_order_20 : decode cX10_order 20 = .ok (.aload_n 0, 1) := by decide +kernel
theorem dX10_order_21 : decode cX10_order 21 = .ok (.getfield 60, 3) := by decide +kernel
theorem dX10_order_24 : decode cX10_order 24 = .ok (.iload_n 2, 1) := by decide +kernel
theorem dX10_order_25 : decode cX10_order 25 = .ok (.invokevirtual 259, 3) := by decide +kernel
theorem dX10_order_28 : decode cX10_order 28 = .ok (.ireturn, 1) := by decide +kernel
theorem dX10_giveAll_0 : decode cX10_giveAll 0 = .ok (.aload_n 0, 1) := by decide +kernel
theorem dX10_giveAll_1 : decode cX10_giveAll 1 = .ok (.iload_n 1, 1) := by decide +kernel
theorem dX10_giveAll_2 : decode cX10_giveAll 2 = .ok (.invokevirtual 249, 3) := by decide +kernel
theorem dX10_giveAll_5 : decode cX10_giveAll 5 = .ok (.istore_n 2, 1) := by decide +kernel
theorem dX10_giveAll_6 : decode cX10_giveAll 6 = .ok (.iload_n 2, 1) := by decide +kernel
theorem dX10_giveAll_7 : decode cX10_giveAll 7 = .ok (.ifCond .eq 5, 3) := by decide +kernel
theorem dX10_giveAll_10 : decode cX10_giveAll 10 = .ok (.iload_n 2, 1) := by decide +kernel
theorem dX10_giveAll_11 : decode cX10_giveAll 11 = .ok (.ireturn, 1) := by decide +kernel
theorem dX10_giveAll_12 : decode cX10_giveAll 12 = .ok (.aload_n 0, 1) := by decide +kernel
theorem dX10_giveAll_13 : decode cX10_giveAll 13 = .ok (.getfield 60, 3) := by decide +kernel
theorem dX10_giveAll_16 : decode cX10_giveAll 16 = .ok (.iload_n 1, 1) := by decide +kernel
theorem dX10_giveAll_17 : decode cX10_giveAll 17 = .ok (.invokevirtual 252, 3) := by decide +kernel
theorem dX10_giveAll_20 : decode cX10_giveAll 20 = .ok (.aload_n 0, 1) := by decide +kernel
theorem dX10_giveAll_21 : decode cX10_giveAll 21 = .ok (.getfield 60, 3) := by decide +kernel
theorem dX10_giveAll_24 : decode cX10_giveAll 24 = .ok (.invokevirtual 260, 3) := by decide +kernel
theorem dX10_giveAll_27 : decode cX10_giveAll 27 = .ok (.ireturn, 1) := by decide +kernel
theorem dX10_silent_0 : decode cX10_silent 0 = .ok (.aload_n 0, 1) := by decide +kernel
theorem dX10_silent_1 : decode cX10_silent 1 = .ok (.iload_n 1, 1) := by decide +kernel
theorem dX10_silent_2 : decode cX10_silent 2 = .ok (.iload_n 2, 1) := by decide +kernel
theorem dX10_silent_3 : decode cX10_silent 3 = .ok (.invokevirtual 118, 3) := by decide +kernel
theorem dX10_silent_6 : decode cX10_silent 6 = .ok (.istore 4, 2) := by decide +kernel
theorem dX10_silent_8 : decode cX10_silent 8 = .ok (.iload 4, 2) := by decide +kernel
theorem dX10_silent_10 : decode cX10_silent 10 = .ok (.ifCond .eq 6, 3) := by decide +kernel
theorem dX10_silent_13 : decode cX10_silent 13 = .ok (.iload 4, 2) := by decide +kernel
theorem dX10_silent_15 : decode cX10_silent 15 = .ok (.ireturn, 1) := by decide +kernel
theorem dX10_silent_16 : decode cX10_silent 16 = .ok (.iload_n 3, 1) := by decide +kernel
theorem dX10_silent_17 : decode cX10_silent 17 = .ok (.iconst 0, 1) := by decide +kernel
theorem dX10_silent_18 : decode cX10_silent 18 = .ok (.iconst 3, 1) := by decide +kernel
theorem dX10_silent_19 : decode cX10_silent 19 = .ok (.invokestatic 71, 3) := by decide +kernel
theorem dX10_silent_22 : decode cX10_silent 22 = .ok (.ifCond .ne 6, 3) := by decide +kernel
theorem dX10_silent_25 : decode cX10_silent 25 = .ok (.ldc 75, 2) := by decide +kernel
theorem dX10_silent_27 : decode cX10_silent 27 = .ok (.ireturn, 1) := by decide +kernel
theorem dX10_silent_28 : decode cX10_silent 28 = .ok (.aload_n 0, 1) := by decide +kernel
theorem dX10_silent_29 : decode cX10_silent 29 = .ok (.getfield 67, 3) := by decide +kernel
theorem dX10_silent_32 : decode cX10_silent 32 = .ok (.iload_n 1, 1) := by decide +kernel
theorem dX10_silent_33 : decode cX10_silent 33 = .ok (.iload_n 2, 1) := by decide +kernel
theorem dX10_silent_34 : decode cX10_silent 34 = .ok (.iload_n 3, 1) := by decide +kernel
theorem dX10_silent_35 : decode cX10_silent 35 = .ok (.invokevirtual 264, 3) := by decide +kernel
theorem dX10_silent_38 : decode cX10_silent 38 = .ok (.iconst 1, 1) := by decide +kernel
theorem dX10_silent_39 : decode cX10_silent 39 = .ok (.ireturn, 1) := by decide +kernel
theorem dX10_could_0 : decode cX10_could 0 = .ok (.iload_n 1, 1) := by decide +kernel
theorem dX10_could_1 : decode cX10_could 1 = .ok (.invokestatic 142, 3) := by decide +kernel
theorem dX10_could_4 : decode cX10_could 4 = .ok (.ifCond .ne 6, 3) := by decide +kernel
theorem dX10_could_7 : decode cX10_could 7 = .ok (.ldc 75, 2) := by decide +kernel
theorem dX10_could_9 : decode cX10_could 9 = .ok (.ireturn, 1) := by decide +kernel
theorem dX10_could_10 : decode cX10_could 10 = .ok (.aload_n 0, 1) := by decide +kernel
theorem dX10_could_11 : decode cX10_could 11 = .ok (.getfield 67, 3) := by decide +kernel
theorem dX10_could_14 : decode cX10_could 14 = .ok (.invokevirtual 267, 3) := by decide +kernel
theorem dX10_could_17 : decode cX10_could 17 = .ok (.aload_n 0, 1) := by decide +kernel
theorem dX10_could_18 : decode cX10_could 18 = .ok (.getfield 67, 3) := by decide +kernel
theorem dX10_could_21 : decode cX10_could 21 = .ok (.getfield 270, 3) := by decide +kernel
theorem dX10_could_24 : decode cX10_could 24 = .ok (.iload_n 1, 1) := by decide +kernel
theorem dX10_could_25 : decode cX10_could 25 = .ok (.laload, 1) := by decide +kernel
theorem dX10_could_26 : decode cX10_could 26 = .ok (.invokestatic 273, 3) := by decide +kernel
theorem dX10_could_29 : decode cX10_could 29 = .ok (.ireturn, 1) := by decide +kernel
theorem dX10_couldBe_0 : decode cX10_couldBe 0 = .ok (.aload_n 0, 1) := by decide +kernel
theorem dX10_couldBe_1 : decode cX10_couldBe 1 = .ok (.iload_n 1, 1) := by decide +kernel
theorem dX10_couldBe_2 : decode cX10_couldBe 2 = .ok (.iload_n 2, 1) := by decide +kernel
theorem dX10_couldBe_3 : decode cX10_couldBe 3 = .ok (.invokevirtual 118, 3) := by decide +kernel
theorem dX10_couldBe_6 : decode cX10_couldBe 6 = .ok (.istore_n 3, 1) := by decide +kernel
theorem dX10_couldBe_7 : decode cX10_couldBe 7 = .ok (.iload_n 3, 1) := by decide +kernel
theorem dX10_couldBe_8 : decode cX10_couldBe 8 = .ok (.ifCond .eq 5, 3) := by decide +kernel
theorem dX10_couldBe_11 : decode cX10_couldBe 11 = .ok (.iload_n 3, 1) := by decide +kernel
theorem dX10_couldBe_12 : decode cX10_couldBe 12 = .ok (.ireturn, 1) := by decide +kernel
theorem dX10_couldBe_13 : decode cX10_couldBe 13 = .ok (.aload_n 0, 1) := by decide +kernel
theorem dX10_couldBe_14 : decode cX10_couldBe 14 = .ok (.getfield 67, 3) := by decide +kernel
theorem dX10_couldBe_17 : decode cX10_couldBe 17 = .ok (.invokevirtual 267, 3) := by decide +kernel
theorem dX10_couldBe_20 : decode cX10_couldBe 20 = .ok (.aload_n 0, 1) := by decide +kernel
theorem dX10_couldBe_21 : decode cX10_couldBe 21 = .ok (.getfield 67, 3) := by decide +kernel
theorem dX10_couldBe_24 : decode cX10_couldBe 24 = .ok (.getfield 270, 3) := by decide +kernel
theorem dX10_couldBe_27 : decode cX10_couldBe 27 = .ok (.iload_n 2, 1) := by decide +kernel
theorem dX10_couldBe_28 : decode cX10_couldBe 28 = .ok (.laload, 1) := by decide +kernel
theorem dX10_couldBe_29 : decode cX10_couldBe 29 = .ok (.iload_n 1, 1) := by decide +kernel
theorem dX10_couldBe_30 : decode cX10_couldBe 30 = .ok (.invokestatic 129, 3) := by decide +kernel
theorem dX10_couldBe_33 : decode cX10_couldBe 33 = .ok (.invokestatic 133, 3) := by decide +kernel
theorem dX10_couldBe_36 : decode cX10_couldBe 36 = .ok (.ireturn, 1) := by decide +kernel
theorem dX10_ledOff_0 : decode cX10_ledOff 0 = .ok (.aload_n 0, 1) := by decide +kernel
theorem dX10_ledOff_1 : decode cX10_ledOff 1 = .ok (.getfield 67, 3) := by decide +kernel
theorem dX10_ledOff_4 : decode cX10_ledOff 4 = .ok (.invokevirtual 267, 3) := by decide +kernel
theorem dX10_ledOff_7 : decode cX10_ledOff 7 = .ok (.aload_n 0, 1) := by decide +kernel
theorem dX10_ledOff_8 : decode cX10_ledOff 8 = .ok (.getfield 67, 3) := by decide +kernel
theorem dX10_ledOff_11 : decode cX10_ledOff 11 = .ok (.invokevirtual 279, 3) := by decide +kernel
theorem dX10_ledOff_14 : decode cX10_ledOff 14 = .ok (.ireturn, 1) := by decide +kernel
theorem dX10_led_0 : decode cX10_led 0 = .ok (.aload_n 0, 1) := by decide +kernel
theorem dX10_led_1 : decode cX10_led 1 = .ok (.getfield 67, 3) := by decide +kernel
theorem dX10_led_4 : decode cX10_led 4 = .ok (.invokevirtual 267, 3) := by decide +kernel
theorem dX10_led_7 : decode cX10_led 7 = .ok (.aload_n 0, 1) := by decide +kernel
theorem dX10_led_8 : decode cX10_led 8 = .ok (.getfield 67, 3) := by decide +kernel
theorem dX10_led_11 : decode cX10_led 11 = .ok (.iload_n 1, 1) := by decide +kernel
theorem dX10_led_12 : decode cX10_led 12 = .ok (.invokevirtual 282, 3) := by decide +kernel
theorem dX10_led_15 : decode cX10_led 15 = .ok (.ireturn, 1) := by decide +kernel
theorem dX10_ledAt_0 : decode cX10_ledAt 0 = .ok (.aload_n 0, 1) := by decide +kernel
theorem dX10_ledAt_1 : decode cX10_ledAt 1 = .ok (.iload_n 1, 1) := by decide +kernel
theorem dX10_ledAt_2 : decode cX10_ledAt 2 = .ok (.invokevirtual 229, 3) := by decide +kernel
theorem dX10_ledAt_5 : decode cX10_ledAt 5 = .ok (.istore_n 2, 1) := by decide +kernel
theorem dX10_ledAt_6 : decode cX10_ledAt 6 = .ok (.iload_n 2, 1) := by decide +kernel
theorem dX10_ledAt_7 : decode cX10_ledAt 7 = .ok (.ifCond .eq 5, 3) := by decide +kernel
theorem dX10_ledAt_10 : decode cX10_ledAt 10 = .ok (.iload_n 2, 1) := by decide +kernel
theorem dX10_ledAt_11 : decode cX10_ledAt 11 = .ok (.ireturn, 1) := by decide +kernel
theorem dX10_ledAt_12 : decode cX10_ledAt 12 = .ok (.aload_n 0, 1) := by decide +kernel
theorem dX10_ledAt_13 : decode cX10_ledAt 13 = .ok (.getfield 67, 3) := by decide +kernel
theorem dX10_ledAt_16 : decode cX10_ledAt 16 = .ok (.invokevirtual 267, 3) := by decide +kernel
theorem dX10_ledAt_19 : decode cX10_ledAt 19 = .ok (.aload_n 0, 1) := by decide +kernel
theorem dX10_ledAt_20 : decode cX10_ledAt 20 = .ok (.getfield 67, 3) := by decide +kernel
theorem dX10_ledAt_23 : decode cX10_ledAt 23 = .ok (.aload_n 0, 1) := by decide +kernel
theorem dX10_ledAt_24 : decode cX10_ledAt 24 = .ok (.getfield 19, 3) := by decide +kernel
theorem dX10_ledAt_27 : decode cX10_ledAt 27 = .ok (.getfield 170, 3) := by decide +kernel
theorem dX10_ledAt_30 : decode cX10_ledAt 30 = .ok (.iload_n 1, 1) := by decide +kernel
theorem dX10_ledAt_31 : decode cX10_ledAt 31 = .ok (.aaload, 1) := by decide +kernel
theorem dX10_ledAt_32 : decode cX10_ledAt 32 = .ok (.getfield 212, 3) := by decide +kernel
theorem dX10_ledAt_35 : decode cX10_ledAt 35 = .ok (.invokevirtual 285, 3) := by decide +kernel
theorem dX10_ledAt_38 : decode cX10_ledAt 38 = .ok (.ireturn, 1) := by decide +kernel
theorem dX10_ears_0 : decode cX10_ears 0 = .ok (.aload_n 0, 1) := by decide +kernel
theorem dX10_ears_1 : decode cX10_ears 1 = .ok (.getfield 10, 3) := by decide +kernel
theorem dX10_ears_4 : decode cX10_ears 4 = .ok (.iload_n 1, 1) := by decide +kernel
theorem dX10_ears_5 : decode cX10_ears 5 = .ok (.invokevirtual 137, 3) := by decide +kernel
theorem dX10_ears_8 : decode cX10_ears 8 = .ok (.ifCond .ne 6, 3) := by decide +kernel
theorem dX10_ears_11 : decode cX10_ears 11 = .ok (.ldc 141, 2) := by decide +kernel
theorem dX10_ears_13 : decode cX10_ears 13 = .ok (.ireturn, 1) := by decide +kernel
theorem dX10_ears_14 : decode cX10_ears 14 = .ok (.iload_n 2, 1) := by decide +kernel
theorem dX10_ears_15 : decode cX10_ears 15 = .ok (.iconst 0, 1) := by decide +kernel
theorem dX10_ears_16 : decode cX10_ears 16 = .ok (.bipush 99, 2) := by decide +kernel
theorem dX10_ears_18 : decode cX10_ears 18 = .ok (.invokestatic 71, 3) := by decide +kernel
theorem dX10_ears_21 : decode cX10_ears 21 = .ok (.ifCond .eq 15, 3) := by decide +kernel
theorem dX10_ears_24 : decode cX10_ears 24 = .ok (.aload_n 0, 1) := by decide +kernel
theorem dX10_ears_25 : decode cX10_ears 25 = .ok (.getfield 28, 3) := by decide +kernel
theorem dX10_ears_28 : decode cX10_ears 28 = .ok (.iload_n 1, 1) := by decide +kernel
theorem dX10_ears_29 : decode cX10_ears 29 = .ok (.iload_n 2, 1) := by decide +kernel
theorem dX10_ears_30 : decode cX10_ears 30 = .ok (.invokevirtual 289, 3) := by decide +kernel
theorem dX10_ears_33 : decode cX10_ears 33 = .ok (.goto 5, 3) := by decide +kernel
theorem dX10_ears_36 : decode cX10_ears 36 = .ok (.ldc 75, 2) := by decide +kernel
theorem dX10_ears_38 : decode cX10_ears 38 = .ok (.ireturn, 1) := by decide +kernel
theorem dX10_noise_0 : decode cX10_noise 0 = .ok (.aload_n 0, 1) := by decide +kernel
theorem dX10_noise_1 : decode cX10_noise 1 = .ok (.getfield 10, 3) := by decide +kernel
theorem dX10_noise_4 : decode cX10_noise 4 = .ok (.iload_n 1, 1) := by decide +kernel
theorem dX10_noise_5 : decode cX10_noise 5 = .ok (.invokevirtual 137, 3) := by decide +kernel
theorem dX10_noise_8 : decode cX10_noise 8 = .ok (.ifCond .eq 14, 3) := by decide +kernel
theorem dX10_noise_11 : decode cX10_noise 11 = .ok (.aload_n 0, 1) := by decide +kernel
theorem dX10_noise_12 : decode cX10_noise 12 = .ok (.getfield 28, 3) := by decide +kernel
theorem dX10_noise_15 : decode cX10_noise 15 = .ok (.iload_n 1, 1) := by decide +kernel
theorem dX10_noise_16 : decode cX10_noise 16 = .ok (.invokevirtual 292, 3) := by decide +kernel
theorem dX10_noise_19 : decode cX10_noise 19 = .ok (.goto 5, 3) := by decide +kernel
theorem dX10_noise_22 : decode cX10_noise 22 = .ok (.ldc 141, 2) := by decide +kernel
theorem dX10_noise_24 : decode cX10_noise 24 = .ok (.ireturn, 1) := by decide +kernel
theorem dX10_worst_0 : decode cX10_worst 0 = .ok (.aload_n 0, 1) := by decide +kernel
theorem dX10_worst_1 : decode cX10_worst 1 = .ok (.getfield 28, 3) := by decide +kernel
theorem dX10_worst_4 : decode cX10_worst 4 = .ok (.invokevirtual 295, 3) := by decide +kernel
theorem dX10_worst_7 : decode cX10_worst 7 = .ok (.istore_n 2, 1) := by decide +kernel
theorem dX10_worst_8 : decode cX10_worst 8 = .ok (.iload_n 1, 1) := by decide +kernel
theorem dX10_worst_9 : decode cX10_worst 9 = .ok (.ifCond .eq 7, 3) := by decide +kernel
theorem dX10_worst_12 : decode cX10_worst 12 = .ok (.iload_n 2, 1) := by decide +kernel
theorem dX10_worst_13 : decode cX10_worst 13 = .ok (.goto 11, 3) := by decide +kernel
theorem dX10_worst_16 : decode cX10_worst 16 = .ok (.aload_n 0, 1) := by decide +kernel
theorem dX10_worst_17 : decode cX10_worst 17 = .ok (.getfield 28, 3) := by decide +kernel
theorem dX10_worst_20 : decode cX10_worst 20 = .ok (.iload_n 2, 1) := by decide +kernel
theorem dX10_worst_21 : decode cX10_worst 21 = .ok (.invokevirtual 292, 3) := by decide +kernel
theorem dX10_worst_24 : decode cX10_worst 24 = .ok (.ireturn, 1) := by decide +kernel
theorem dX10_quietest_0 : decode cX10_quietest 0 = .ok (.aload_n 0, 1) := by decide +kernel
theorem dX10_quietest_1 : decode cX10_quietest 1 = .ok (.iload_n 1, 1) := by decide +kernel
theorem dX10_quietest_2 : decode cX10_quietest 2 = .ok (.invokevirtual 198, 3) := by decide +kernel
theorem dX10_quietest_5 : decode cX10_quietest 5 = .ok (.istore_n 2, 1) := by decide +kernel
theorem dX10_quietest_6 : decode cX10_quietest 6 = .ok (.iload_n 2, 1) := by decide +kernel
theorem dX10_quietest_7 : decode cX10_quietest 7 = .ok (.ifCond .eq 5, 3) := by decide +kernel
theorem dX10_quietest_10 : decode cX10_quietest 10 = .ok (.iload_n 2, 1) := by decide +kernel
theorem dX10_quietest_11 : decode cX10_quietest 11 = .ok (.ireturn, 1) := by decide +kernel
theorem dX10_quietest_12 : decode cX10_quietest 12 = .ok (.aload_n 0, 1) := by decide +kernel
theorem dX10_quietest_13 : decode cX10_quietest 13 = .ok (.getfield 19, 3) := by decide +kernel
theorem dX10_quietest_16 : decode cX10_quietest 16 = .ok (.getfield 170, 3) := by decide +kernel
theorem dX10_quietest_19 : decode cX10_quietest 19 = .ok (.iload_n 1, 1) := by decide +kernel
theorem dX10_quietest_20 : decode cX10_quietest 20 = .ok (.aaload, 1) := by decide +kernel
theorem dX10_quietest_21 : decode cX10_quietest 21 = .ok (.astore_n 3, 1) := by decide +kernel
theorem dX10_quietest_22 : decode cX10_quietest 22 = .ok (.aload_n 0, 1) := by decide +kernel
theorem dX10_quietest_23 : decode cX10_quietest 23 = .ok (.getfield 44, 3) := by decide +kernel
theorem dX10_quietest_26 : decode cX10_quietest 26 = .ok (.aload_n 3, 1) := by decide +kernel
theorem dX10_quietest_27 : decode cX10_quietest 27 = .ok (.invokevirtual 226, 3) := by decide +kernel
theorem dX10_quietest_30 : decode cX10_quietest 30 = .ok (.ifCond .eq 14, 3) := by decide +kernel
theorem dX10_quietest_33 : decode cX10_quietest 33 = .ok (.aload_n 0, 1) := by decide +kernel
theorem dX10_quietest_34 : decode cX10_quietest 34 = .ok (.getfield 44, 3) := by decide +kernel
theorem dX10_quietest_37 : decode cX10_quietest 37 = .ok (.aload_n 3, 1) := by decide +kernel
theorem dX10_quietest_38 : decode cX10_quietest 38 = .ok (.invokevirtual 298, 3) := by decide +kernel
theorem dX10_quietest_41 : decode cX10_quietest 41 = .ok (.goto 5, 3) := by decide +kernel
theorem dX10_quietest_44 : decode cX10_quietest 44 = .ok (.ldc 221, 2) := by decide +kernel
theorem dX10_quietest_46 : decode cX10_quietest 46 = .ok (.ireturn, 1) := by decide +kernel
theorem dX10_price_0 : decode cX10_price 0 = .ok (.aload_n 0, 1) := by decide +kernel
theorem dX10_price_1 : decode cX10_price 1 = .ok (.iload_n 1, 1) := by decide +kernel
theorem dX10_price_2 : decode cX10_price 2 = .ok (.invokevirtual 198, 3) := by decide +kernel
theorem dX10_price_5 : decode cX10_price 5 = .ok (.istore_n 2, 1) := by decide +kernel
theorem dX10_price_6 : decode cX10_price 6 = .ok (.iload_n 2, 1) := by decide +kernel
theorem dX10_price_7 : decode cX10_price 7 = .ok (.ifCond .eq 5, 3) := by decide +kernel
theorem dX10_price_10 : decode cX10_price 10 = .ok (.iload_n 2, 1) := by decide +kernel
theorem dX10_price_11 : decode cX10_price 11 = .ok (.ireturn, 1) := by decide +kernel
theorem dX10_price_12 : decode cX10_price 12 = .ok (.aload_n 0, 1) := by decide +kernel
theorem dX10_price_13 : decode cX10_price 13 = .ok (.getfield 19, 3) := by decide +kernel
theorem dX10_price_16 : decode cX10_price 16 = .ok (.getfield 170, 3) := by decide +kernel
theorem dX10_price_19 : decode cX10_price 19 = .ok (.iload_n 1, 1) := by decide +kernel
theorem dX10_price_20 : decode cX10_price 20 = .ok (.aaload, 1) := by decide +kernel
theorem dX10_price_21 : decode cX10_price 21 = .ok (.astore_n 3, 1) := by decide +kernel
theorem dX10_price_22 : decode cX10_price 22 = .ok (.aload_n 0, 1) := by decide +kernel
theorem dX10_price_23 : decode cX10_price 23 = .ok (.aload_n 3, 1) := by decide +kernel
theorem dX10_price_24 : decode cX10_price 24 = .ok (.invokevirtual 201, 3) := by decide +kernel
theorem dX10_price_27 : decode cX10_price 27 = .ok (.istore 4, 2) := by decide +kernel
theorem dX10_price_29 : decode cX10_price 29 = .ok (.aload_n 0, 1) := by decide +kernel
theorem dX10_price_30 : decode cX10_price 30 = .ok (.getfield 44, 3) := by decide +kernel
theorem dX10_price_33 : decode cX10_price 33 = .ok (.aload_n 3, 1) := by decide +kernel
theorem dX10_price_34 : decode cX10_price 34 = .ok (.invokevirtual 226, 3) := by decide +kernel
theorem dX10_price_37 : decode cX10_price 37 = .ok (.ifCond .eq 16, 3) := by decide +kernel
theorem dX10_price_40 : decode cX10_price 40 = .ok (.aload_n 3, 1) := by decide +kernel
theorem dX10_price_41 : decode cX10_price 41 = .ok (.getfield 212, 3) := by decide +kernel
theorem dX10_price_44 : decode cX10_price 44 = .ok (.getfield 232, 3) := by decide +kernel
theorem dX10_price_47 : decode cX10_price 47 = .ok (.iload 4, 2) := by decide +kernel
theorem dX10_price_49 : decode cX10_price 49 = .ok (.isub, 1) := by decide +kernel
theorem dX10_price_50 : decode cX10_price 50 = .ok (.goto 5, 3) := by decide +kernel
theorem dX10_price_53 : decode cX10_price 53 = .ok (.ldc 221, 2) := by decide +kernel
theorem dX10_price_55 : decode cX10_price 55 = .ok (.ireturn, 1) := by decide +kernel
theorem dX10_quietAt_0 : decode cX10_quietAt 0 = .ok (.aload_n 0, 1) := by decide +kernel
theorem dX10_quietAt_1 : decode cX10_quietAt 1 = .ok (.iload_n 1, 1) := by decide +kernel
theorem dX10_quietAt_2 : decode cX10_quietAt 2 = .ok (.iload_n 2, 1) := by decide +kernel
theorem dX10_quietAt_3 : decode cX10_quietAt 3 = .ok (.invokevirtual 205, 3) := by decide +kernel
theorem dX10_quietAt_6 : decode cX10_quietAt 6 = .ok (.istore 4, 2) := by decide +kernel
theorem dX10_quietAt_8 : decode cX10_quietAt 8 = .ok (.iload 4, 2) := by decide +kernel
theorem dX10_quietAt_10 : decode cX10_quietAt 10 = .ok (.ifCond .eq 6, 3) := by decide +kernel
theorem dX10_quietAt_13 : decode cX10_quietAt 13 = .ok (.iload 4, 2) := by decide +kernel
theorem dX10_quietAt_15 : decode cX10_quietAt 15 = .ok (.ireturn, 1) := by decide +kernel
theorem dX10_quietAt_16 : decode cX10_quietAt 16 = .ok (.aload_n 0, 1) := by decide +kernel
theorem dX10_quietAt_17 : decode cX10_quietAt 17 = .ok (.getfield 19, 3) := by decide +kernel
theorem dX10_quietAt_20 : decode cX10_quietAt 20 = .ok (.getfield 170, 3) := by decide +kernel
theorem dX10_quietAt_23 : decode cX10_quietAt 23 = .ok (.iload_n 1, 1) := by decide +kernel
theorem dX10_quietAt_24 : decode cX10_quietAt 24 = .ok (.aaload, 1) := by decide +kernel
theorem dX10_quietAt_25 : decode cX10_quietAt 25 = .ok (.astore 5, 2) := by decide +kernel
theorem dX10_quietAt_27 : decode cX10_quietAt 27 = .ok (.aload_n 0, 1) := by decide +kernel
theorem dX10_quietAt_28 : decode cX10_quietAt 28 = .ok (.getfield 44, 3) := by decide +kernel
theorem dX10_quietAt_31 : decode cX10_quietAt 31 = .ok (.aload 5, 2) := by decide +kernel
theorem dX10_quietAt_33 : decode cX10_quietAt 33 = .ok (.invokevirtual 226, 3) := by decide +kernel
theorem dX10_quietAt_36 : decode cX10_quietAt 36 = .ok (.ifCond .eq 16, 3) := by decide +kernel
theorem dX10_quietAt_39 : decode cX10_quietAt 39 = .ok (.aload 5, 2) := by decide +kernel
theorem dX10_quietAt_41 : decode cX10_quietAt 41 = .ok (.getfield 212, 3) := by decide +kernel
theorem dX10_quietAt_44 : decode cX10_quietAt 44 = .ok (.iload_n 2, 1) := by decide +kernel
theorem dX10_quietAt_45 : decode cX10_quietAt 45 = .ok (.iload_n 3, 1) := by decide +kernel
theorem dX10_quietAt_46 : decode cX10_quietAt 46 = .ok (.invokevirtual 216, 3) := by decide +kernel
theorem dX10_quietAt_49 : decode cX10_quietAt 49 = .ok (.goto 5, 3) := by decide +kernel
theorem dX10_quietAt_52 : decode cX10_quietAt 52 = .ok (.ldc 221, 2) := by decide +kernel
theorem dX10_quietAt_54 : decode cX10_quietAt 54 = .ok (.ireturn, 1) := by decide +kernel
theorem dX10_count_0 : decode cX10_count 0 = .ok (.iload_n 1, 1) := by decide +kernel
theorem dX10_count_1 : decode cX10_count 1 = .ok (.tableswitch 87 0 5 #[39, 47, 55, 63, 71, 79], 39) := by decide +kernel
theorem dX10_count_40 : decode cX10_count 40 = .ok (.aload_n 0, 1) := by decide +kernel
theorem dX10_count_41 : decode cX10_count 41 = .ok (.getfield 10, 3) := by decide +kernel
theorem dX10_count_44 : decode cX10_count 44 = .ok (.getfield 91, 3) := by decide +kernel
theorem dX10_count_47 : decode cX10_count 47 = .ok (.ireturn, 1) := by decide +kernel
theorem dX10_count_48 : decode cX10_count 48 = .ok (.aload_n 0, 1) := by decide +kernel
theorem dX10_count_49 : decode cX10_count 49 = .ok (.getfield 10, 3) := by decide +kernel
theorem dX10_count_52 : decode cX10_count 52 = .ok (.getfield 94, 3) := by decide +kernel
theorem dX10_count_55 : decode cX10_count 55 = .ok (.ireturn, 1) := by decide +kernel
theorem dX10_count_56 : decode cX10_count 56 = .ok (.aload_n 0, 1) := by decide +kernel
theorem dX10_count_57 : decode cX10_count 57 = .ok (.getfield 10, 3) := by decide +kernel
theorem dX10_count_60 : decode cX10_count 60 = .ok (.getfield 105, 3) := by decide +kernel
theorem dX10_count_63 : decode cX10_count 63 = .ok (.ireturn, 1) := by decide +kernel
theorem dX10_count_64 : decode cX10_count 64 = .ok (.aload_n 0, 1) := by decide +kernel
theorem dX10_count_65 : decode cX10_count 65 = .ok (.getfield 19, 3) := by decide +kernel
theorem dX10_count_68 : decode cX10_count 68 = .ok (.getfield 80, 3) := by decide +kernel
theorem dX10_count_71 : decode cX10_count 71 = .ok (.ireturn, 1) := by decide +kernel
theorem dX10_count_72 : decode cX10_count 72 = .ok (.aload_n 0, 1) := by decide +kernel
theorem dX10_count_73 : decode cX10_count 73 = .ok (.getfield 19, 3) := by decide +kernel
theorem dX10_count_76 : decode cX10_count 76 = .ok (.invokevirtual 301, 3) := by decide +kernel
theorem dX10_count_79 : decode cX10_count 79 = .ok (.ireturn, 1) := by decide +kernel
theorem dX10_count_80 : decode cX10_count 80 = .ok (.aload_n 0, 1) := by decide +kernel
theorem dX10_count_81 : decode cX10_count 81 = .ok (.getfield 19, 3) := by decide +kernel
theorem dX10_count_84 : decode cX10_count 84 = .ok (.invokevirtual 304, 3) := by decide +kernel
theorem dX10_count_87 : decode cX10_count 87 = .ok (.ireturn, 1) := by decide +kernel
theorem dX10_count_88 : decode cX10_count 88 = .ok (.ldc 75, 2) := by decide +kernel
theorem dX10_count_90 : decode cX10_count 90 = .ok (.ireturn, 1) := by decide +kernel
theorem dX10_refuseCellAt_0 : decode cX10_refuseCellAt 0 = .ok (.aload_n 0, 1) := by decide +kernel
theorem dX10_refuseCellAt_1 : decode cX10_refuseCellAt 1 = .ok (.getfield 10, 3) := by decide +kernel
theorem dX10_refuseCellAt_4 : decode cX10_refuseCellAt 4 = .ok (.iload_n 1, 1) := by decide +kernel
theorem dX10_refuseCellAt_5 : decode cX10_refuseCellAt 5 = .ok (.invokevirtual 137, 3) := by decide +kernel
theorem dX10_refuseCellAt_8 : decode cX10_refuseCellAt 8 = .ok (.ifCond .ne 6, 3) := by decide +kernel
theorem dX10_refuseCellAt_11 : decode cX10_refuseCellAt 11 = .ok (.ldc 141, 2) := by decide +kernel
theorem dX10_refuseCellAt_13 : decode cX10_refuseCellAt 13 = .ok (.ireturn, 1) := by decide +kernel
theorem dX10_refuseCellAt_14 : decode cX10_refuseCellAt 14 = .ok (.iload_n 2, 1) := by decide +kernel
theorem dX10_refuseCellAt_15 : decode cX10_refuseCellAt 15 = .ok (.invokestatic 142, 3) := by decide +kernel
theorem dX10_refuseCellAt_18 : decode cX10_refuseCellAt 18 = .ok (.ifCond .eq 7, 3) := by decide +kernel
theorem dX10_refuseCellAt_21 : decode cX10_refuseCellAt 21 = .ok (.iconst 0, 1) := by decide +kernel
theorem dX10_refuseCellAt_22 : decode cX10_refuseCellAt 22 = .ok (.goto 5, 3) := by decide +kernel
theorem dX10_refuseCellAt_25 : decode cX10_refuseCellAt 25 = .ok (.ldc 75, 2) := by decide +kernel
theorem dX10_refuseCellAt_27 : decode cX10_refuseCellAt 27 = .ok (.ireturn, 1) := by decide +kernel
theorem dX10_refuseSpan_0 : decode cX10_refuseSpan 0 = .ok (.aload_n 0, 1) := by decide +kernel
theorem dX10_refuseSpan_1 : decode cX10_refuseSpan 1 = .ok (.getfield 10, 3) := by decide +kernel
theorem dX10_refuseSpan_4 : decode cX10_refuseSpan 4 = .ok (.iload_n 1, 1) := by decide +kernel
theorem dX10_refuseSpan_5 : decode cX10_refuseSpan 5 = .ok (.invokevirtual 137, 3) := by decide +kernel
theorem dX10_refuseSpan_8 : decode cX10_refuseSpan 8 = .ok (.ifCond .ne 6, 3) := by decide +kernel
theorem dX10_refuseSpan_11 : decode cX10_refuseSpan 11 = .ok (.ldc 141, 2) := by decide +kernel
theorem dX10_refuseSpan_13 : decode cX10_refuseSpan 13 = .ok (.ireturn, 1) := by decide +kernel
theorem dX10_refuseSpan_14 : decode cX10_refuseSpan 14 = .ok (.iload_n 2, 1) := by decide +kernel
theorem dX10_refuseSpan_15 : decode cX10_refuseSpan 15 = .ok (.invokestatic 142, 3) := by decide +kernel
theorem dX10_refuseSpan_18 : decode cX10_refuseSpan 18 = .ok (.ifCond .eq 15, 3) := by decide +kernel
theorem dX10_refuseSpan_21 : decode cX10_refuseSpan 21 = .ok (.iload_n 3, 1) := by decide +kernel
theorem dX10_refuseSpan_22 : decode cX10_refuseSpan 22 = .ok (.invokestatic 142, 3) := by decide +kernel
theorem dX10_refuseSpan_25 : decode cX10_refuseSpan 25 = .ok (.ifCond .eq 8, 3) := by decide +kernel
theorem dX10_refuseSpan_28 : decode cX10_refuseSpan 28 = .ok (.iload_n 3, 1) := by decide +kernel
theorem dX10_refuseSpan_29 : decode cX10_refuseSpan 29 = .ok (.iload_n 2, 1) := by decide +kernel
theorem dX10_refuseSpan_30 : decode cX10_refuseSpan 30 = .ok (.if_icmp .ge 6, 3) := by decide +kernel
theorem dX10_refuseSpan_33 : decode cX10_refuseSpan 33 = .ok (.ldc 75, 2) := by decide +kernel
theorem dX10_refuseSpan_35 : decode cX10_refuseSpan 35 = .ok (.ireturn, 1) := by decide +kernel
theorem dX10_refuseSpan_36 : decode cX10_refuseSpan 36 = .ok (.iload 4, 2) := by decide +kernel
theorem dX10_refuseSpan_38 : decode cX10_refuseSpan 38 = .ok (.bipush 20, 2) := by decide +kernel
theorem dX10_refuseSpan_40 : decode cX10_refuseSpan 40 = .ok (.if_icmp .ge 7, 3) := by decide +kernel
theorem dX10_refuseSpan_43 : decode cX10_refuseSpan 43 = .ok (.iconst 0, 1) := by decide +kernel
theorem dX10_refuseSpan_44 : decode cX10_refuseSpan 44 = .ok (.goto 5, 3) := by decide +kernel
theorem dX10_refuseSpan_47 : decode cX10_refuseSpan 47 = .ok (.ldc 150, 2) := by decide +kernel
theorem dX10_refuseSpan_49 : decode cX10_refuseSpan 49 = .ok (.ireturn, 1) := by decide +kernel
theorem dX10_refuseGiven_0 : decode cX10_refuseGiven 0 = .ok (.aload_n 0, 1) := by decide +kernel
theorem dX10_refuseGiven_1 : decode cX10_refuseGiven 1 = .ok (.getfield 19, 3) := by decide +kernel
theorem dX10_refuseGiven_4 : decode cX10_refuseGiven 4 = .ok (.iload_n 1, 1) := by decide +kernel
theorem dX10_refuseGiven_5 : decode cX10_refuseGiven 5 = .ok (.invokevirtual 167, 3) := by decide +kernel
theorem dX10_refuseGiven_8 : decode cX10_refuseGiven 8 = .ok (.ifCond .ne 6, 3) := by decide +kernel
theorem dX10_refuseGiven_11 : decode cX10_refuseGiven 11 = .ok (.ldc 141, 2) := by decide +kernel
theorem dX10_refuseGiven_13 : decode cX10_refuseGiven 13 = .ok (.ireturn, 1) := by decide +kernel
theorem dX10_refuseGiven_14 : decode cX10_refuseGiven 14 = .ok (.aload_n 0, 1) := by decide +kernel
theorem dX10_refuseGiven_15 : decode cX10_refuseGiven 15 = .ok (.getfield 19, 3) := by decide +kernel
theorem dX10_refuseGiven_18 : decode cX10_refuseGiven 18 = .ok (.getfield 170, 3) := by decide +kernel
theorem dX10_refuseGiven_21 : decode cX10_refuseGiven 21 = .ok (.iload_n 1, 1) := by decide +kernel
theorem dX10_refuseGiven_22 : decode cX10_refuseGiven 22 = .ok (.aaload, 1) := by decide +kernel
theorem dX10_refuseGiven_23 : decode cX10_refuseGiven 23 = .ok (.getfield 195, 3) := by decide +kernel
theorem dX10_refuseGiven_26 : decode cX10_refuseGiven 26 = .ok (.ifCond .eq 8, 3) := by decide +kernel
theorem dX10_refuseGiven_29 : decode cX10_refuseGiven 29 = .ok (.ldc 145, 2) := by decide +kernel
theorem dX10_refuseGiven_31 : decode cX10_refuseGiven 31 = .ok (.goto 4, 3) := by decide +kernel
theorem dX10_refuseGiven_34 : decode cX10_refuseGiven 34 = .ok (.iconst 0, 1) := by decide +kernel
theorem dX10_refuseGiven_35 : decode cX10_refuseGiven 35 = .ok (.ireturn, 1) := by decide +kernel
theorem dX10_refuseNotGiven_0 : decode cX10_refuseNotGiven 0 = .ok (.aload_n 0, 1) := by decide +kernel
theorem dX10_refuseNotGiven_1 : decode cX10_refuseNotGiven 1 = .ok (.getfield 19, 3) := by decide +kernel
theorem dX10_refuseNotGiven_4 : decode cX10_refuseNotGiven 4 = .ok (.iload_n 1, 1) := by decide +kernel
theorem dX10_refuseNotGiven_5 : decode cX10_refuseNotGiven 5 = .ok (.invokevirtual 167, 3) := by decide +kernel
theorem dX10_refuseNotGiven_8 : decode cX10_refuseNotGiven 8 = .ok (.ifCond .ne 6, 3) := by decide +kernel
theorem dX10_refuseNotGiven_11 : decode cX10_refuseNotGiven 11 = .ok (.ldc 141, 2) := by decide +kernel
theorem dX10_refuseNotGiven_13 : decode cX10_refuseNotGiven 13 = .ok (.ireturn, 1) := by decide +kernel
theorem dX10_refuseNotGiven_14 : decode cX10_refuseNotGiven 14 = .ok (.aload_n 0, 1) := by decide +kernel
theorem dX10_refuseNotGiven_15 : decode cX10_refuseNotGiven 15 = .ok (.getfield 19, 3) := by decide +kernel
theorem dX10_refuseNotGiven_18 : decode cX10_refuseNotGiven 18 = .ok (.getfield 170, 3) := by decide +kernel
theorem dX10_refuseNotGiven_21 : decode cX10_refuseNotGiven 21 = .ok (.iload_n 1, 1) := by decide +kernel
theorem dX10_refuseNotGiven_22 : decode cX10_refuseNotGiven 22 = .ok (.aaload, 1) := by decide +kernel
theorem dX10_refuseNotGiven_23 : decode cX10_refuseNotGiven 23 = .ok (.getfield 195, 3) := by decide +kernel
theorem dX10_refuseNotGiven_26 : decode cX10_refuseNotGiven 26 = .ok (.ifCond .eq 7, 3) := by decide +kernel
theorem dX10_refuseNotGiven_29 : decode cX10_refuseNotGiven 29 = .ok (.iconst 0, 1) := by decide +kernel
theorem dX10_refuseNotGiven_30 : decode cX10_refuseNotGiven 30 = .ok (.goto 5, 3) := by decide +kernel
theorem dX10_refuseNotGiven_33 : decode cX10_refuseNotGiven 33 = .ok (.ldc 145, 2) := by decide +kernel
theorem dX10_refuseNotGiven_35 : decode cX10_refuseNotGiven 35 = .ok (.ireturn, 1) := by decide +kernel
theorem dX10_refuseTelling_0 : decode cX10_refuseTelling 0 = .ok (.aload_n 0, 1) := by decide +kernel
theorem dX10_refuseTelling_1 : decode cX10_refuseTelling 1 = .ok (.getfield 19, 3) := by decide +kernel
theorem dX10_refuseTelling_4 : decode cX10_refuseTelling 4 = .ok (.iload_n 1, 1) := by decide +kernel
theorem dX10_refuseTelling_5 : decode cX10_refuseTelling 5 = .ok (.invokevirtual 167, 3) := by decide +kernel
theorem dX10_refuseTelling_8 : decode cX10_refuseTelling 8 = .ok (.ifCond .ne 6, 3) := by decide +kernel
theorem dX10_refuseTelling_11 : decode cX10_refuseTelling 11 = .ok (.ldc 141, 2) := by decide +kernel
theorem dX10_refuseTelling_13 : decode cX10_refuseTelling 13 = .ok (.ireturn, 1) := by decide +kernel
theorem dX10_refuseTelling_14 : decode cX10_refuseTelling 14 = .ok (.iload_n 2, 1) := by decide +kernel
theorem dX10_refuseTelling_15 : decode cX10_refuseTelling 15 = .ok (.iconst 0, 1) := by decide +kernel
theorem dX10_refuseTelling_16 : decode cX10_refuseTelling 16 = .ok (.iconst 1, 1) := by decide +kernel
theorem dX10_refuseTelling_17 : decode cX10_refuseTelling 17 = .ok (.invokestatic 71, 3) := by decide +kernel
theorem dX10_refuseTelling_20 : decode cX10_refuseTelling 20 = .ok (.ifCond .ne 6, 3) := by decide +kernel
theorem dX10_refuseTelling_23 : decode cX10_refuseTelling 23 = .ok (.ldc 75, 2) := by decide +kernel
theorem dX10_refuseTelling_25 : decode cX10_refuseTelling 25 = .ok (.ireturn, 1) := by decide +kernel
theorem dX10_refuseTelling_26 : decode cX10_refuseTelling 26 = .ok (.aload_n 0, 1) := by decide +kernel
theorem dX10_refuseTelling_27 : decode cX10_refuseTelling 27 = .ok (.iload_n 1, 1) := by decide +kernel
theorem dX10_refuseTelling_28 : decode cX10_refuseTelling 28 = .ok (.invokevirtual 198, 3) := by decide +kernel
theorem dX10_refuseTelling_31 : decode cX10_refuseTelling 31 = .ok (.ireturn, 1) := by decide +kernel
theorem dX10_refuseSet_0 : decode cX10_refuseSet 0 = .ok (.iload_n 1, 1) := by decide +kernel
theorem dX10_refuseSet_1 : decode cX10_refuseSet 1 = .ok (.aload_n 0, 1) := by decide +kernel
theorem dX10_refuseSet_2 : decode cX10_refuseSet 2 = .ok (.getfield 19, 3) := by decide +kernel
theorem dX10_refuseSet_5 : decode cX10_refuseSet 5 = .ok (.getfield 80, 3) := by decide +kernel
theorem dX10_refuseSet_8 : decode cX10_refuseSet 8 = .ok (.iushr, 1) := by decide +kernel
theorem dX10_refuseSet_9 : decode cX10_refuseSet 9 = .ok (.ifCond .ne 11, 3) := by decide +kernel
theorem dX10_refuseSet_12 : decode cX10_refuseSet 12 = .ok (.iload_n 1, 1) := by decide +kernel
theorem dX10_refuseSet_13 : decode cX10_refuseSet 13 = .ok (.invokestatic 307, 3) := by decide +kernel
theorem dX10_refuseSet_16 : decode cX10_refuseSet 16 = .ok (.iconst 5, 1) := by decide +kernel
theorem dX10_refuseSet_17 : decode cX10_refuseSet 17 = .ok (.if_icmp .le 6, 3) := by decide +kernel
theorem dX10_refuseSet_20 : decode cX10_refuseSet 20 = .ok (.ldc 75, 2) := by decide +kernel
theorem dX10_refuseSet_22 : decode cX10_refuseSet 22 = .ok (.ireturn, 1) := by decide +kernel
theorem dX10_refuseSet_23 : decode cX10_refuseSet 23 = .ok (.iload_n 1, 1) := by decide +kernel
theorem dX10_refuseSet_24 : decode cX10_refuseSet 24 = .ok (.aload_n 0, 1) := by decide +kernel
theorem dX10_refuseSet_25 : decode cX10_refuseSet 25 = .ok (.getfield 19, 3) := by decide +kernel
theorem dX10_refuseSet_28 : decode cX10_refuseSet 28 = .ok (.invokevirtual 311, 3) := by decide +kernel
theorem dX10_refuseSet_31 : decode cX10_refuseSet 31 = .ok (.iand, 1) := by decide +kernel
theorem dX10_refuseSet_32 : decode cX10_refuseSet 32 = .ok (.ifCond .ne 7, 3) := by decide +kernel
theorem dX10_refuseSet_35 : decode cX10_refuseSet 35 = .ok (.iconst 0, 1) := by decide +kernel
theorem dX10_refuseSet_36 : decode cX10_refuseSet 36 = .ok (.goto 5, 3) := by decide +kernel
theorem dX10_refuseSet_39 : decode cX10_refuseSet 39 = .ok (.ldc 145, 2) := by decide +kernel
theorem dX10_refuseSet_41 : decode cX10_refuseSet 41 = .ok (.ireturn, 1) := by decide +kernel
theorem dX10_endOfSoonest_0 : decode cX10_endOfSoonest 0 = .ok (.aload_n 0, 1) := by decide +kernel
theorem dX10_endOfSoonest_1 : decode cX10_endOfSoonest 1 = .ok (.getfield 35, 3) := by decide +kernel
theorem dX10_endOfSoonest_4 : decode cX10_endOfSoonest 4 = .ok (.aload_n 1, 1) := by decide +kernel
theorem dX10_endOfSoonest_5 : decode cX10_endOfSoonest 5 = .ok (.invokevirtual 208, 3) := by decide +kernel
theorem dX10_endOfSoonest_8 : decode cX10_endOfSoonest 8 = .ok (.ifCond .eq 13, 3) := by decide +kernel
theorem dX10_endOfSoonest_11 : decode cX10_endOfSoonest 11 = .ok (.aload_n 1, 1) := by decide +kernel
theorem dX10_endOfSoonest_12 : decode cX10_endOfSoonest 12 = .ok (.getfield 212, 3) := by decide +kernel
theorem dX10_endOfSoonest_15 : decode cX10_endOfSoonest 15 = .ok (.getfield 232, 3) := by decide +kernel
theorem dX10_endOfSoonest_18 : decode cX10_endOfSoonest 18 = .ok (.goto 5, 3) := by decide +kernel
theorem dX10_endOfSoonest_21 : decode cX10_endOfSoonest 21 = .ok (.ldc 221, 2) := by decide +kernel
theorem dX10_endOfSoonest_23 : decode cX10_endOfSoonest 23 = .ok (.ireturn, 1) := by decide +kernel
theorem dX10_giveIf_0 : decode cX10_giveIf 0 = .ok (.iload_n 1, 1) := by decide +kernel
theorem dX10_giveIf_1 : decode cX10_giveIf 1 = .ok (.ifCond .ne 6, 3) := by decide +kernel
theorem dX10_giveIf_4 : decode cX10_giveIf 4 = .ok (.ldc 145, 2) := by decide +kernel
theorem dX10_giveIf_6 : decode cX10_giveIf 6 = .ok (.ireturn, 1) := by decide +kernel
theorem dX10_giveIf_7 : decode cX10_giveIf 7 = .ok (.aload_n 0, 1) := by decide +kernel
theorem dX10_giveIf_8 : decode cX10_giveIf 8 = .ok (.iconst 1, 1) := by decide +kernel
theorem dX10_giveIf_9 : decode cX10_giveIf 9 = .ok (.putfield 195, 3) := by decide +kernel
theorem dX10_giveIf_12 : decode cX10_giveIf 12 = .ok (.aload_n 0, 1) := by decide +kernel
theorem dX10_giveIf_13 : decode cX10_giveIf 13 = .ok (.getfield 212, 3) := by decide +kernel
theorem dX10_giveIf_16 : decode cX10_giveIf 16 = .ok (.getfield 232, 3) := by decide +kernel
theorem dX10_giveIf_19 : decode cX10_giveIf 19 = .ok (.ireturn, 1) := by decide +kernel
theorem dX10_isWithin_0 : decode cX10_isWithin 0 = .ok (.iload_n 0, 1) := by decide +kernel
theorem dX10_isWithin_1 : decode cX10_isWithin 1 = .ok (.iload_n 1, 1) := by decide +kernel
theorem dX10_isWithin_2 : decode cX10_isWithin 2 = .ok (.if_icmp .lt 12, 3) := by decide +kernel
theorem dX10_isWithin_5 : decode cX10_isWithin 5 = .ok (.iload_n 0, 1) := by decide +kernel
theorem dX10_isWithin_6 : decode cX10_isWithin 6 = .ok (.iload_n 2, 1) := by decide +kernel
theorem dX10_isWithin_7 : decode cX10_isWithin 7 = .ok (.if_icmp .gt 7, 3) := by decide +kernel
theorem dX10_isWithin_10 : decode cX10_isWithin 10 = .ok (.iconst 1, 1) := by decide +kernel
theorem dX10_isWithin_11 : decode cX10_isWithin 11 = .ok (.goto 4, 3) := by decide +kernel
theorem dX10_isWithin_14 : decode cX10_isWithin 14 = .ok (.iconst 0, 1) := by decide +kernel
theorem dX10_isWithin_15 : decode cX10_isWithin 15 = .ok (.ireturn, 1) := by decide +kernel
theorem dX10_isMinute_0 : decode cX10_isMinute 0 = .ok (.iload_n 0, 1) := by decide +kernel
theorem dX10_isMinute_1 : decode cX10_isMinute 1 = .ok (.iconst 0, 1) := by decide +kernel
theorem dX10_isMinute_2 : decode cX10_isMinute 2 = .ok (.bipush 59, 2) := by decide +kernel
theorem dX10_isMinute_4 : decode cX10_isMinute 4 = .ok (.invokestatic 71, 3) := by decide +kernel
theorem dX10_isMinute_7 : decode cX10_isMinute 7 = .ok (.ireturn, 1) := by decide +kernel
theorem dX10_oneIf_0 : decode cX10_oneIf 0 = .ok (.iload_n 0, 1) := by decide +kernel
theorem dX10_oneIf_1 : decode cX10_oneIf 1 = .ok (.ifCond .eq 7, 3) := by decide +kernel
theorem dX10_oneIf_4 : decode cX10_oneIf 4 = .ok (.iconst 1, 1) := by decide +kernel
theorem dX10_oneIf_5 : decode cX10_oneIf 5 = .ok (.goto 4, 3) := by decide +kernel
theorem dX10_oneIf_8 : decode cX10_oneIf 8 = .ok (.iconst 0, 1) := by decide +kernel
theorem dX10_oneIf_9 : decode cX10_oneIf 9 = .ok (.ireturn, 1) := by decide +kernel
theorem dX10_holds_0 : decode cX10_holds 0 = .ok (.lload_n 0, 1) := by decide +kernel
theorem dX10_holds_1 : decode cX10_holds 1 = .ok (.iload_n 2, 1) := by decide +kernel
theorem dX10_holds_2 : decode cX10_holds 2 = .ok (.lushr, 1) := by decide +kernel
theorem dX10_holds_3 : decode cX10_holds 3 = .ok (.lconst 1, 1) := by decide +kernel
theorem dX10_holds_4 : decode cX10_holds 4 = .ok (.land, 1) := by decide +kernel
theorem dX10_holds_5 : decode cX10_holds 5 = .ok (.lconst 0, 1) := by decide +kernel
theorem dX10_holds_6 : decode cX10_holds 6 = .ok (.lcmp, 1) := by decide +kernel
theorem dX10_holds_7 : decode cX10_holds 7 = .ok (.ifCond .eq 7, 3) := by decide +kernel
theorem dX10_holds_10 : decode cX10_holds 10 = .ok (.iconst 1, 1) := by decide +kernel
theorem dX10_holds_11 : decode cX10_holds 11 = .ok (.goto 4, 3) := by decide +kernel
theorem dX10_holds_14 : decode cX10_holds 14 = .ok (.iconst 0, 1) := by decide +kernel
theorem dX10_holds_15 : decode cX10_holds 15 = .ok (.ireturn, 1) := by decide +kernel
theorem dX10_isIn_0 : decode cX10_isIn 0 = .ok (.iload_n 0, 1) := by decide +kernel
theorem dX10_isIn_1 : decode cX10_isIn 1 = .ok (.iload_n 1, 1) := by decide +kernel
theorem dX10_isIn_2 : decode cX10_isIn 2 = .ok (.iushr, 1) := by decide +kernel
end
section
theorem dX10_isIn_3 : decode cX10_isIn 3 = .ok (.iconst 1, 1) := by decide +kernel
theorem dX10_isIn_4 : decode cX10_isIn 4 = .ok (.iand, 1) := by decide +kernel
theorem dX10_isIn_5 : decode cX10_isIn 5 = .ok (.ifCond .eq 7, 3) := by decide +kernel
theorem dX10_isIn_8 : decode cX10_isIn 8 = .ok (.iconst 1, 1) := by decide +kernel
theorem dX10_isIn_9 : decode cX10_isIn 9 = .ok (.goto 4, 3) := by decide +kernel
theorem dX10_isIn_12 : decode cX10_isIn 12 = .ok (.iconst 0, 1) := by decide +kernel
theorem dX10_isIn_13 : decode cX10_isIn 13 = .ok (.ireturn, 1) := by decide +kernel
theorem dX11_init_0 : decode cX11_init 0 = .ok (.aload_n 0, 1) := by decide +kernel
theorem dX11_init_1 : decode cX11_init 1 = .ok (.invokespecial 1, 3) := by decide +kernel
theorem dX11_init_4 : decode cX11_init 4 = .ok (.aload_n 0, 1) := by decide +kernel
theorem dX11_init_5 : decode cX11_init 5 = .ok (.iconst 1, 1) := by decide +kernel
theorem dX11_init_6 : decode cX11_init 6 = .ok (.putfield 7, 3) := by decide +kernel
theorem dX11_init_9 : decode cX11_init 9 = .ok (.aload_n 0, 1) := by decide +kernel
theorem dX11_init_10 : decode cX11_init 10 = .ok (.sipush 2160, 3) := by decide +kernel
theorem dX11_init_13 : decode cX11_init 13 = .ok (.newarray .boolean, 2) := by decide +kernel
theorem dX11_init_15 : decode cX11_init 15 = .ok (.putfield 13, 3) := by decide +kernel
theorem dX11_init_18 : decode cX11_init 18 = .ok (.aload_n 0, 1) := by decide +kernel
theorem dX11_init_19 : decode cX11_init 19 = .ok (.sipush 2340, 3) := by decide +kernel
theorem dX11_init_22 : decode cX11_init 22 = .ok (.newarray .boolean, 2) := by decide +kernel
theorem dX11_init_24 : decode cX11_init 24 = .ok (.putfield 17, 3) := by decide +kernel
theorem dX11_init_27 : decode cX11_init 27 = .ok (.aload_n 0, 1) := by decide +kernel
theorem dX11_init_28 : decode cX11_init 28 = .ok (.bipush 36, 2) := by decide +kernel
theorem dX11_init_30 : decode cX11_init 30 = .ok (.newarray .int, 2) := by decide +kernel
theorem dX11_init_32 : decode cX11_init 32 = .ok (.putfield 20, 3) := by decide +kernel
theorem dX11_init_35 : decode cX11_init 35 = .ok (.aload_n 0, 1) := by decide +kernel
theorem dX11_init_36 : decode cX11_init 36 = .ok (.bipush 80, 2) := by decide +kernel
theorem dX11_init_38 : decode cX11_init 38 = .ok (.newarray .int, 2) := by decide +kernel
theorem dX11_init_40 : decode cX11_init 40 = .ok (.putfield 24, 3) := by decide +kernel
theorem dX11_init_43 : decode cX11_init 43 = .ok (.aload_n 0, 1) := by decide +kernel
theorem dX11_init_44 : decode cX11_init 44 = .ok (.bipush 10, 2) := by decide +kernel
theorem dX11_init_46 : decode cX11_init 46 = .ok (.newarray .int, 2) := by decide +kernel
theorem dX11_init_48 : decode cX11_init 48 = .ok (.putfield 27, 3) := by decide +kernel
theorem dX11_init_51 : decode cX11_init 51 = .ok (.aload_n 0, 1) := by decide +kernel
theorem dX11_init_52 : decode cX11_init 52 = .ok (.bipush 10, 2) := by decide +kernel
theorem dX11_init_54 : decode cX11_init 54 = .ok (.newarray .int, 2) := by decide +kernel
theorem dX11_init_56 : decode cX11_init 56 = .ok (.putfield 30, 3) := by decide +kernel
theorem dX11_init_59 : decode cX11_init 59 = .ok (.aload_n 0, 1) := by decide +kernel
theorem dX11_init_60 : decode cX11_init 60 = .ok (.bipush 10, 2) := by decide +kernel
theorem dX11_init_62 : decode cX11_init 62 = .ok (.newarray .boolean, 2) := by decide +kernel
theorem dX11_init_64 : decode cX11_init 64 = .ok (.putfield 33, 3) := by decide +kernel
theorem dX11_init_67 : decode cX11_init 67 = .ok (.aload_n 0, 1) := by decide +kernel
theorem dX11_init_68 : decode cX11_init 68 = .ok (.sipush 600, 3) := by decide +kernel
theorem dX11_init_71 : decode cX11_init 71 = .ok (.newarray .int, 2) := by decide +kernel
theorem dX11_init_73 : decode cX11_init 73 = .ok (.putfield 36, 3) := by decide +kernel
theorem dX11_init_76 : decode cX11_init 76 = .ok (.aload_n 0, 1) := by decide +kernel
theorem dX11_init_77 : decode cX11_init 77 = .ok (.sipush 2160, 3) := by decide +kernel
theorem dX11_init_80 : decode cX11_init 80 = .ok (.newarray .int, 2) := by decide +kernel
theorem dX11_init_82 : decode cX11_init 82 = .ok (.putfield 39, 3) := by decide +kernel
theorem dX11_init_85 : decode cX11_init 85 = .ok (.aload_n 0, 1) := by decide +kernel
theorem dX11_init_86 : decode cX11_init 86 = .ok (.sipush 10800, 3) := by decide +kernel
theorem dX11_init_89 : decode cX11_init 89 = .ok (.newarray .int, 2) := by decide +kernel
theorem dX11_init_91 : decode cX11_init 91 = .ok (.putfield 42, 3) := by decide +kernel
theorem dX11_init_94 : decode cX11_init 94 = .ok (.aload_n 0, 1) := by decide +kernel
theorem dX11_init_95 : decode cX11_init 95 = .ok (.sipush 2160, 3) := by decide +kernel
theorem dX11_init_98 : decode cX11_init 98 = .ok (.newarray .boolean, 2) := by decide +kernel
theorem dX11_init_100 : decode cX11_init 100 = .ok (.putfield 45, 3) := by decide +kernel
theorem dX11_init_103 : decode cX11_init 103 = .ok (.aload_n 0, 1) := by decide +kernel
theorem dX11_init_104 : decode cX11_init 104 = .ok (.sipush 2160, 3) := by decide +kernel
theorem dX11_init_107 : decode cX11_init 107 = .ok (.newarray .int, 2) := by decide +kernel
theorem dX11_init_109 : decode cX11_init 109 = .ok (.putfield 48, 3) := by decide +kernel
theorem dX11_init_112 : decode cX11_init 112 = .ok (.aload_n 0, 1) := by decide +kernel
theorem dX11_init_113 : decode cX11_init 113 = .ok (.bipush 60, 2) := by decide +kernel
theorem dX11_init_115 : decode cX11_init 115 = .ok (.newarray .int, 2) := by decide +kernel
theorem dX11_init_117 : decode cX11_init 117 = .ok (.putfield 51, 3) := by decide +kernel
theorem dX11_init_120 : decode cX11_init 120 = .ok (.aload_n 0, 1) := by decide +kernel
theorem dX11_init_121 : decode cX11_init 121 = .ok (.sipush 2160, 3) := by decide +kernel
theorem dX11_init_124 : decode cX11_init 124 = .ok (.newarray .int, 2) := by decide +kernel
theorem dX11_init_126 : decode cX11_init 126 = .ok (.putfield 54, 3) := by decide +kernel
theorem dX11_init_129 : decode cX11_init 129 = .ok (.aload_n 0, 1) := by decide +kernel
theorem dX11_init_130 : decode cX11_init 130 = .ok (.bipush 36, 2) := by decide +kernel
theorem dX11_init_132 : decode cX11_init 132 = .ok (.newarray .int, 2) := by decide +kernel
theorem dX11_init_134 : decode cX11_init 134 = .ok (.putfield 57, 3) := by decide +kernel
theorem dX11_init_137 : decode cX11_init 137 = .ok (.aload_n 0, 1) := by decide +kernel
theorem dX11_init_138 : decode cX11_init 138 = .ok (.iconst 5, 1) := by decide +kernel
theorem dX11_init_139 : decode cX11_init 139 = .ok (.newarray .int, 2) := by decide +kernel
theorem dX11_init_141 : decode cX11_init 141 = .ok (.putfield 60, 3) := by decide +kernel
theorem dX11_init_144 : decode cX11_init 144 = .ok (.aload_n 0, 1) := by decide +kernel
theorem dX11_init_145 : decode cX11_init 145 = .ok (.iconst 5, 1) := by decide +kernel
theorem dX11_init_146 : decode cX11_init 146 = .ok (.newarray .int, 2) := by decide +kernel
theorem dX11_init_148 : decode cX11_init 148 = .ok (.putfield 63, 3) := by decide +kernel
theorem dX11_init_151 : decode cX11_init 151 = .ok (.aload_n 0, 1) := by decide +kernel
theorem dX11_init_152 : decode cX11_init 152 = .ok (.ldc 66, 2) := by decide +kernel
theorem dX11_init_154 : decode cX11_init 154 = .ok (.putfield 67, 3) := by decide +kernel
theorem dX11_init_157 : decode cX11_init 157 = .ok (.aload_n 0, 1) := by decide +kernel
theorem dX11_init_158 : decode cX11_init 158 = .ok (.bipush 36, 2) := by decide +kernel
theorem dX11_init_160 : decode cX11_init 160 = .ok (.newarray .boolean, 2) := by decide +kernel
theorem dX11_init_162 : decode cX11_init 162 = .ok (.putfield 70, 3) := by decide +kernel
theorem dX11_init_165 : decode cX11_init 165 = .ok (.aload_n 0, 1) := by decide +kernel
theorem dX11_init_166 : decode cX11_init 166 = .ok (.bipush 36, 2) := by decide +kernel
theorem dX11_init_168 : decode cX11_init 168 = .ok (.newarray .boolean, 2) := by decide +kernel
theorem dX11_init_170 : decode cX11_init 170 = .ok (.putfield 73, 3) := by decide +kernel
theorem dX11_init_173 : decode cX11_init 173 = .ok (.aload_n 0, 1) := by decide +kernel
theorem dX11_init_174 : decode cX11_init 174 = .ok (.iconst 4, 1) := by decide +kernel
theorem dX11_init_175 : decode cX11_init 175 = .ok (.iconst 4, 1) := by decide +kernel
theorem dX11_init_176 : decode cX11_init 176 = .ok (.invokevirtual 76, 3) := by decide +kernel
theorem dX11_init_179 : decode cX11_init 179 = .ok (.return_, 1) := by decide +kernel
theorem dX11_in_0 : decode cX11_in 0 = .ok (.lload_n 0, 1) := by decide +kernel
theorem dX11_in_1 : decode cX11_in 1 = .ok (.lload_n 2, 1) := by decide +kernel
theorem dX11_in_2 : decode cX11_in 2 = .ok (.lcmp, 1) := by decide +kernel
theorem dX11_in_3 : decode cX11_in 3 = .ok (.ifCond .lt 14, 3) := by decide +kernel
theorem dX11_in_6 : decode cX11_in 6 = .ok (.lload_n 0, 1) := by decide +kernel
theorem dX11_in_7 : decode cX11_in 7 = .ok (.lload 4, 2) := by decide +kernel
theorem dX11_in_9 : decode cX11_in 9 = .ok (.lcmp, 1) := by decide +kernel
theorem dX11_in_10 : decode cX11_in 10 = .ok (.ifCond .gt 7, 3) := by decide +kernel
theorem dX11_in_13 : decode cX11_in 13 = .ok (.iconst 1, 1) := by decide +kernel
theorem dX11_in_14 : decode cX11_in 14 = .ok (.goto 4, 3) := by decide +kernel
theorem dX11_in_17 : decode cX11_in 17 = .ok (.iconst 0, 1) := by decide +kernel
theorem dX11_in_18 : decode cX11_in 18 = .ok (.ireturn, 1) := by decide +kernel
theorem dX11_isMinute_0 : decode cX11_isMinute 0 = .ok (.iload_n 0, 1) := by decide +kernel
theorem dX11_isMinute_1 : decode cX11_isMinute 1 = .ok (.i2l, 1) := by decide +kernel
theorem dX11_isMinute_2 : decode cX11_isMinute 2 = .ok (.lconst 0, 1) := by decide +kernel
theorem dX11_isMinute_3 : decode cX11_isMinute 3 = .ok (.ldc2_w 80, 3) := by decide +kernel
theorem dX11_isMinute_6 : decode cX11_isMinute 6 = .ok (.invokestatic 82, 3) := by decide +kernel
theorem dX11_isMinute_9 : decode cX11_isMinute 9 = .ok (.ireturn, 1) := by decide +kernel
theorem dX11_layAir_0 : decode cX11_layAir 0 = .ok (.aload_n 0, 1) := by decide +kernel
theorem dX11_layAir_1 : decode cX11_layAir 1 = .ok (.iload_n 1, 1) := by decide +kernel
theorem dX11_layAir_2 : decode cX11_layAir 2 = .ok (.putfield 86, 3) := by decide +kernel
theorem dX11_layAir_5 : decode cX11_layAir 5 = .ok (.aload_n 0, 1) := by decide +kernel
theorem dX11_layAir_6 : decode cX11_layAir 6 = .ok (.iload_n 2, 1) := by decide +kernel
theorem dX11_layAir_7 : decode cX11_layAir 7 = .ok (.putfield 89, 3) := by decide +kernel
theorem dX11_layAir_10 : decode cX11_layAir 10 = .ok (.aload_n 0, 1) := by decide +kernel
theorem dX11_layAir_11 : decode cX11_layAir 11 = .ok (.iconst 0, 1) := by decide +kernel
theorem dX11_layAir_12 : decode cX11_layAir 12 = .ok (.putfield 92, 3) := by decide +kernel
theorem dX11_layAir_15 : decode cX11_layAir 15 = .ok (.aload_n 0, 1) := by decide +kernel
theorem dX11_layAir_16 : decode cX11_layAir 16 = .ok (.iconst 0, 1) := by decide +kernel
theorem dX11_layAir_17 : decode cX11_layAir 17 = .ok (.putfield 95, 3) := by decide +kernel
theorem dX11_layAir_20 : decode cX11_layAir 20 = .ok (.aload_n 0, 1) := by decide +kernel
theorem dX11_layAir_21 : decode cX11_layAir 21 = .ok (.iconst 0, 1) := by decide +kernel
theorem dX11_layAir_22 : decode cX11_layAir 22 = .ok (.putfield 98, 3) := by decide +kernel
theorem dX11_layAir_25 : decode cX11_layAir 25 = .ok (.aload_n 0, 1) := by decide +kernel
theorem dX11_layAir_26 : decode cX11_layAir 26 = .ok (.ldc 66, 2) := by decide +kernel
theorem dX11_layAir_28 : decode cX11_layAir 28 = .ok (.putfield 67, 3) := by decide +kernel
theorem dX11_layAir_31 : decode cX11_layAir 31 = .ok (.iconst 0, 1) := by decide +kernel
theorem dX11_layAir_32 : decode cX11_layAir 32 = .ok (.istore_n 3, 1) := by decide +kernel
theorem dX11_layAir_33 : decode cX11_layAir 33 = .ok (.iload_n 3, 1) := by decide +kernel
theorem dX11_layAir_34 : decode cX11_layAir 34 = .ok (.bipush 36, 2) := by decide +kernel
theorem dX11_layAir_36 : decode cX11_layAir 36 = .ok (.if_icmp .ge 16, 3) := by decide +kernel
theorem dX11_layAir_39 : decode cX11_layAir 39 = .ok (.aload_n 0, 1) := by decide +kernel
theorem dX11_layAir_40 : decode cX11_layAir 40 = .ok (.getfield 20, 3) := by decide +kernel
theorem dX11_layAir_43 : decode cX11_layAir 43 = .ok (.iload_n 3, 1) := by decide +kernel
theorem dX11_layAir_44 : decode cX11_layAir 44 = .ok (.iconst 0, 1) := by decide +kernel
theorem dX11_layAir_45 : decode cX11_layAir 45 = .ok (.iastore, 1) := by decide +kernel
theorem dX11_layAir_46 : decode cX11_layAir 46 = .ok (.iinc 3 1, 3) := by decide +kernel
theorem dX11_layAir_49 : decode cX11_layAir 49 = .ok (.goto (-16), 3) := by decide +kernel
theorem dX11_layAir_52 : decode cX11_layAir 52 = .ok (.iconst 0, 1) := by decide +kernel
theorem dX11_layAir_53 : decode cX11_layAir 53 = .ok (.istore_n 3, 1) := by decide +kernel
theorem dX11_layAir_54 : decode cX11_layAir 54 = .ok (.iload_n 3, 1) := by decide +kernel
theorem dX11_layAir_55 : decode cX11_layAir 55 = .ok (.sipush 2160, 3) := by decide +kernel
theorem dX11_layAir_58 : decode cX11_layAir 58 = .ok (.if_icmp .ge 23, 3) := by decide +kernel
theorem dX11_layAir_61 : decode cX11_layAir 61 = .ok (.aload_n 0, 1) := by decide +kernel
theorem dX11_layAir_62 : decode cX11_layAir 62 = .ok (.getfield 13, 3) := by decide +kernel
theorem dX11_layAir_65 : decode cX11_layAir 65 = .ok (.iload_n 3, 1) := by decide +kernel
theorem dX11_layAir_66 : decode cX11_layAir 66 = .ok (.iconst 0, 1) := by decide +kernel
theorem dX11_layAir_67 : decode cX11_layAir 67 = .ok (.bastore, 1) := by decide +kernel
theorem dX11_layAir_68 : decode cX11_layAir 68 = .ok (.aload_n 0, 1) := by decide +kernel
theorem dX11_layAir_69 : decode cX11_layAir 69 = .ok (.getfield 17, 3) := by decide +kernel
theorem dX11_layAir_72 : decode cX11_layAir 72 = .ok (.iload_n 3, 1) := by decide +kernel
theorem dX11_layAir_73 : decode cX11_layAir 73 = .ok (.iconst 0, 1) := by decide +kernel
theorem dX11_layAir_74 : decode cX11_layAir 74 = .ok (.bastore, 1) := by decide +kernel
theorem dX11_layAir_75 : decode cX11_layAir 75 = .ok (.iinc 3 1, 3) := by decide +kernel
theorem dX11_layAir_78 : decode cX11_layAir 78 = .ok (.goto (-24), 3) := by decide +kernel
theorem dX11_layAir_81 : decode cX11_layAir 81 = .ok (.return_, 1) := by decide +kernel
theorem dX11_cells_0 : decode cX11_cells 0 = .ok (.aload_n 0, 1) := by decide +kernel
theorem dX11_cells_1 : decode cX11_cells 1 = .ok (.getfield 86, 3) := by decide +kernel
theorem dX11_cells_4 : decode cX11_cells 4 = .ok (.aload_n 0, 1) := by decide +kernel
theorem dX11_cells_5 : decode cX11_cells 5 = .ok (.getfield 89, 3) := by decide +kernel
theorem dX11_cells_8 : decode cX11_cells 8 = .ok (.imul, 1) := by decide +kernel
theorem dX11_cells_9 : decode cX11_cells 9 = .ok (.ireturn, 1) := by decide +kernel
theorem dX11_isCell_0 : decode cX11_isCell 0 = .ok (.iload_n 1, 1) := by decide +kernel
theorem dX11_isCell_1 : decode cX11_isCell 1 = .ok (.i2l, 1) := by decide +kernel
theorem dX11_isCell_2 : decode cX11_isCell 2 = .ok (.lconst 0, 1) := by decide +kernel
theorem dX11_isCell_3 : decode cX11_isCell 3 = .ok (.aload_n 0, 1) := by decide +kernel
theorem dX11_isCell_4 : decode cX11_isCell 4 = .ok (.invokevirtual 101, 3) := by decide +kernel
theorem dX11_isCell_7 : decode cX11_isCell 7 = .ok (.iconst 1, 1) := by decide +kernel
theorem dX11_isCell_8 : decode cX11_isCell 8 = .ok (.isub, 1) := by decide +kernel
theorem dX11_isCell_9 : decode cX11_isCell 9 = .ok (.i2l, 1) := by decide +kernel
theorem dX11_isCell_10 : decode cX11_isCell 10 = .ok (.invokestatic 82, 3) := by decide +kernel
theorem dX11_isCell_13 : decode cX11_isCell 13 = .ok (.ireturn, 1) := by decide +kernel
theorem dX11_air_0 : decode cX11_air 0 = .ok (.iload_n 1, 1) := by decide +kernel
theorem dX11_air_1 : decode cX11_air 1 = .ok (.i2l, 1) := by decide +kernel
theorem dX11_air_2 : decode cX11_air 2 = .ok (.ldc2_w 105, 3) := by decide +kernel
theorem dX11_air_5 : decode cX11_air 5 = .ok (.ldc2_w 107, 3) := by decide +kernel
theorem dX11_air_8 : decode cX11_air 8 = .ok (.invokestatic 82, 3) := by decide +kernel
theorem dX11_air_11 : decode cX11_air 11 = .ok (.ifCond .eq 17, 3) := by decide +kernel
theorem dX11_air_14 : decode cX11_air 14 = .ok (.iload_n 2, 1) := by decide +kernel
theorem dX11_air_15 : decode cX11_air 15 = .ok (.i2l, 1) := by decide +kernel
theorem dX11_air_16 : decode cX11_air 16 = .ok (.ldc2_w 105, 3) := by decide +kernel
theorem dX11_air_19 : decode cX11_air 19 = .ok (.ldc2_w 107, 3) := by decide +kernel
theorem dX11_air_22 : decode cX11_air 22 = .ok (.invokestatic 82, 3) := by decide +kernel
theorem dX11_air_25 : decode cX11_air 25 = .ok (.ifCond .ne 6, 3) := by decide +kernel
theorem dX11_air_28 : decode cX11_air 28 = .ok (.ldc 109, 2) := by decide +kernel
theorem dX11_air_30 : decode cX11_air 30 = .ok (.ireturn, 1) := by decide +kernel
theorem dX11_air_31 : decode cX11_air 31 = .ok (.aload_n 0, 1) := by decide +kernel
theorem dX11_air_32 : decode cX11_air 32 = .ok (.iload_n 1, 1) := by decide +kernel
theorem dX11_air_33 : decode cX11_air 33 = .ok (.iload_n 2, 1) := by decide +kernel
theorem dX11_air_34 : decode cX11_air 34 = .ok (.invokevirtual 76, 3) := by decide +kernel
theorem dX11_air_37 : decode cX11_air 37 = .ok (.iload_n 1, 1) := by decide +kernel
theorem dX11_air_38 : decode cX11_air 38 = .ok (.iload_n 2, 1) := by decide +kernel
theorem dX11_air_39 : decode cX11_air 39 = .ok (.imul, 1) := by decide +kernel
theorem dX11_air_40 : decode cX11_air 40 = .ok (.ireturn, 1) := by decide +kernel
theorem dX11_shut_0 : decode cX11_shut 0 = .ok (.aload_n 0, 1) := by decide +kernel
theorem dX11_shut_1 : decode cX11_shut 1 = .ok (.iload_n 1, 1) := by decide +kernel
theorem dX11_shut_2 : decode cX11_shut 2 = .ok (.invokevirtual 110, 3) := by decide +kernel
theorem dX11_shut_5 : decode cX11_shut 5 = .ok (.ifCond .ne 6, 3) := by decide +kernel
theorem dX11_shut_8 : decode cX11_shut 8 = .ok (.ldc 114, 2) := by decide +kernel
theorem dX11_shut_10 : decode cX11_shut 10 = .ok (.ireturn, 1) := by decide +kernel
theorem dX11_shut_11 : decode cX11_shut 11 = .ok (.iload_n 2, 1) := by decide +kernel
theorem dX11_shut_12 : decode cX11_shut 12 = .ok (.invokestatic 115, 3) := by decide +kernel
theorem dX11_shut_15 : decode cX11_shut 15 = .ok (.ifCond .eq 16, 3) := by decide +kernel
theorem dX11_shut_18 : decode cX11_shut 18 = .ok (.iload_n 3, 1) := by decide +kernel
theorem dX11_shut_19 : decode cX11_shut 19 = .ok (.i2l, 1) := by decide +kernel
theorem dX11_shut_20 : decode cX11_shut 20 = .ok (.iload_n 2, 1) := by decide +kernel
theorem dX11_shut_21 : decode cX11_shut 21 = .ok (.i2l, 1) := by decide +kernel
theorem dX11_shut_22 : decode cX11_shut 22 = .ok (.ldc2_w 80, 3) := by decide +kernel
theorem dX11_shut_25 : decode cX11_shut 25 = .ok (.invokestatic 82, 3) := by decide +kernel
theorem dX11_shut_28 : decode cX11_shut 28 = .ok (.ifCond .ne 6, 3) := by decide +kernel
theorem dX11_shut_31 : decode cX11_shut 31 = .ok (.ldc 109, 2) := by decide +kernel
theorem dX11_shut_33 : decode cX11_shut 33 = .ok (.ireturn, 1) := by decide +kernel
theorem dX11_shut_34 : decode cX11_shut 34 = .ok (.aload_n 0, 1) := by decide +kernel
theorem dX11_shut_35 : decode cX11_shut 35 = .ok (.getfield 92, 3) := by decide +kernel
theorem dX11_shut_38 : decode cX11_shut 38 = .ok (.bipush 20, 2) := by decide +kernel
theorem dX11_shut_40 : decode cX11_shut 40 = .ok (.if_icmp .ne 6, 3) := by decide +kernel
theorem dX11_shut_43 : decode cX11_shut 43 = .ok (.ldc 118, 2) := by decide +kernel
theorem dX11_shut_45 : decode cX11_shut 45 = .ok (.ireturn, 1) := by decide +kernel
theorem dX11_shut_46 : decode cX11_shut 46 = .ok (.iload_n 2, 1) := by decide +kernel
theorem dX11_shut_47 : decode cX11_shut 47 = .ok (.istore 4, 2) := by decide +kernel
theorem dX11_shut_49 : decode cX11_shut 49 = .ok (.iload 4, 2) := by decide +kernel
theorem dX11_shut_51 : decode cX11_shut 51 = .ok (.iload_n 3, 1) := by decide +kernel
theorem dX11_shut_52 : decode cX11_shut 52 = .ok (.if_icmp .gt 22, 3) := by decide +kernel
theorem dX11_shut_55 : decode cX11_shut 55 = .ok (.aload_n 0, 1) := by decide +kernel
theorem dX11_shut_56 : decode cX11_shut 56 = .ok (.getfield 13, 3) := by decide +kernel
theorem dX11_shut_59 : decode cX11_shut 59 = .ok (.bipush 36, 2) := by decide +kernel
theorem dX11_shut_61 : decode cX11_shut 61 = .ok (.iload 4, 2) := by decide +kernel
theorem dX11_shut_63 : decode cX11_shut 63 = .ok (.imul, 1) := by decide +kernel
theorem dX11_shut_64 : decode cX11_shut 64 = .ok (.iload_n 1, 1) := by decide +kernel
theorem dX11_shut_65 : decode cX11_shut 65 = .ok (.iadd, 1) := by decide +kernel
theorem dX11_shut_66 : decode cX11_shut 66 = .ok (.iconst 1, 1) := by decide +kernel
theorem dX11_shut_67 : decode cX11_shut 67 = .ok (.bastore, 1) := by decide +kernel
theorem dX11_shut_68 : decode cX11_shut 68 = .ok (.iinc 4 1, 3) := by decide +kernel
theorem dX11_shut_71 : decode cX11_shut 71 = .ok (.goto (-22), 3) := by decide +kernel
theorem dX11_shut_74 : decode cX11_shut 74 = .ok (.aload_n 0, 1) := by decide +kernel
theorem dX11_shut_75 : decode cX11_shut 75 = .ok (.dup, 1) := by decide +kernel
theorem dX11_shut_76 : decode cX11_shut 76 = .ok (.getfield 92, 3) := by decide +kernel
theorem dX11_shut_79 : decode cX11_shut 79 = .ok (.iconst 1, 1) := by decide +kernel
theorem dX11_shut_80 : decode cX11_shut 80 = .ok (.iadd, 1) := by decide +kernel
theorem dX11_shut_81 : decode cX11_shut 81 = .ok (.putfield 92, 3) := by decide +kernel
theorem dX11_shut_84 : decode cX11_shut 84 = .ok (.aload_n 0, 1) := by decide +kernel
theorem dX11_shut_85 : decode cX11_shut 85 = .ok (.getfield 92, 3) := by decide +kernel
theorem dX11_shut_88 : decode cX11_shut 88 = .ok (.ireturn, 1) := by decide +kernel
theorem dX11_folk_0 : decode cX11_folk 0 = .ok (.aload_n 0, 1) := by decide +kernel
theorem dX11_folk_1 : decode cX11_folk 1 = .ok (.iload_n 1, 1) := by decide +kernel
theorem dX11_folk_2 : decode cX11_folk 2 = .ok (.invokevirtual 110, 3) := by decide +kernel
theorem dX11_folk_5 : decode cX11_folk 5 = .ok (.ifCond .ne 6, 3) := by decide +kernel
theorem dX11_folk_8 : decode cX11_folk 8 = .ok (.ldc 114, 2) := by decide +kernel
theorem dX11_folk_10 : decode cX11_folk 10 = .ok (.ireturn, 1) := by decide +kernel
theorem dX11_folk_11 : decode cX11_folk 11 = .ok (.iload_n 2, 1) := by decide +kernel
theorem dX11_folk_12 : decode cX11_folk 12 = .ok (.invokestatic 115, 3) := by decide +kernel
theorem dX11_folk_15 : decode cX11_folk 15 = .ok (.ifCond .eq 16, 3) := by decide +kernel
theorem dX11_folk_18 : decode cX11_folk 18 = .ok (.iload_n 3, 1) := by decide +kernel
theorem dX11_folk_19 : decode cX11_folk 19 = .ok (.i2l, 1) := by decide +kernel
theorem dX11_folk_20 : decode cX11_folk 20 = .ok (.iload_n 2, 1) := by decide +kernel
theorem dX11_folk_21 : decode cX11_folk 21 = .ok (.i2l, 1) := by decide +kernel
theorem dX11_folk_22 : decode cX11_folk 22 = .ok (.ldc2_w 80, 3) := by decide +kernel
theorem dX11_folk_25 : decode cX11_folk 25 = .ok (.invokestatic 82, 3) := by decide +kernel
theorem dX11_folk_28 : decode cX11_folk 28 = .ok (.ifCond .ne 6, 3) := by decide +kernel
theorem dX11_folk_31 : decode cX11_folk 31 = .ok (.ldc 109, 2) := by decide +kernel
theorem dX11_folk_33 : decode cX11_folk 33 = .ok (.ireturn, 1) := by decide +kernel
theorem dX11_folk_34 : decode cX11_folk 34 = .ok (.aload_n 0, 1) := by decide +kernel
theorem dX11_folk_35 : decode cX11_folk 35 = .ok (.getfield 95, 3) := by decide +kernel
theorem dX11_folk_38 : decode cX11_folk 38 = .ok (.bipush 20, 2) := by decide +kernel
theorem dX11_folk_40 : decode cX11_folk 40 = .ok (.if_icmp .ne 6, 3) := by decide +kernel
theorem dX11_folk_43 : decode cX11_folk 43 = .ok (.ldc 118, 2) := by decide +kernel
theorem dX11_folk_45 : decode cX11_folk 45 = .ok (.ireturn, 1) := by decide +kernel
theorem dX11_folk_46 : decode cX11_folk 46 = .ok (.iload_n 2, 1) := by decide +kernel
theorem dX11_folk_47 : decode cX11_folk 47 = .ok (.istore 4, 2) := by decide +kernel
theorem dX11_folk_49 : decode cX11_folk 49 = .ok (.iload 4, 2) := by decide +kernel
theorem dX11_folk_51 : decode cX11_folk 51 = .ok (.iload_n 3, 1) := by decide +kernel
theorem dX11_folk_52 : decode cX11_folk 52 = .ok (.if_icmp .gt 22, 3) := by decide +kernel
theorem dX11_folk_55 : decode cX11_folk 55 = .ok (.aload_n 0, 1) := by decide +kernel
theorem dX11_folk_56 : decode cX11_folk 56 = .ok (.getfield 17, 3) := by decide +kernel
theorem dX11_folk_59 : decode cX11_folk 59 = .ok (.bipush 36, 2) := by decide +kernel
theorem dX11_folk_61 : decode cX11_folk 61 = .ok (.iload 4, 2) := by decide +kernel
theorem dX11_folk_63 : decode cX11_folk 63 = .ok (.imul, 1) := by decide +kernel
theorem dX11_folk_64 : decode cX11_folk 64 = .ok (.iload_n 1, 1) := by decide +kernel
theorem dX11_folk_65 : decode cX11_folk 65 = .ok (.iadd, 1) := by decide +kernel
theorem dX11_folk_66 : decode cX11_folk 66 = .ok (.iconst 1, 1) := by decide +kernel
theorem dX11_folk_67 : decode cX11_folk 67 = .ok (.bastore, 1) := by decide +kernel
theorem dX11_folk_68 : decode cX11_folk 68 = .ok (.iinc 4 1, 3) := by decide +kernel
theorem dX11_folk_71 : decode cX11_folk 71 = .ok (.goto (-22), 3) := by decide +kernel
theorem dX11_folk_74 : decode cX11_folk 74 = .ok (.aload_n 0, 1) := by decide +kernel
theorem dX11_folk_75 : decode cX11_folk 75 = .ok (.dup, 1) := by decide +kernel
theorem dX11_folk_76 : decode cX11_folk 76 = .ok (.getfield 95, 3) := by decide +kernel
theorem dX11_folk_79 : decode cX11_folk 79 = .ok (.iconst 1, 1) := by decide +kernel
theorem dX11_folk_80 : decode cX11_folk 80 = .ok (.iadd, 1) := by decide +kernel
theorem dX11_folk_81 : decode cX11_folk 81 = .ok (.putfield 95, 3) := by decide +kernel
theorem dX11_folk_84 : decode cX11_folk 84 = .ok (.aload_n 0, 1) := by decide +kernel
theorem dX11_folk_85 : decode cX11_folk 85 = .ok (.getfield 95, 3) := by decide +kernel
theorem dX11_folk_88 : decode cX11_folk 88 = .ok (.ireturn, 1) := by decide +kernel
theorem dX11_rule_0 : decode cX11_rule 0 = .ok (.iload_n 1, 1) := by decide +kernel
theorem dX11_rule_1 : decode cX11_rule 1 = .ok (.ifCond .ne 15, 3) := by decide +kernel
theorem dX11_rule_4 : decode cX11_rule 4 = .ok (.iload_n 2, 1) := by decide +kernel
theorem dX11_rule_5 : decode cX11_rule 5 = .ok (.i2l, 1) := by decide +kernel
theorem dX11_rule_6 : decode cX11_rule 6 = .ok (.lconst 0, 1) := by decide +kernel
theorem dX11_rule_7 : decode cX11_rule 7 = .ok (.ldc2_w 119, 3) := by decide +kernel
theorem dX11_rule_10 : decode cX11_rule 10 = .ok (.invokestatic 82, 3) := by decide +kernel
theorem dX11_rule_13 : decode cX11_rule 13 = .ok (.ifCond .ne 23, 3) := by decide +kernel
theorem dX11_rule_16 : decode cX11_rule 16 = .ok (.iload_n 1, 1) := by decide +kernel
theorem dX11_rule_17 : decode cX11_rule 17 = .ok (.iconst 1, 1) := by decide +kernel
theorem dX11_rule_18 : decode cX11_rule 18 = .ok (.if_icmp .ne 15, 3) := by decide +kernel
theorem dX11_rule_21 : decode cX11_rule 21 = .ok (.iload_n 2, 1) := by decide +kernel
theorem dX11_rule_22 : decode cX11_rule 22 = .ok (.i2l, 1) := by decide +kernel
theorem dX11_rule_23 : decode cX11_rule 23 = .ok (.lconst 0, 1) := by decide +kernel
theorem dX11_rule_24 : decode cX11_rule 24 = .ok (.ldc2_w 121, 3) := by decide +kernel
theorem dX11_rule_27 : decode cX11_rule 27 = .ok (.invokestatic 82, 3) := by decide +kernel
theorem dX11_rule_30 : decode cX11_rule 30 = .ok (.ifCond .ne 6, 3) := by decide +kernel
theorem dX11_rule_33 : decode cX11_rule 33 = .ok (.ldc 109, 2) := by decide +kernel
theorem dX11_rule_35 : decode cX11_rule 35 = .ok (.ireturn, 1) := by decide +kernel
theorem dX11_rule_36 : decode cX11_rule 36 = .ok (.iload_n 1, 1) := by decide +kernel
theorem dX11_rule_37 : decode cX11_rule 37 = .ok (.ifCond .ne 10, 3) := by decide +kernel
theorem dX11_rule_40 : decode cX11_rule 40 = .ok (.aload_n 0, 1) := by decide +kernel
theorem dX11_rule_41 : decode cX11_rule 41 = .ok (.getfield 7, 3) := by decide +kernel
theorem dX11_rule_44 : decode cX11_rule 44 = .ok (.goto 7, 3) := by decide +kernel
theorem dX11_rule_47 : decode cX11_rule 47 = .ok (.aload_n 0, 1) := by decide +kernel
theorem dX11_rule_48 : decode cX11_rule 48 = .ok (.getfield 123, 3) := by decide +kernel
theorem dX11_rule_51 : decode cX11_rule 51 = .ok (.istore_n 3, 1) := by decide +kernel
theorem dX11_rule_52 : decode cX11_rule 52 = .ok (.aload_n 0, 1) := by decide +kernel
theorem dX11_rule_53 : decode cX11_rule 53 = .ok (.iload_n 1, 1) := by decide +kernel
theorem dX11_rule_54 : decode cX11_rule 54 = .ok (.ifCond .ne 7, 3) := by decide +kernel
theorem dX11_rule_57 : decode cX11_rule 57 = .ok (.iload_n 2, 1) := by decide +kernel
theorem dX11_rule_58 : decode cX11_rule 58 = .ok (.goto 7, 3) := by decide +kernel
theorem dX11_rule_61 : decode cX11_rule 61 = .ok (.aload_n 0, 1) := by decide +kernel
theorem dX11_rule_62 : decode cX11_rule 62 = .ok (.getfield 7, 3) := by decide +kernel
theorem dX11_rule_65 : decode cX11_rule 65 = .ok (.putfield 7, 3) := by decide +kernel
theorem dX11_rule_68 : decode cX11_rule 68 = .ok (.aload_n 0, 1) := by decide +kernel
theorem dX11_rule_69 : decode cX11_rule 69 = .ok (.iload_n 1, 1) := by decide +kernel
theorem dX11_rule_70 : decode cX11_rule 70 = .ok (.iconst 1, 1) := by decide +kernel
theorem dX11_rule_71 : decode cX11_rule 71 = .ok (.if_icmp .ne 7, 3) := by decide +kernel
theorem dX11_rule_74 : decode cX11_rule 74 = .ok (.iload_n 2, 1) := by decide +kernel
theorem dX11_rule_75 : decode cX11_rule 75 = .ok (.goto 7, 3) := by decide +kernel
theorem dX11_rule_78 : decode cX11_rule 78 = .ok (.aload_n 0, 1) := by decide +kernel
theorem dX11_rule_79 : decode cX11_rule 79 = .ok (.getfield 123, 3) := by decide +kernel
theorem dX11_rule_82 : decode cX11_rule 82 = .ok (.putfield 123, 3) := by decide +kernel
theorem dX11_rule_85 : decode cX11_rule 85 = .ok (.iload_n 3, 1) := by decide +kernel
theorem dX11_rule_86 : decode cX11_rule 86 = .ok (.ireturn, 1) := by decide +kernel
theorem dX11_isShut_0 : decode cX11_isShut 0 = .ok (.aload_n 0, 1) := by decide +kernel
theorem dX11_isShut_1 : decode cX11_isShut 1 = .ok (.getfield 13, 3) := by decide +kernel
theorem dX11_isShut_4 : decode cX11_isShut 4 = .ok (.bipush 36, 2) := by decide +kernel
theorem dX11_isShut_6 : decode cX11_isShut 6 = .ok (.iload_n 2, 1) := by decide +kernel
theorem dX11_isShut_7 : decode cX11_isShut 7 = .ok (.imul, 1) := by decide +kernel
theorem dX11_isShut_8 : decode cX11_isShut 8 = .ok (.iload_n 1, 1) := by decide +kernel
theorem dX11_isShut_9 : decode cX11_isShut 9 = .ok (.iadd, 1) := by decide +kernel
theorem dX11_isShut_10 : decode cX11_isShut 10 = .ok (.baload, 1) := by decide +kernel
theorem dX11_isShut_11 : decode cX11_isShut 11 = .ok (.ireturn, 1) := by decide +kernel
theorem dX11_hasFolk_0 : decode cX11_hasFolk 0 = .ok (.aload_n 0, 1) := by decide +kernel
theorem dX11_hasFolk_1 : decode cX11_hasFolk 1 = .ok (.getfield 17, 3) := by decide +kernel
theorem dX11_hasFolk_4 : decode cX11_hasFolk 4 = .ok (.bipush 36, 2) := by decide +kernel
theorem dX11_hasFolk_6 : decode cX11_hasFolk 6 = .ok (.iload_n 2, 1) := by decide +kernel
theorem dX11_hasFolk_7 : decode cX11_hasFolk 7 = .ok (.imul, 1) := by decide +kernel
theorem dX11_hasFolk_8 : decode cX11_hasFolk 8 = .ok (.iload_n 1, 1) := by decide +kernel
theorem dX11_hasFolk_9 : decode cX11_hasFolk 9 = .ok (.iadd, 1) := by decide +kernel
theorem dX11_hasFolk_10 : decode cX11_hasFolk 10 = .ok (.baload, 1) := by decide +kernel
theorem dX11_hasFolk_11 : decode cX11_hasFolk 11 = .ok (.ireturn, 1) := by decide +kernel
theorem dX11_size_0 : decode cX11_size 0 = .ok (.iload_n 0, 1) := by decide +kernel
theorem dX11_size_1 : decode cX11_size 1 = .ok (.ifCond .ge 8, 3) := by decide +kernel
theorem dX11_size_4 : decode cX11_size 4 = .ok (.iload_n 0, 1) := by decide +kernel
theorem dX11_size_5 : decode cX11_size 5 = .ok (.ineg, 1) := by decide +kernel
theorem dX11_size_6 : decode cX11_size 6 = .ok (.goto 4, 3) := by decide +kernel
theorem dX11_size_9 : decode cX11_size 9 = .ok (.iload_n 0, 1) := by decide +kernel
theorem dX11_size_10 : decode cX11_size 10 = .ok (.ireturn, 1) := by decide +kernel
theorem dX11_along_0 : decode cX11_along 0 = .ok (.iload_n 1, 1) := by decide +kernel
theorem dX11_along_1 : decode cX11_along 1 = .ok (.aload_n 0, 1) := by decide +kernel
theorem dX11_along_2 : decode cX11_along 2 = .ok (.getfield 86, 3) := by decide +kernel
theorem dX11_along_5 : decode cX11_along 5 = .ok (.irem, 1) := by decide +kernel
theorem dX11_along_6 : decode cX11_along 6 = .ok (.iload_n 2, 1) := by decide +kernel
theorem dX11_along_7 : decode cX11_along 7 = .ok (.aload_n 0, 1) := by decide +kernel
theorem dX11_along_8 : decode cX11_along 8 = .ok (.getfield 86, 3) := by decide +kernel
theorem dX11_along_11 : decode cX11_along 11 = .ok (.irem, 1) := by decide +kernel
theorem dX11_along_12 : decode cX11_along 12 = .ok (.isub, 1) := by decide +kernel
theorem dX11_along_13 : decode cX11_along 13 = .ok (.invokestatic 126, 3) := by decide +kernel
theorem dX11_along_16 : decode cX11_along 16 = .ok (.ireturn, 1) := by decide +kernel
theorem dX11_aside_0 : decode cX11_aside 0 = .ok (.iload_n 1, 1) := by decide +kernel
theorem dX11_aside_1 : decode cX11_aside 1 = .ok (.aload_n 0, 1) := by decide +kernel
theorem dX11_aside_2 : decode cX11_aside 2 = .ok (.getfield 86, 3) := by decide +kernel
theorem dX11_aside_5 : decode cX11_aside 5 = .ok (.idiv, 1) := by decide +kernel
theorem dX11_aside_6 : decode cX11_aside 6 = .ok (.iload_n 2, 1) := by decide +kernel
theorem dX11_aside_7 : decode cX11_aside 7 = .ok (.aload_n 0, 1) := by decide +kernel
theorem dX11_aside_8 : decode cX11_aside 8 = .ok (.getfield 86, 3) := by decide +kernel
theorem dX11_aside_11 : decode cX11_aside 11 = .ok (.idiv, 1) := by decide +kernel
theorem dX11_aside_12 : decode cX11_aside 12 = .ok (.isub, 1) := by decide +kernel
theorem dX11_aside_13 : decode cX11_aside 13 = .ok (.invokestatic 126, 3) := by decide +kernel
theorem dX11_aside_16 : decode cX11_aside 16 = .ok (.ireturn, 1) := by decide +kernel
theorem dX11_downOf_0 : decode cX11_downOf 0 = .ok (.iconst 0, 1) := by decide +kernel
theorem dX11_downOf_1 : decode cX11_downOf 1 = .ok (.istore_n 3, 1) := by decide +kernel
theorem dX11_downOf_2 : decode cX11_downOf 2 = .ok (.iload_n 3, 1) := by decide +kernel
theorem dX11_downOf_3 : decode cX11_downOf 3 = .ok (.aload_n 0, 1) := by decide +kernel
theorem dX11_downOf_4 : decode cX11_downOf 4 = .ok (.getfield 7, 3) := by decide +kernel
theorem dX11_downOf_7 : decode cX11_downOf 7 = .ok (.if_icmp .gt 73, 3) := by decide +kernel
theorem dX11_downOf_10 : decode cX11_downOf 10 = .ok (.iconst 0, 1) := by decide +kernel
theorem dX11_downOf_11 : decode cX11_downOf 11 = .ok (.istore 4, 2) := by decide +kernel
theorem dX11_downOf_13 : decode cX11_downOf 13 = .ok (.iload 4, 2) := by decide +kernel
theorem dX11_downOf_15 : decode cX11_downOf 15 = .ok (.aload_n 0, 1) := by decide +kernel
theorem dX11_downOf_16 : decode cX11_downOf 16 = .ok (.invokevirtual 101, 3) := by decide +kernel
theorem dX11_downOf_19 : decode cX11_downOf 19 = .ok (.if_icmp .ge 55, 3) := by decide +kernel
theorem dX11_downOf_22 : decode cX11_downOf 22 = .ok (.aload_n 0, 1) := by decide +kernel
theorem dX11_downOf_23 : decode cX11_downOf 23 = .ok (.iload_n 1, 1) := by decide +kernel
theorem dX11_downOf_24 : decode cX11_downOf 24 = .ok (.iload 4, 2) := by decide +kernel
theorem dX11_downOf_26 : decode cX11_downOf 26 = .ok (.invokevirtual 130, 3) := by decide +kernel
theorem dX11_downOf_29 : decode cX11_downOf 29 = .ok (.aload_n 0, 1) := by decide +kernel
theorem dX11_downOf_30 : decode cX11_downOf 30 = .ok (.iload_n 1, 1) := by decide +kernel
theorem dX11_downOf_31 : decode cX11_downOf 31 = .ok (.iload 4, 2) := by decide +kernel
theorem dX11_downOf_33 : decode cX11_downOf 33 = .ok (.invokevirtual 134, 3) := by decide +kernel
theorem dX11_downOf_36 : decode cX11_downOf 36 = .ok (.iadd, 1) := by decide +kernel
theorem dX11_downOf_37 : decode cX11_downOf 37 = .ok (.istore 5, 2) := by decide +kernel
theorem dX11_downOf_39 : decode cX11_downOf 39 = .ok (.iload 5, 2) := by decide +kernel
theorem dX11_downOf_41 : decode cX11_downOf 41 = .ok (.iload_n 3, 1) := by decide +kernel
theorem dX11_downOf_42 : decode cX11_downOf 42 = .ok (.if_icmp .gt 26, 3) := by decide +kernel
theorem dX11_downOf_45 : decode cX11_downOf 45 = .ok (.iload_n 3, 1) := by decide +kernel
theorem dX11_downOf_46 : decode cX11_downOf 46 = .ok (.iload 5, 2) := by decide +kernel
theorem dX11_downOf_48 : decode cX11_downOf 48 = .ok (.isub, 1) := by decide +kernel
theorem dX11_downOf_49 : decode cX11_downOf 49 = .ok (.iconst 2, 1) := by decide +kernel
theorem dX11_downOf_50 : decode cX11_downOf 50 = .ok (.irem, 1) := by decide +kernel
theorem dX11_downOf_51 : decode cX11_downOf 51 = .ok (.ifCond .ne 17, 3) := by decide +kernel
theorem dX11_downOf_54 : decode cX11_downOf 54 = .ok (.aload_n 0, 1) := by decide +kernel
theorem dX11_downOf_55 : decode cX11_downOf 55 = .ok (.iload 4, 2) := by decide +kernel
theorem dX11_downOf_57 : decode cX11_downOf 57 = .ok (.iload_n 2, 1) := by decide +kernel
theorem dX11_downOf_58 : decode cX11_downOf 58 = .ok (.iload_n 3, 1) := by decide +kernel
theorem dX11_downOf_59 : decode cX11_downOf 59 = .ok (.iadd, 1) := by decide +kernel
theorem dX11_downOf_60 : decode cX11_downOf 60 = .ok (.invokevirtual 137, 3) := by decide +kernel
theorem dX11_downOf_63 : decode cX11_downOf 63 = .ok (.ifCond .ne 5, 3) := by decide +kernel
theorem dX11_downOf_66 : decode cX11_downOf 66 = .ok (.iload_n 3, 1) := by decide +kernel
theorem dX11_downOf_67 : decode cX11_downOf 67 = .ok (.ireturn, 1) := by decide +kernel
theorem dX11_downOf_68 : decode cX11_downOf 68 = .ok (.iinc 4 1, 3) := by decide +kernel
theorem dX11_downOf_71 : decode cX11_downOf 71 = .ok (.goto (-58), 3) := by decide +kernel
theorem dX11_downOf_74 : decode cX11_downOf 74 = .ok (.iinc 3 1, 3) := by decide +kernel
theorem dX11_downOf_77 : decode cX11_downOf 77 = .ok (.goto (-75), 3) := by decide +kernel
theorem dX11_downOf_80 : decode cX11_downOf 80 = .ok (.ldc 66, 2) := by decide +kernel
theorem dX11_downOf_82 : decode cX11_downOf 82 = .ok (.ireturn, 1) := by decide +kernel
theorem dX11_down_0 : decode cX11_down 0 = .ok (.aload_n 0, 1) := by decide +kernel
theorem dX11_down_1 : decode cX11_down 1 = .ok (.iload_n 1, 1) := by decide +kernel
theorem dX11_down_2 : decode cX11_down 2 = .ok (.invokevirtual 110, 3) := by decide +kernel
theorem dX11_down_5 : decode cX11_down 5 = .ok (.ifCond .ne 6, 3) := by decide +kernel
theorem dX11_down_8 : decode cX11_down 8 = .ok (.ldc 114, 2) := by decide +kernel
theorem dX11_down_10 : decode cX11_down 10 = .ok (.ireturn, 1) := by decide +kernel
theorem dX11_down_11 : decode cX11_down 11 = .ok (.iload_n 2, 1) := by decide +kernel
theorem dX11_down_12 : decode cX11_down 12 = .ok (.invokestatic 115, 3) := by decide +kernel
theorem dX11_down_15 : decode cX11_down 15 = .ok (.ifCond .eq 12, 3) := by decide +kernel
theorem dX11_down_18 : decode cX11_down 18 = .ok (.aload_n 0, 1) := by decide +kernel
theorem dX11_down_19 : decode cX11_down 19 = .ok (.iload_n 1, 1) := by decide +kernel
theorem dX11_down_20 : decode cX11_down 20 = .ok (.iload_n 2, 1) := by decide +kernel
theorem dX11_down_21 : decode cX11_down 21 = .ok (.invokevirtual 141, 3) := by decide +kernel
theorem dX11_down_24 : decode cX11_down 24 = .ok (.goto 5, 3) := by decide +kernel
theorem dX11_down_27 : decode cX11_down 27 = .ok (.ldc 109, 2) := by decide +kernel
theorem dX11_down_29 : decode cX11_down 29 = .ok (.ireturn, 1) := by decide +kernel
theorem dX11_isOpen_0 : decode cX11_isOpen 0 = .ok (.aload_n 0, 1) := by decide +kernel
theorem dX11_isOpen_1 : decode cX11_isOpen 1 = .ok (.iload_n 1, 1) := by decide +kernel
theorem dX11_isOpen_2 : decode cX11_isOpen 2 = .ok (.iload_n 2, 1) := by decide +kernel
theorem dX11_isOpen_3 : decode cX11_isOpen 3 = .ok (.invokevirtual 144, 3) := by decide +kernel
theorem dX11_isOpen_6 : decode cX11_isOpen 6 = .ok (.ifCond .ne 18, 3) := by decide +kernel
theorem dX11_isOpen_9 : decode cX11_isOpen 9 = .ok (.aload_n 0, 1) := by decide +kernel
theorem dX11_isOpen_10 : decode cX11_isOpen 10 = .ok (.iload_n 1, 1) := by decide +kernel
theorem dX11_isOpen_11 : decode cX11_isOpen 11 = .ok (.iload_n 2, 1) := by decide +kernel
theorem dX11_isOpen_12 : decode cX11_isOpen 12 = .ok (.invokevirtual 141, 3) := by decide +kernel
theorem dX11_isOpen_15 : decode cX11_isOpen 15 = .ok (.ldc 66, 2) := by decide +kernel
theorem dX11_isOpen_17 : decode cX11_isOpen 17 = .ok (.if_icmp .eq 7, 3) := by decide +kernel
theorem dX11_isOpen_20 : decode cX11_isOpen 20 = .ok (.iconst 1, 1) := by decide +kernel
theorem dX11_isOpen_21 : decode cX11_isOpen 21 = .ok (.goto 4, 3) := by decide +kernel
theorem dX11_isOpen_24 : decode cX11_isOpen 24 = .ok (.iconst 0, 1) := by decide +kernel
theorem dX11_isOpen_25 : decode cX11_isOpen 25 = .ok (.ireturn, 1) := by decide +kernel
theorem dX11_open_0 : decode cX11_open 0 = .ok (.aload_n 0, 1) := by decide +kernel
theorem dX11_open_1 : decode cX11_open 1 = .ok (.iload_n 1, 1) := by decide +kernel
theorem dX11_open_2 : decode cX11_open 2 = .ok (.invokevirtual 110, 3) := by decide +kernel
theorem dX11_open_5 : decode cX11_open 5 = .ok (.ifCond .ne 6, 3) := by decide +kernel
theorem dX11_open_8 : decode cX11_open 8 = .ok (.ldc 114, 2) := by decide +kernel
theorem dX11_open_10 : decode cX11_open 10 = .ok (.ireturn, 1) := by decide +kernel
theorem dX11_open_11 : decode cX11_open 11 = .ok (.iload_n 2, 1) := by decide +kernel
theorem dX11_open_12 : decode cX11_open 12 = .ok (.invokestatic 115, 3) := by decide +kernel
theorem dX11_open_15 : decode cX11_open 15 = .ok (.ifCond .ne 8, 3) := by decide +kernel
theorem dX11_open_18 : decode cX11_open 18 = .ok (.ldc 109, 2) := by decide +kernel
theorem dX11_open_20 : decode cX11_open 20 = .ok (.goto 17, 3) := by decide +kernel
theorem dX11_open_23 : decode cX11_open 23 = .ok (.aload_n 0, 1) := by decide +kernel
theorem dX11_open_24 : decode cX11_open 24 = .ok (.iload_n 1, 1) := by decide +kernel
theorem dX11_open_25 : decode cX11_open 25 = .ok (.iload_n 2, 1) := by decide +kernel
theorem dX11_open_26 : decode cX11_open 26 = .ok (.invokevirtual 147, 3) := by decide +kernel
theorem dX11_open_29 : decode cX11_open 29 = .ok (.ifCond .eq 7, 3) := by decide +kernel
theorem dX11_open_32 : decode cX11_open 32 = .ok (.iconst 1, 1) := by decide +kernel
theorem dX11_open_33 : decode cX11_open 33 = .ok (.goto 4, 3) := by decide +kernel
theorem dX11_open_36 : decode cX11_open 36 = .ok (.iconst 0, 1) := by decide +kernel
theorem dX11_open_37 : decode cX11_open 37 = .ok (.ireturn, 1) := by decide +kernel
theorem dX11_step_0 : decode cX11_step 0 = .ok (.iload_n 1, 1) := by decide +kernel
theorem dX11_step_1 : decode cX11_step 1 = .ok (.aload_n 0, 1) := by decide +kernel
theorem dX11_step_2 : decode cX11_step 2 = .ok (.getfield 86, 3) := by decide +kernel
theorem dX11_step_5 : decode cX11_step 5 = .ok (.irem, 1) := by decide +kernel
theorem dX11_step_6 : decode cX11_step 6 = .ok (.iload_n 2, 1) := by decide +kernel
theorem dX11_step_7 : decode cX11_step 7 = .ok (.ifCond .ne 7, 3) := by decide +kernel
theorem dX11_step_10 : decode cX11_step 10 = .ok (.iconst 1, 1) := by decide +kernel
theorem dX11_step_11 : decode cX11_step 11 = .ok (.goto 13, 3) := by decide +kernel
theorem dX11_step_14 : decode cX11_step 14 = .ok (.iload_n 2, 1) := by decide +kernel
theorem dX11_step_15 : decode cX11_step 15 = .ok (.iconst 2, 1) := by decide +kernel
theorem dX11_step_16 : decode cX11_step 16 = .ok (.if_icmp .ne 7, 3) := by decide +kernel
theorem dX11_step_19 : decode cX11_step 19 = .ok (.iconst (-1), 1) := by decide +kernel
theorem dX11_step_20 : decode cX11_step 20 = .ok (.goto 4, 3) := by decide +kernel
theorem dX11_step_23 : decode cX11_step 23 = .ok (.iconst 0, 1) := by decide +kernel
theorem dX11_step_24 : decode cX11_step 24 = .ok (.iadd, 1) := by decide +kernel
theorem dX11_step_25 : decode cX11_step 25 = .ok (.istore_n 3, 1) := by decide +kernel
theorem dX11_step_26 : decode cX11_step 26 = .ok (.iload_n 1, 1) := by decide +kernel
theorem dX11_step_27 : decode cX11_step 27 = .ok (.aload_n 0, 1) := by decide +kernel
theorem dX11_step_28 : decode cX11_step 28 = .ok (.getfield 86, 3) := by decide +kernel
theorem dX11_step_31 : decode cX11_step 31 = .ok (.idiv, 1) := by decide +kernel
theorem dX11_step_32 : decode cX11_step 32 = .ok (.iload_n 2, 1) := by decide +kernel
theorem dX11_step_33 : decode cX11_step 33 = .ok (.iconst 1, 1) := by decide +kernel
theorem dX11_step_34 : decode cX11_step 34 = .ok (.if_icmp .ne 7, 3) := by decide +kernel
theorem dX11_step_37 : decode cX11_step 37 = .ok (.iconst 1, 1) := by decide +kernel
theorem dX11_step_38 : decode cX11_step 38 = .ok (.goto 13, 3) := by decide +kernel
theorem dX11_step_41 : decode cX11_step 41 = .ok (.iload_n 2, 1) := by decide +kernel
theorem dX11_step_42 : decode cX11_step 42 = .ok (.iconst 3, 1) := by decide +kernel
theorem dX11_step_43 : decode cX11_step 43 = .ok (.if_icmp .ne 7, 3) := by decide +kernel
theorem dX11_step_46 : decode cX11_step 46 = .ok (.iconst (-1), 1) := by decide +kernel
theorem dX11_step_47 : decode cX11_step 47 = .ok (.goto 4, 3) := by decide +kernel
theorem dX11_step_50 : decode cX11_step 50 = .ok (.iconst 0, 1) := by decide +kernel
theorem dX11_step_51 : decode cX11_step 51 = .ok (.iadd, 1) := by decide +kernel
theorem dX11_step_52 : decode cX11_step 52 = .ok (.istore 4, 2) := by decide +kernel
theorem dX11_step_54 : decode cX11_step 54 = .ok (.iload_n 3, 1) := by decide +kernel
theorem dX11_step_55 : decode cX11_step 55 = .ok (.i2l, 1) := by decide +kernel
theorem dX11_step_56 : decode cX11_step 56 = .ok (.lconst 0, 1) := by decide +kernel
theorem dX11_step_57 : decode cX11_step 57 = .ok (.aload_n 0, 1) := by decide +kernel
theorem dX11_step_58 : decode cX11_step 58 = .ok (.getfield 86, 3) := by decide +kernel
theorem dX11_step_61 : decode cX11_step 61 = .ok (.iconst 1, 1) := by decide +kernel
theorem dX11_step_62 : decode cX11_step 62 = .ok (.isub, 1) := by decide +kernel
theorem dX11_step_63 : decode cX11_step 63 = .ok (.i2l, 1) := by decide +kernel
theorem dX11_step_64 : decode cX11_step 64 = .ok (.invokestatic 82, 3) := by decide +kernel
theorem dX11_step_67 : decode cX11_step 67 = .ok (.ifCond .eq 32, 3) := by decide +kernel
theorem dX11_step_70 : decode cX11_step 70 = .ok (.iload 4, 2) := by decide +kernel
theorem dX11_step_72 : decode cX11_step 72 = .ok (.i2l, 1) := by decide +kernel
theorem dX11_step_73 : decode cX11_step 73 = .ok (.lconst 0, 1) := by decide +kernel
theorem dX11_step_74 : decode cX11_step 74 = .ok (.aload_n 0, 1) := by decide +kernel
theorem dX11_step_75 : decode cX11_step 75 = .ok (.getfield 89, 3) := by decide +kernel
theorem dX11_step_78 : decode cX11_step 78 = .ok (.iconst 1, 1) := by decide +kernel
theorem dX11_step_79 : decode cX11_step 79 = .ok (.isub, 1) := by decide +kernel
theorem dX11_step_80 : decode cX11_step 80 = .ok (.i2l, 1) := by decide +kernel
theorem dX11_step_81 : decode cX11_step 81 = .ok (.invokestatic 82, 3) := by decide +kernel
theorem dX11_step_84 : decode cX11_step 84 = .ok (.ifCond .eq 15, 3) := by decide +kernel
theorem dX11_step_87 : decode cX11_step 87 = .ok (.iload 4, 2) := by decide +kernel
theorem dX11_step_89 : decode cX11_step 89 = .ok (.aload_n 0, 1) := by decide +kernel
theorem dX11_step_90 : decode cX11_step 90 = .ok (.getfield 86, 3) := by decide +kernel
theorem dX11_step_93 : decode cX11_step 93 = .ok (.imul, 1) := by decide +kernel
theorem dX11_step_94 : decode cX11_step 94 = .ok (.iload_n 3, 1) := by decide +kernel
theorem dX11_step_95 : decode cX11_step 95 = .ok (.iadd, 1) := by decide +kernel
theorem dX11_step_96 : decode cX11_step 96 = .ok (.goto 5, 3) := by decide +kernel
theorem dX11_step_99 : decode cX11_step 99 = .ok (.ldc 66, 2) := by decide +kernel
theorem dX11_step_101 : decode cX11_step 101 = .ok (.ireturn, 1) := by decide +kernel
theorem dX11_isAsk_0 : decode cX11_isAsk 0 = .ok (.iload_n 1, 1) := by decide +kernel
theorem dX11_isAsk_1 : decode cX11_isAsk 1 = .ok (.i2l, 1) := by decide +kernel
theorem dX11_isAsk_2 : decode cX11_isAsk 2 = .ok (.lconst 0, 1) := by decide +kernel
theorem dX11_isAsk_3 : decode cX11_isAsk 3 = .ok (.aload_n 0, 1) := by decide +kernel
theorem dX11_isAsk_4 : decode cX11_isAsk 4 = .ok (.getfield 98, 3) := by decide +kernel
theorem dX11_isAsk_7 : decode cX11_isAsk 7 = .ok (.iconst 1, 1) := by decide +kernel
theorem dX11_isAsk_8 : decode cX11_isAsk 8 = .ok (.isub, 1) := by decide +kernel
theorem dX11_isAsk_9 : decode cX11_isAsk 9 = .ok (.i2l, 1) := by decide +kernel
theorem dX11_isAsk_10 : decode cX11_isAsk 10 = .ok (.invokestatic 82, 3) := by decide +kernel
theorem dX11_isAsk_13 : decode cX11_isAsk 13 = .ok (.ireturn, 1) := by decide +kernel
theorem dX11_ask_0 : decode cX11_ask 0 = .ok (.aload_n 0, 1) := by decide +kernel
theorem dX11_ask_1 : decode cX11_ask 1 = .ok (.iload_n 1, 1) := by decide +kernel
theorem dX11_ask_2 : decode cX11_ask 2 = .ok (.invokevirtual 110, 3) := by decide +kernel
theorem dX11_ask_5 : decode cX11_ask 5 = .ok (.ifCond .eq 11, 3) := by decide +kernel
theorem dX11_ask_8 : decode cX11_ask 8 = .ok (.aload_n 0, 1) := by decide +kernel
theorem dX11_ask_9 : decode cX11_ask 9 = .ok (.iload_n 2, 1) := by decide +kernel
theorem dX11_ask_10 : decode cX11_ask 10 = .ok (.invokevirtual 110, 3) := by decide +kernel
theorem dX11_ask_13 : decode cX11_ask 13 = .ok (.ifCond .ne 6, 3) := by decide +kernel
theorem dX11_ask_16 : decode cX11_ask 16 = .ok (.ldc 114, 2) := by decide +kernel
theorem dX11_ask_18 : decode cX11_ask 18 = .ok (.ireturn, 1) := by decide +kernel
theorem dX11_ask_19 : decode cX11_ask 19 = .ok (.iload_n 3, 1) := by decide +kernel
theorem dX11_ask_20 : decode cX11_ask 20 = .ok (.invokestatic 115, 3) := by decide +kernel
theorem dX11_ask_23 : decode cX11_ask 23 = .ok (.ifCond .eq 56, 3) := by decide +kernel
theorem dX11_ask_26 : decode cX11_ask 26 = .ok (.iload 4, 2) := by decide +kernel
theorem dX11_ask_28 : decode cX11_ask 28 = .ok (.invokestatic 115, 3) := by decide +kernel
theorem dX11_ask_31 : decode cX11_ask 31 = .ok (.ifCond .eq 48, 3) := by decide +kernel
theorem dX11_ask_34 : decode cX11_ask 34 = .ok (.iload_n 3, 1) := by decide +kernel
theorem dX11_ask_35 : decode cX11_ask 35 = .ok (.iload 4, 2) := by decide +kernel
theorem dX11_ask_37 : decode cX11_ask 37 = .ok (.if_icmp .ge 42, 3) := by decide +kernel
theorem dX11_ask_40 : decode cX11_ask 40 = .ok (.iload 5, 2) := by decide +kernel
theorem dX11_ask_42 : decode cX11_ask 42 = .ok (.i2l, 1) := by decide +kernel
theorem dX11_ask_43 : decode cX11_ask 43 = .ok (.lconst 1, 1) := by decide +kernel
theorem dX11_ask_44 : decode cX11_ask 44 = .ok (.ldc2_w 150, 3) := by decide +kernel
theorem dX11_ask_47 : decode cX11_ask 47 = .ok (.invokestatic 82, 3) := by decide +kernel
theorem dX11_ask_50 : decode cX11_ask 50 = .ok (.ifCond .eq 29, 3) := by decide +kernel
theorem dX11_ask_53 : decode cX11_ask 53 = .ok (.iload 6, 2) := by decide +kernel
theorem dX11_ask_55 : decode cX11_ask 55 = .ok (.i2l, 1) := by decide +kernel
theorem dX11_ask_56 : decode cX11_ask 56 = .ok (.lconst 1, 1) := by decide +kernel
theorem dX11_ask_57 : decode cX11_ask 57 = .ok (.ldc2_w 152, 3) := by decide +kernel
theorem dX11_ask_60 : decode cX11_ask 60 = .ok (.invokestatic 82, 3) := by decide +kernel
theorem dX11_ask_63 : decode cX11_ask 63 = .ok (.ifCond .eq 16, 3) := by decide +kernel
theorem dX11_ask_66 : decode cX11_ask 66 = .ok (.iload 7, 2) := by decide +kernel
theorem dX11_ask_68 : decode cX11_ask 68 = .ok (.i2l, 1) := by decide +kernel
theorem dX11_ask_69 : decode cX11_ask 69 = .ok (.lconst 1, 1) := by decide +kernel
theorem dX11_ask_70 : decode cX11_ask 70 = .ok (.ldc2_w 152, 3) := by decide +kernel
theorem dX11_ask_73 : decode cX11_ask 73 = .ok (.invokestatic 82, 3) := by decide +kernel
theorem dX11_ask_76 : decode cX11_ask 76 = .ok (.ifCond .ne 6, 3) := by decide +kernel
theorem dX11_ask_79 : decode cX11_ask 79 = .ok (.ldc 109, 2) := by decide +kernel
theorem dX11_ask_81 : decode cX11_ask 81 = .ok (.ireturn, 1) := by decide +kernel
theorem dX11_ask_82 : decode cX11_ask 82 = .ok (.iload_n 1, 1) := by decide +kernel
theorem dX11_ask_83 : decode cX11_ask 83 = .ok (.iload_n 2, 1) := by decide +kernel
theorem dX11_ask_84 : decode cX11_ask 84 = .ok (.if_icmp .ne 6, 3) := by decide +kernel
theorem dX11_ask_87 : decode cX11_ask 87 = .ok (.ldc 154, 2) := by decide +kernel
theorem dX11_ask_89 : decode cX11_ask 89 = .ok (.ireturn, 1) := by decide +kernel
theorem dX11_ask_90 : decode cX11_ask 90 = .ok (.aload_n 0, 1) := by decide +kernel
theorem dX11_ask_91 : decode cX11_ask 91 = .ok (.getfield 98, 3) := by decide +kernel
theorem dX11_ask_94 : decode cX11_ask 94 = .ok (.bipush 10, 2) := by decide +kernel
theorem dX11_ask_96 : decode cX11_ask 96 = .ok (.if_icmp .ne 6, 3) := by decide +kernel
theorem dX11_ask_99 : decode cX11_ask 99 = .ok (.ldc 118, 2) := by decide +kernel
theorem dX11_ask_101 : decode cX11_ask 101 = .ok (.ireturn, 1) := by decide +kernel
theorem dX11_ask_102 : decode cX11_ask 102 = .ok (.bipush 8, 2) := by decide +kernel
theorem dX11_ask_104 : decode cX11_ask 104 = .ok (.aload_n 0, 1) := by decide +kernel
theorem dX11_ask_105 : decode cX11_ask 105 = .ok (.getfield 98, 3) := by decide +kernel
theorem dX11_ask_108 : decode cX11_ask 108 = .ok (.imul, 1) := by decide +kernel
theorem dX11_ask_109 : decode cX11_ask 109 = .ok (.istore 8, 2) := by decide +kernel
theorem dX11_ask_111 : decode cX11_ask 111 = .ok (.aload_n 0, 1) := by decide +kernel
theorem dX11_ask_112 : decode cX11_ask 112 = .ok (.getfield 24, 3) := by decide +kernel
theorem dX11_ask_115 : decode cX11_ask 115 = .ok (.iload 8, 2) := by decide +kernel
theorem dX11_ask_117 : decode cX11_ask 117 = .ok (.iload_n 1, 1) := by decide +kernel
theorem dX11_ask_118 : decode cX11_ask 118 = .ok (.iastore, 1) := by decide +kernel
theorem dX11_ask_119 : decode cX11_ask 119 = .ok (.aload_n 0, 1) := by decide +kernel
theorem dX11_ask_120 : decode cX11_ask 120 = .ok (.getfield 24, 3) := by decide +kernel
theorem dX11_ask_123 : decode cX11_ask 123 = .ok (.iload 8, 2) := by decide +kernel
theorem dX11_ask_125 : decode cX11_ask 125 = .ok (.iconst 1, 1) := by decide +kernel
theorem dX11_ask_126 : decode cX11_ask 126 = .ok (.iadd, 1) := by decide +kernel
theorem dX11_ask_127 : decode cX11_ask 127 = .ok (.iload_n 2, 1) := by decide +kernel
theorem dX11_ask_128 : decode cX11_ask 128 = .ok (.iastore, 1) := by decide +kernel
theorem dX11_ask_129 : decode cX11_ask 129 = .ok (.aload_n 0, 1) := by decide +kernel
theorem dX11_ask_130 : decode cX11_ask 130 = .ok (.getfield 24, 3) := by decide +kernel
theorem dX11_ask_133 : decode cX11_ask 133 = .ok (.iload 8, 2) := by decide +kernel
theorem dX11_ask_135 : decode cX11_ask 135 = .ok (.iconst 2, 1) := by decide +kernel
theorem dX11_ask_136 : decode cX11_ask 136 = .ok (.iadd, 1) := by decide +kernel
theorem dX11_ask_137 : decode cX11_ask 137 = .ok (.iload_n 3, 1) := by decide +kernel
theorem dX11_ask_138 : decode cX11_ask 138 = .ok (.iastore, 1) := by decide +kernel
theorem dX11_ask_139 : decode cX11_ask 139 = .ok (.aload_n 0, 1) := by decide +kernel
theorem dX11_ask_140 : decode cX11_ask 140 = .ok (.getfield 24, 3) := by decide +kernel
theorem dX11_ask_143 : decode cX11_ask 143 = .ok (.iload 8, 2) := by decide +kernel
theorem dX11_ask_145 : decode cX11_ask 145 = .ok (.iconst 3, 1) := by decide +kernel
theorem dX11_ask_146 : decode cX11_ask 146 = .ok (.iadd, 1) := by decide +kernel
theorem dX11_ask_147 : decode cX11_ask 147 = .ok (.iload 4, 2) := by decide +kernel
theorem dX11_ask_149 : decode cX11_ask 149 = .ok (.iastore, 1) := by decide +kernel
theorem dX11_ask_150 : decode cX11_ask 150 = .ok (.aload_n 0, 1) := by decide +kernel
theorem dX11_ask_151 : decode cX11_ask 151 = .ok (.getfield 24, 3) := by decide +kernel
theorem dX11_ask_154 : decode cX11_ask 154 = .ok (.iload 8, 2) := by decide +kernel
theorem dX11_ask_156 : decode cX11_ask 156 = .ok (.iconst 4, 1) := by decide +kernel
theorem dX11_ask_157 : decode cX11_ask 157 = .ok (.iadd, 1) := by decide +kernel
theorem dX11_ask_158 : decode cX11_ask 158 = .ok (.iload 5, 2) := by decide +kernel
theorem dX11_ask_160 : decode cX11_ask 160 = .ok (.iastore, 1) := by decide +kernel
theorem dX11_ask_161 : decode cX11_ask 161 = .ok (.aload_n 0, 1) := by decide +kernel
theorem dX11_ask_162 : decode cX11_ask 162 = .ok (.getfield 24, 3) := by decide +kernel
theorem dX11_ask_165 : decode cX11_ask 165 = .ok (.iload 8, 2) := by decide +kernel
theorem dX11_ask_167 : decode cX11_ask 167 = .ok (.iconst 5, 1) := by decide +kernel
theorem dX11_ask_168 : decode cX11_ask 168 = .ok (.iadd, 1) := by decide +kernel
theorem dX11_ask_169 : decode cX11_ask 169 = .ok (.iload 6, 2) := by decide +kernel
theorem dX11_ask_171 : decode cX11_ask 171 = .ok (.iastore, 1) := by decide +kernel
theorem dX11_ask_172 : decode cX11_ask 172 = .ok (.aload_n 0, 1) := by decide +kernel
theorem dX11_ask_173 : decode cX11_ask 173 = .ok (.getfield 24, 3) := by decide +kernel
theorem dX11_ask_176 : decode cX11_ask 176 = .ok (.iload 8, 2) := by decide +kernel
theorem dX11_ask_178 : decode cX11_ask 178 = .ok (.bipush 6, 2) := by decide +kernel
theorem dX11_ask_180 : decode cX11_ask 180 = .ok (.iadd, 1) := by decide +kernel
theorem dX11_ask_181 : decode cX11_ask 181 = .ok (.iload 7, 2) := by decide +kernel
theorem dX11_ask_183 : decode cX11_ask 183 = .ok (.iastore, 1) := by decide +kernel
theorem dX11_ask_184 : decode cX11_ask 184 = .ok (.aload_n 0, 1) := by decide +kernel
theorem dX11_ask_185 : decode cX11_ask 185 = .ok (.getfield 33, 3) := by decide +kernel
theorem dX11_ask_188 : decode cX11_ask 188 = .ok (.aload_n 0, 1) := by decide +kernel
theorem dX11_ask_189 : decode cX11_ask 189 = .ok (.getfield 98, 3) := by decide +kernel
theorem dX11_ask_192 : decode cX11_ask 192 = .ok (.iconst 0, 1) := by decide +kernel
theorem dX11_ask_193 : decode cX11_ask 193 = .ok (.bastore, 1) := by decide +kernel
theorem dX11_ask_194 : decode cX11_ask 194 = .ok (.aload_n 0, 1) := by decide +kernel
theorem dX11_ask_195 : decode cX11_ask 195 = .ok (.dup, 1) := by decide +kernel
theorem dX11_ask_196 : decode cX11_ask 196 = .ok (.getfield 98, 3) := by decide +kernel
theorem dX11_ask_199 : decode cX11_ask 199 = .ok (.iconst 1, 1) := by decide +kernel
theorem dX11_ask_200 : decode cX11_ask 200 = .ok (.iadd, 1) := by decide +kernel
theorem dX11_ask_201 : decode cX11_ask 201 = .ok (.putfield 98, 3) := by decide +kernel
theorem dX11_ask_204 : decode cX11_ask 204 = .ok (.aload_n 0, 1) := by decide +kernel
theorem dX11_ask_205 : decode cX11_ask 205 = .ok (.getfield 98, 3) := by decide +kernel
theorem dX11_ask_208 : decode cX11_ask 208 = .ok (.iconst 1, 1) := by decide +kernel
theorem dX11_ask_209 : decode cX11_ask 209 = .ok (.isub, 1) := by decide +kernel
theorem dX11_ask_210 : decode cX11_ask 210 = .ok (.ireturn, 1) := by decide +kernel
theorem dX11_about_0 : decode cX11_about 0 = .ok (.aload_n 0, 1) := by decide +kernel
theorem dX11_about_1 : decode cX11_about 1 = .ok (.iload_n 1, 1) := by decide +kernel
theorem dX11_about_2 : decode cX11_about 2 = .ok (.invokevirtual 155, 3) := by decide +kernel
theorem dX11_about_5 : decode cX11_about 5 = .ok (.ifCond .ne 6, 3) := by decide +kernel
theorem dX11_about_8 : decode cX11_about 8 = .ok (.ldc 114, 2) := by decide +kernel
theorem dX11_about_10 : decode cX11_about 10 = .ok (.ireturn, 1) := by decide +kernel
theorem dX11_about_11 : decode cX11_about 11 = .ok (.iload_n 2, 1) := by decide +kernel
theorem dX11_about_12 : decode cX11_about 12 = .ok (.bipush 7, 2) := by decide +kernel
theorem dX11_about_14 : decode cX11_about 14 = .ok (.if_icmp .ne 20, 3) := by decide +kernel
theorem dX11_about_17 : decode cX11_about 17 = .ok (.aload_n 0, 1) := by decide +kernel
theorem dX11_about_18 : decode cX11_about 18 = .ok (.getfield 33, 3) := by decide +kernel
theorem dX11_about_21 : decode cX11_about 21 = .ok (.iload_n 1, 1) := by decide +kernel
theorem dX11_about_22 : decode cX11_about 22 = .ok (.baload, 1) := by decide +kernel
theorem dX11_about_23 : decode cX11_about 23 = .ok (.ifCond .eq 7, 3) := by decide +kernel
theorem dX11_about_26 : decode cX11_about 26 = .ok (.iconst 1, 1) := by decide +kernel
theorem dX11_about_27 : decode cX11_about 27 = .ok (.goto 35, 3) := by decide +kernel
theorem dX11_about_30 : decode cX11_about 30 = .ok (.iconst 0, 1) := by decide +kernel
theorem dX11_about_31 : decode cX11_about 31 = .ok (.goto 31, 3) := by decide +kernel
theorem dX11_about_34 : decode cX11_about 34 = .ok (.iload_n 2, 1) := by decide +kernel
theorem dX11_about_35 : decode cX11_about 35 = .ok (.i2l, 1) := by decide +kernel
theorem dX11_about_36 : decode cX11_about 36 = .ok (.lconst 0, 1) := by decide +kernel
theorem dX11_about_37 : decode cX11_about 37 = .ok (.ldc2_w 107, 3) := by decide +kernel
theorem dX11_about_40 : decode cX11_about 40 = .ok (.invokestatic 82, 3) := by decide +kernel
theorem dX11_about_43 : decode cX11_about 43 = .ok (.ifCond .eq 17, 3) := by decide +kernel
theorem dX11_about_46 : decode cX11_about 46 = .ok (.aload_n 0, 1) := by decide +kernel
theorem dX11_about_47 : decode cX11_about 47 = .ok (.getfield 24, 3) := by decide +kernel
theorem dX11_about_50 : decode cX11_about 50 = .ok (.bipush 8, 2) := by decide +kernel
theorem dX11_about_52 : decode cX11_about 52 = .ok (.iload_n 1, 1) := by decide +kernel
theorem dX11_about_53 : decode cX11_about 53 = .ok (.imul, 1) := by decide +kernel
theorem dX11_about_54 : decode cX11_about 54 = .ok (.iload_n 2, 1) := by decide +kernel
theorem dX11_about_55 : decode cX11_about 55 = .ok (.iadd, 1) := by decide +kernel
theorem dX11_about_56 : decode cX11_about 56 = .ok (.iaload, 1) := by decide +kernel
theorem dX11_about_57 : decode cX11_about 57 = .ok (.goto 5, 3) := by decide +kernel
theorem dX11_about_60 : decode cX11_about 60 = .ok (.ldc 109, 2) := by decide +kernel
theorem dX11_about_62 : decode cX11_about 62 = .ok (.ireturn, 1) := by decide +kernel
theorem dX11_layOpen_0 : decode cX11_layOpen 0 = .ok (.iconst 0, 1) := by decide +kernel
theorem dX11_layOpen_1 : decode cX11_layOpen 1 = .ok (.istore_n 1, 1) := by decide +kernel
theorem dX11_layOpen_2 : decode cX11_layOpen 2 = .ok (.iload_n 1, 1) := by decide +kernel
theorem dX11_layOpen_3 : decode cX11_layOpen 3 = .ok (.bipush 60, 2) := by decide +kernel
theorem dX11_layOpen_5 : decode cX11_layOpen 5 = .ok (.if_icmp .ge 42, 3) := by decide +kernel
theorem dX11_layOpen_8 : decode cX11_layOpen 8 = .ok (.iconst 0, 1) := by decide +kernel
theorem dX11_layOpen_9 : decode cX11_layOpen 9 = .ok (.istore_n 2, 1) := by decide +kernel
theorem dX11_layOpen_10 : decode cX11_layOpen 10 = .ok (.iload_n 2, 1) := by decide +kernel
theorem dX11_layOpen_11 : decode cX11_layOpen 11 = .ok (.aload_n 0, 1) := by decide +kernel
theorem dX11_layOpen_12 : decode cX11_layOpen 12 = .ok (.invokevirtual 101, 3) := by decide +kernel
theorem dX11_layOpen_15 : decode cX11_layOpen 15 = .ok (.if_icmp .ge 26, 3) := by decide +kernel
theorem dX11_layOpen_18 : decode cX11_layOpen 18 = .ok (.aload_n 0, 1) := by decide +kernel
theorem dX11_layOpen_19 : decode cX11_layOpen 19 = .ok (.getfield 45, 3) := by decide +kernel
theorem dX11_layOpen_22 : decode cX11_layOpen 22 = .ok (.bipush 36, 2) := by decide +kernel
theorem dX11_layOpen_24 : decode cX11_layOpen 24 = .ok (.iload_n 1, 1) := by decide +kernel
theorem dX11_layOpen_25 : decode cX11_layOpen 25 = .ok (.imul, 1) := by decide +kernel
theorem dX11_layOpen_26 : decode cX11_layOpen 26 = .ok (.iload_n 2, 1) := by decide +kernel
theorem dX11_layOpen_27 : decode cX11_layOpen 27 = .ok (.iadd, 1) := by decide +kernel
theorem dX11_layOpen_28 : decode cX11_layOpen 28 = .ok (.aload_n 0, 1) := by decide +kernel
theorem dX11_layOpen_29 : decode cX11_layOpen 29 = .ok (.iload_n 2, 1) := by decide +kernel
theorem dX11_layOpen_30 : decode cX11_layOpen 30 = .ok (.iload_n 1, 1) := by decide +kernel
theorem dX11_layOpen_31 : decode cX11_layOpen 31 = .ok (.invokevirtual 147, 3) := by decide +kernel
theorem dX11_layOpen_34 : decode cX11_layOpen 34 = .ok (.bastore, 1) := by decide +kernel
theorem dX11_layOpen_35 : decode cX11_layOpen 35 = .ok (.iinc 2 1, 3) := by decide +kernel
theorem dX11_layOpen_38 : decode cX11_layOpen 38 = .ok (.goto (-28), 3) := by decide +kernel
theorem dX11_layOpen_41 : decode cX11_layOpen 41 = .ok (.iinc 1 1, 3) := by decide +kernel
theorem dX11_layOpen_44 : decode cX11_layOpen 44 = .ok (.goto (-42), 3) := by decide +kernel
theorem dX11_layOpen_47 : decode cX11_layOpen 47 = .ok (.return_, 1) := by decide +kernel
theorem dX11_layBits_0 : decode cX11_layBits 0 = .ok (.iconst 0, 1) := by decide +kernel
theorem dX11_layBits_1 : decode cX11_layBits 1 = .ok (.istore_n 1, 1) := by decide +kernel
theorem dX11_layBits_2 : decode cX11_layBits 2 = .ok (.iload_n 1, 1) := by decide +kernel
theorem dX11_layBits_3 : decode cX11_layBits 3 = .ok (.sipush 2160, 3) := by decide +kernel
theorem dX11_layBits_6 : decode cX11_layBits 6 = .ok (.if_icmp .ge 16, 3) := by decide +kernel
theorem dX11_layBits_9 : decode cX11_layBits 9 = .ok (.aload_n 0, 1) := by decide +kernel
theorem dX11_layBits_10 : decode cX11_layBits 10 = .ok (.getfield 39, 3) := by decide +kernel
theorem dX11_layBits_13 : decode cX11_layBits 13 = .ok (.iload_n 1, 1) := by decide +kernel
theorem dX11_layBits_14 : decode cX11_layBits 14 = .ok (.iconst 0, 1) := by decide +kernel
theorem dX11_layBits_15 : decode cX11_layBits 15 = .ok (.iastore, 1) := by decide +kernel
theorem dX11_layBits_16 : decode cX11_layBits 16 = .ok (.iinc 1 1, 3) := by decide +kernel
theorem dX11_layBits_19 : decode cX11_layBits 19 = .ok (.goto (-17), 3) := by decide +kernel
theorem dX11_layBits_22 : decode cX11_layBits 22 = .ok (.iconst 0, 1) := by decide +kernel
theorem dX11_layBits_23 : decode cX11_layBits 23 = .ok (.istore_n 1, 1) := by decide +kernel
theorem dX11_layBits_24 : decode cX11_layBits 24 = .ok (.iload_n 1, 1) := by decide +kernel
theorem dX11_layBits_25 : decode cX11_layBits 25 = .ok (.sipush 10800, 3) := by decide +kernel
theorem dX11_layBits_28 : decode cX11_layBits 28 = .ok (.if_icmp .ge 16, 3) := by decide +kernel
theorem dX11_layBits_31 : decode cX11_layBits 31 = .ok (.aload_n 0, 1) := by decide +kernel
theorem dX11_layBits_32 : decode cX11_layBits 32 = .ok (.getfield 42, 3) := by decide +kernel
theorem dX11_layBits_35 : decode cX11_layBits 35 = .ok (.iload_n 1, 1) := by decide +kernel
theorem dX11_layBits_36 : decode cX11_layBits 36 = .ok (.iconst 0, 1) := by decide +kernel
theorem dX11_layBits_37 : decode cX11_layBits 37 = .ok (.iastore, 1) := by decide +kernel
theorem dX11_layBits_38 : decode cX11_layBits 38 = .ok (.iinc 1 1, 3) := by decide +kernel
theorem dX11_layBits_41 : decode cX11_layBits 41 = .ok (.goto (-17), 3) := by decide +kernel
theorem dX11_layBits_44 : decode cX11_layBits 44 = .ok (.iconst 0, 1) := by decide +kernel
theorem dX11_layBits_45 : decode cX11_layBits 45 = .ok (.istore_n 1, 1) := by decide +kernel
theorem dX11_layBits_46 : decode cX11_layBits 46 = .ok (.iload_n 1, 1) := by decide +kernel
theorem dX11_layBits_47 : decode cX11_layBits 47 = .ok (.aload_n 0, 1) := by decide +kernel
theorem dX11_layBits_48 : decode cX11_layBits 48 = .ok (.getfield 98, 3) := by decide +kernel
theorem dX11_layBits_51 : decode cX11_layBits 51 = .ok (.if_icmp .ge 63, 3) := by decide +kernel
theorem dX11_layBits_54 : decode cX11_layBits 54 = .ok (.aload_n 0, 1) := by decide +kernel
theorem dX11_layBits_55 : decode cX11_layBits 55 = .ok (.getfield 27, 3) := by decide +kernel
theorem dX11_layBits_58 : decode cX11_layBits 58 = .ok (.iload_n 1, 1) := by decide +kernel
theorem dX11_layBits_59 : decode cX11_layBits 59 = .ok (.iaload, 1) := by decide +kernel
theorem dX11_layBits_60 : decode cX11_layBits 60 = .ok (.istore_n 2, 1) := by decide +kernel
theorem dX11_layBits_61 : decode cX11_layBits 61 = .ok (.iload_n 2, 1) := by decide +kernel
theorem dX11_layBits_62 : decode cX11_layBits 62 = .ok (.aload_n 0, 1) := by decide +kernel
theorem dX11_layBits_63 : decode cX11_layBits 63 = .ok (.getfield 30, 3) := by decide +kernel
theorem dX11_layBits_66 : decode cX11_layBits 66 = .ok (.iload_n 1, 1) := by decide +kernel
theorem dX11_layBits_67 : decode cX11_layBits 67 = .ok (.iaload, 1) := by decide +kernel
theorem dX11_layBits_68 : decode cX11_layBits 68 = .ok (.if_icmp .gt 40, 3) := by decide +kernel
theorem dX11_layBits_71 : decode cX11_layBits 71 = .ok (.aload_n 0, 1) := by decide +kernel
theorem dX11_layBits_72 : decode cX11_layBits 72 = .ok (.getfield 33, 3) := by decide +kernel
theorem dX11_layBits_75 : decode cX11_layBits 75 = .ok (.iload_n 1, 1) := by decide +kernel
theorem dX11_layBits_76 : decode cX11_layBits 76 = .ok (.baload, 1) := by decide +kernel
theorem dX11_layBits_77 : decode cX11_layBits 77 = .ok (.ifCond .eq 31, 3) := by decide +kernel
theorem dX11_layBits_80 : decode cX11_layBits 80 = .ok (.aload_n 0, 1) := by decide +kernel
theorem dX11_layBits_81 : decode cX11_layBits 81 = .ok (.iload_n 1, 1) := by decide +kernel
theorem dX11_layBits_82 : decode cX11_layBits 82 = .ok (.iload_n 2, 1) := by decide +kernel
theorem dX11_layBits_83 : decode cX11_layBits 83 = .ok (.invokevirtual 158, 3) := by decide +kernel
theorem dX11_layBits_86 : decode cX11_layBits 86 = .ok (.iload_n 2, 1) := by decide +kernel
theorem dX11_layBits_87 : decode cX11_layBits 87 = .ok (.aload_n 0, 1) := by decide +kernel
theorem dX11_layBits_88 : decode cX11_layBits 88 = .ok (.getfield 30, 3) := by decide +kernel
theorem dX11_layBits_91 : decode cX11_layBits 91 = .ok (.iload_n 1, 1) := by decide +kernel
theorem dX11_layBits_92 : decode cX11_layBits 92 = .ok (.iaload, 1) := by decide +kernel
theorem dX11_layBits_93 : decode cX11_layBits 93 = .ok (.if_icmp .ge 9, 3) := by decide +kernel
theorem dX11_layBits_96 : decode cX11_layBits 96 = .ok (.aload_n 0, 1) := by decide +kernel
theorem dX11_layBits_97 : decode cX11_layBits 97 = .ok (.iload_n 1, 1) := by decide +kernel
theorem dX11_layBits_98 : decode cX11_layBits 98 = .ok (.iload_n 2, 1) := by decide +kernel
theorem dX11_layBits_99 : decode cX11_layBits 99 = .ok (.invokevirtual 161, 3) := by decide +kernel
theorem dX11_layBits_102 : decode cX11_layBits 102 = .ok (.iinc 2 1, 3) := by decide +kernel
theorem dX11_layBits_105 : decode cX11_layBits 105 = .ok (.goto (-44), 3) := by decide +kernel
theorem dX11_layBits_108 : decode cX11_layBits 108 = .ok (.iinc 1 1, 3) := by decide +kernel
theorem dX11_layBits_111 : decode cX11_layBits 111 = .ok (.goto (-65), 3) := by decide +kernel
theorem dX11_layBits_114 : decode cX11_layBits 114 = .ok (.return_, 1) := by decide +kernel
theorem dX11_layNear_0 : decode cX11_layNear 0 = .ok (.aload_n 0, 1) := by decide +kernel
theorem dX11_layNear_1 : decode cX11_layNear 1 = .ok (.getfield 36, 3) := by decide +kernel
theorem dX11_layNear_4 : decode cX11_layNear 4 = .ok (.bipush 60, 2) := by decide +kernel
theorem dX11_layNear_6 : decode cX11_layNear 6 = .ok (.iload_n 1, 1) := by decide +kernel
theorem dX11_layNear_7 : decode cX11_layNear 7 = .ok (.imul, 1) := by decide +kernel
theorem dX11_layNear_8 : decode cX11_layNear 8 = .ok (.iload_n 2, 1) := by decide +kernel
theorem dX11_layNear_9 : decode cX11_layNear 9 = .ok (.iadd, 1) := by decide +kernel
theorem dX11_layNear_10 : decode cX11_layNear 10 = .ok (.iaload, 1) := by decide +kernel
theorem dX11_layNear_11 : decode cX11_layNear 11 = .ok (.istore_n 3, 1) := by decide +kernel
theorem dX11_layNear_12 : decode cX11_layNear 12 = .ok (.iconst 0, 1) := by decide +kernel
theorem dX11_layNear_13 : decode cX11_layNear 13 = .ok (.istore 4, 2) := by decide +kernel
theorem dX11_layNear_15 : decode cX11_layNear 15 = .ok (.iload 4, 2) := by decide +kernel
theorem dX11_layNear_17 : decode cX11_layNear 17 = .ok (.aload_n 0, 1) := by decide +kernel
theorem dX11_layNear_18 : decode cX11_layNear 18 = .ok (.invokevirtual 101, 3) := by decide +kernel
theorem dX11_layNear_21 : decode cX11_layNear 21 = .ok (.if_icmp .ge 59, 3) := by decide +kernel
theorem dX11_layNear_24 : decode cX11_layNear 24 = .ok (.aload_n 0, 1) := by decide +kernel
theorem dX11_layNear_25 : decode cX11_layNear 25 = .ok (.getfield 39, 3) := by decide +kernel
theorem dX11_layNear_28 : decode cX11_layNear 28 = .ok (.bipush 36, 2) := by decide +kernel
theorem dX11_layNear_30 : decode cX11_layNear 30 = .ok (.iload_n 2, 1) := by decide +kernel
theorem dX11_layNear_31 : decode cX11_layNear 31 = .ok (.imul, 1) := by decide +kernel
theorem dX11_layNear_32 : decode cX11_layNear 32 = .ok (.iload 4, 2) := by decide +kernel
theorem dX11_layNear_34 : decode cX11_layNear 34 = .ok (.iadd, 1) := by decide +kernel
theorem dX11_layNear_35 : decode cX11_layNear 35 = .ok (.dup2, 1) := by decide +kernel
theorem dX11_layNear_36 : decode cX11_layNear 36 = .ok (.iaload, 1) := by decide +kernel
theorem dX11_layNear_37 : decode cX11_layNear 37 = .ok (.aload_n 0, 1) := by decide +kernel
theorem dX11_layNear_38 : decode cX11_layNear 38 = .ok (.iload 4, 2) := by decide +kernel
theorem dX11_layNear_40 : decode cX11_layNear 40 = .ok (.iload_n 3, 1) := by decide +kernel
theorem dX11_layNear_41 : decode cX11_layNear 41 = .ok (.invokevirtual 130, 3) := by decide +kernel
theorem dX11_layNear_44 : decode cX11_layNear 44 = .ok (.aload_n 0, 1) := by decide +kernel
theorem dX11_layNear_45 : decode cX11_layNear 45 = .ok (.getfield 123, 3) := by decide +kernel
theorem dX11_layNear_48 : decode cX11_layNear 48 = .ok (.if_icmp .gt 23, 3) := by decide +kernel
theorem dX11_layNear_51 : decode cX11_layNear 51 = .ok (.aload_n 0, 1) := by decide +kernel
theorem dX11_layNear_52 : decode cX11_layNear 52 = .ok (.iload 4, 2) := by decide +kernel
theorem dX11_layNear_54 : decode cX11_layNear 54 = .ok (.iload_n 3, 1) := by decide +kernel
theorem dX11_layNear_55 : decode cX11_layNear 55 = .ok (.invokevirtual 134, 3) := by decide +kernel
theorem dX11_layNear_58 : decode cX11_layNear 58 = .ok (.aload_n 0, 1) := by decide +kernel
theorem dX11_layNear_59 : decode cX11_layNear 59 = .ok (.getfield 123, 3) := by decide +kernel
theorem dX11_layNear_62 : decode cX11_layNear 62 = .ok (.if_icmp .gt 9, 3) := by decide +kernel
theorem dX11_layNear_65 : decode cX11_layNear 65 = .ok (.iconst 1, 1) := by decide +kernel
theorem dX11_layNear_66 : decode cX11_layNear 66 = .ok (.iload_n 1, 1) := by decide +kernel
theorem dX11_layNear_67 : decode cX11_layNear 67 = .ok (.ishl, 1) := by decide +kernel
theorem dX11_layNear_68 : decode cX11_layNear 68 = .ok (.goto 4, 3) := by decide +kernel
theorem dX11_layNear_71 : decode cX11_layNear 71 = .ok (.iconst 0, 1) := by decide +kernel
theorem dX11_layNear_72 : decode cX11_layNear 72 = .ok (.ior, 1) := by decide +kernel
theorem dX11_layNear_73 : decode cX11_layNear 73 = .ok (.iastore, 1) := by decide +kernel
theorem dX11_layNear_74 : decode cX11_layNear 74 = .ok (.iinc 4 1, 3) := by decide +kernel
theorem dX11_layNear_77 : decode cX11_layNear 77 = .ok (.goto (-62), 3) := by decide +kernel
theorem dX11_layNear_80 : decode cX11_layNear 80 = .ok (.return_, 1) := by decide +kernel
theorem dX11_layChange_0 : decode cX11_layChange 0 = .ok (.aload_n 0, 1) := by decide +kernel
theorem dX11_layChange_1 : decode cX11_layChange 1 = .ok (.getfield 36, 3) := by decide +kernel
theorem dX11_layChange_4 : decode cX11_layChange 4 = .ok (.bipush 60, 2) := by decide +kernel
theorem dX11_layChange_6 : decode cX11_layChange 6 = .ok (.iload_n 1, 1) := by decide +kernel
theorem dX11_layChange_7 : decode cX11_layChange 7 = .ok (.imul, 1) := by decide +kernel
theorem dX11_layChange_8 : decode cX11_layChange 8 = .ok (.iload_n 2, 1) := by decide +kernel
theorem dX11_layChange_9 : decode cX11_layChange 9 = .ok (.iadd, 1) := by decide +kernel
theorem dX11_layChange_10 : decode cX11_layChange 10 = .ok (.iconst 1, 1) := by decide +kernel
theorem dX11_layChange_11 : decode cX11_layChange 11 = .ok (.iadd, 1) := by decide +kernel
theorem dX11_layChange_12 : decode cX11_layChange 12 = .ok (.iaload, 1) := by decide +kernel
theorem dX11_layChange_13 : decode cX11_layChange 13 = .ok (.istore_n 3, 1) := by decide +kernel
theorem dX11_layChange_14 : decode cX11_layChange 14 = .ok (.iconst 0, 1) := by decide +kernel
theorem dX11_layChange_15 : decode cX11_layChange 15 = .ok (.istore 4, 2) := by decide +kernel
theorem dX11_layChange_17 : decode cX11_layChange 17 = .ok (.iload 4, 2) := by decide +kernel
theorem dX11_layChange_19 : decode cX11_layChange 19 = .ok (.iconst 4, 1) := by decide +kernel
theorem dX11_layChange_20 : decode cX11_layChange 20 = .ok (.if_icmp .ge 56, 3) := by decide +kernel
theorem dX11_layChange_23 : decode cX11_layChange 23 = .ok (.aload_n 0, 1) := by decide +kernel
theorem dX11_layChange_24 : decode cX11_layChange 24 = .ok (.getfield 42, 3) := by decide +kernel
theorem dX11_layChange_27 : decode cX11_layChange 27 = .ok (.iconst 5, 1) := by decide +kernel
theorem dX11_layChange_28 : decode cX11_layChange 28 = .ok (.bipush 36, 2) := by decide +kernel
theorem dX11_layChange_30 : decode cX11_layChange 30 = .ok (.iload_n 2, 1) := by decide +kernel
theorem dX11_layChange_31 : decode cX11_layChange 31 = .ok (.imul, 1) := by decide +kernel
theorem dX11_layChange_32 : decode cX11_layChange 32 = .ok (.iload_n 3, 1) := by decide +kernel
theorem dX11_layChange_33 : decode cX11_layChange 33 = .ok (.iadd, 1) := by decide +kernel
theorem dX11_layChange_34 : decode cX11_layChange 34 = .ok (.imul, 1) := by decide +kernel
theorem dX11_layChange_35 : decode cX11_layChange 35 = .ok (.iload 4, 2) := by decide +kernel
theorem dX11_layChange_37 : decode cX11_layChange 37 = .ok (.iadd, 1) := by decide +kernel
theorem dX11_layChange_38 : decode cX11_layChange 38 = .ok (.dup2, 1) := by decide +kernel
theorem dX11_layChange_39 : decode cX11_layChange 39 = .ok (.iaload, 1) := by decide +kernel
theorem dX11_layChange_40 : decode cX11_layChange 40 = .ok (.aload_n 0, 1) := by decide +kernel
theorem dX11_layChange_41 : decode cX11_layChange 41 = .ok (.iload_n 3, 1) := by decide +kernel
theorem dX11_layChange_42 : decode cX11_layChange 42 = .ok (.iload 4, 2) := by decide +kernel
theorem dX11_layChange_44 : decode cX11_layChange 44 = .ok (.invokevirtual 164, 3) := by decide +kernel
theorem dX11_layChange_47 : decode cX11_layChange 47 = .ok (.aload_n 0, 1) := by decide +kernel
theorem dX11_layChange_48 : decode cX11_layChange 48 = .ok (.getfield 36, 3) := by decide +kernel
theorem dX11_layChange_51 : decode cX11_layChange 51 = .ok (.bipush 60, 2) := by decide +kernel
theorem dX11_layChange_53 : decode cX11_layChange 53 = .ok (.iload_n 1, 1) := by decide +kernel
theorem dX11_layChange_54 : decode cX11_layChange 54 = .ok (.imul, 1) := by decide +kernel
theorem dX11_layChange_55 : decode cX11_layChange 55 = .ok (.iload_n 2, 1) := by decide +kernel
theorem dX11_layChange_56 : decode cX11_layChange 56 = .ok (.iadd, 1) := by decide +kernel
theorem dX11_layChange_57 : decode cX11_layChange 57 = .ok (.iaload, 1) := by decide +kernel
theorem dX11_layChange_58 : decode cX11_layChange 58 = .ok (.if_icmp .ne 9, 3) := by decide +kernel
theorem dX11_layChange_61 : decode cX11_layChange 61 = .ok (.iconst 1, 1) := by decide +kernel
theorem dX11_layChange_62 : decode cX11_layChange 62 = .ok (.iload_n 1, 1) := by decide +kernel
theorem dX11_layChange_63 : decode cX11_layChange 63 = .ok (.ishl, 1) := by decide +kernel
end
section
theorem dX11_layChange_64 : decode cX11_layChange 64 = .ok (.goto 4, 3) := by decide +kernel
theorem dX11_layChange_67 : decode cX11_layChange 67 = .ok (.iconst 0, 1) := by decide +kernel
theorem dX11_layChange_68 : decode cX11_layChange 68 = .ok (.ior, 1) := by decide +kernel
theorem dX11_layChange_69 : decode cX11_layChange 69 = .ok (.iastore, 1) := by decide +kernel
theorem dX11_layChange_70 : decode cX11_layChange 70 = .ok (.iinc 4 1, 3) := by decide +kernel
theorem dX11_layChange_73 : decode cX11_layChange 73 = .ok (.goto (-56), 3) := by decide +kernel
theorem dX11_layChange_76 : decode cX11_layChange 76 = .ok (.return_, 1) := by decide +kernel
theorem dX11_isFree_0 : decode cX11_isFree 0 = .ok (.aload_n 0, 1) := by decide +kernel
theorem dX11_isFree_1 : decode cX11_isFree 1 = .ok (.getfield 45, 3) := by decide +kernel
theorem dX11_isFree_4 : decode cX11_isFree 4 = .ok (.bipush 36, 2) := by decide +kernel
theorem dX11_isFree_6 : decode cX11_isFree 6 = .ok (.iload_n 2, 1) := by decide +kernel
theorem dX11_isFree_7 : decode cX11_isFree 7 = .ok (.imul, 1) := by decide +kernel
theorem dX11_isFree_8 : decode cX11_isFree 8 = .ok (.iload_n 1, 1) := by decide +kernel
theorem dX11_isFree_9 : decode cX11_isFree 9 = .ok (.iadd, 1) := by decide +kernel
theorem dX11_isFree_10 : decode cX11_isFree 10 = .ok (.baload, 1) := by decide +kernel
theorem dX11_isFree_11 : decode cX11_isFree 11 = .ok (.ifCond .eq 25, 3) := by decide +kernel
theorem dX11_isFree_14 : decode cX11_isFree 14 = .ok (.aload_n 0, 1) := by decide +kernel
theorem dX11_isFree_15 : decode cX11_isFree 15 = .ok (.getfield 39, 3) := by decide +kernel
theorem dX11_isFree_18 : decode cX11_isFree 18 = .ok (.bipush 36, 2) := by decide +kernel
theorem dX11_isFree_20 : decode cX11_isFree 20 = .ok (.iload_n 2, 1) := by decide +kernel
theorem dX11_isFree_21 : decode cX11_isFree 21 = .ok (.imul, 1) := by decide +kernel
theorem dX11_isFree_22 : decode cX11_isFree 22 = .ok (.iload_n 1, 1) := by decide +kernel
theorem dX11_isFree_23 : decode cX11_isFree 23 = .ok (.iadd, 1) := by decide +kernel
theorem dX11_isFree_24 : decode cX11_isFree 24 = .ok (.iaload, 1) := by decide +kernel
theorem dX11_isFree_25 : decode cX11_isFree 25 = .ok (.iload_n 3, 1) := by decide +kernel
theorem dX11_isFree_26 : decode cX11_isFree 26 = .ok (.iconst (-1), 1) := by decide +kernel
theorem dX11_isFree_27 : decode cX11_isFree 27 = .ok (.ixor, 1) := by decide +kernel
theorem dX11_isFree_28 : decode cX11_isFree 28 = .ok (.iand, 1) := by decide +kernel
theorem dX11_isFree_29 : decode cX11_isFree 29 = .ok (.ifCond .ne 7, 3) := by decide +kernel
theorem dX11_isFree_32 : decode cX11_isFree 32 = .ok (.iconst 1, 1) := by decide +kernel
theorem dX11_isFree_33 : decode cX11_isFree 33 = .ok (.goto 4, 3) := by decide +kernel
theorem dX11_isFree_36 : decode cX11_isFree 36 = .ok (.iconst 0, 1) := by decide +kernel
theorem dX11_isFree_37 : decode cX11_isFree 37 = .ok (.ireturn, 1) := by decide +kernel
theorem dX11_goes_0 : decode cX11_goes 0 = .ok (.aload_n 0, 1) := by decide +kernel
theorem dX11_goes_1 : decode cX11_goes 1 = .ok (.iload_n 1, 1) := by decide +kernel
theorem dX11_goes_2 : decode cX11_goes 2 = .ok (.iload_n 3, 1) := by decide +kernel
theorem dX11_goes_3 : decode cX11_goes 3 = .ok (.invokevirtual 164, 3) := by decide +kernel
theorem dX11_goes_6 : decode cX11_goes 6 = .ok (.istore 5, 2) := by decide +kernel
theorem dX11_goes_8 : decode cX11_goes 8 = .ok (.iload 5, 2) := by decide +kernel
theorem dX11_goes_10 : decode cX11_goes 10 = .ok (.ldc 66, 2) := by decide +kernel
theorem dX11_goes_12 : decode cX11_goes 12 = .ok (.if_icmp .eq 44, 3) := by decide +kernel
theorem dX11_goes_15 : decode cX11_goes 15 = .ok (.aload_n 0, 1) := by decide +kernel
theorem dX11_goes_16 : decode cX11_goes 16 = .ok (.iload 5, 2) := by decide +kernel
theorem dX11_goes_18 : decode cX11_goes 18 = .ok (.iload_n 2, 1) := by decide +kernel
theorem dX11_goes_19 : decode cX11_goes 19 = .ok (.iconst 1, 1) := by decide +kernel
theorem dX11_goes_20 : decode cX11_goes 20 = .ok (.iadd, 1) := by decide +kernel
theorem dX11_goes_21 : decode cX11_goes 21 = .ok (.iload 4, 2) := by decide +kernel
theorem dX11_goes_23 : decode cX11_goes 23 = .ok (.invokevirtual 167, 3) := by decide +kernel
theorem dX11_goes_26 : decode cX11_goes 26 = .ok (.ifCond .eq 30, 3) := by decide +kernel
theorem dX11_goes_29 : decode cX11_goes 29 = .ok (.aload_n 0, 1) := by decide +kernel
theorem dX11_goes_30 : decode cX11_goes 30 = .ok (.getfield 42, 3) := by decide +kernel
theorem dX11_goes_33 : decode cX11_goes 33 = .ok (.iconst 5, 1) := by decide +kernel
theorem dX11_goes_34 : decode cX11_goes 34 = .ok (.bipush 36, 2) := by decide +kernel
theorem dX11_goes_36 : decode cX11_goes 36 = .ok (.iload_n 2, 1) := by decide +kernel
theorem dX11_goes_37 : decode cX11_goes 37 = .ok (.imul, 1) := by decide +kernel
theorem dX11_goes_38 : decode cX11_goes 38 = .ok (.iload_n 1, 1) := by decide +kernel
theorem dX11_goes_39 : decode cX11_goes 39 = .ok (.iadd, 1) := by decide +kernel
theorem dX11_goes_40 : decode cX11_goes 40 = .ok (.imul, 1) := by decide +kernel
theorem dX11_goes_41 : decode cX11_goes 41 = .ok (.iload_n 3, 1) := by decide +kernel
theorem dX11_goes_42 : decode cX11_goes 42 = .ok (.iadd, 1) := by decide +kernel
theorem dX11_goes_43 : decode cX11_goes 43 = .ok (.iaload, 1) := by decide +kernel
theorem dX11_goes_44 : decode cX11_goes 44 = .ok (.iload 4, 2) := by decide +kernel
theorem dX11_goes_46 : decode cX11_goes 46 = .ok (.iconst (-1), 1) := by decide +kernel
theorem dX11_goes_47 : decode cX11_goes 47 = .ok (.ixor, 1) := by decide +kernel
theorem dX11_goes_48 : decode cX11_goes 48 = .ok (.iand, 1) := by decide +kernel
theorem dX11_goes_49 : decode cX11_goes 49 = .ok (.ifCond .ne 7, 3) := by decide +kernel
theorem dX11_goes_52 : decode cX11_goes 52 = .ok (.iconst 1, 1) := by decide +kernel
theorem dX11_goes_53 : decode cX11_goes 53 = .ok (.goto 4, 3) := by decide +kernel
theorem dX11_goes_56 : decode cX11_goes 56 = .ok (.iconst 0, 1) := by decide +kernel
theorem dX11_goes_57 : decode cX11_goes 57 = .ok (.istore 6, 2) := by decide +kernel
theorem dX11_goes_59 : decode cX11_goes 59 = .ok (.iload 6, 2) := by decide +kernel
theorem dX11_goes_61 : decode cX11_goes 61 = .ok (.ifCond .eq 8, 3) := by decide +kernel
theorem dX11_goes_64 : decode cX11_goes 64 = .ok (.iload 5, 2) := by decide +kernel
theorem dX11_goes_66 : decode cX11_goes 66 = .ok (.goto 5, 3) := by decide +kernel
theorem dX11_goes_69 : decode cX11_goes 69 = .ok (.ldc 66, 2) := by decide +kernel
theorem dX11_goes_71 : decode cX11_goes 71 = .ok (.ireturn, 1) := by decide +kernel
theorem dX11_layLatest_0 : decode cX11_layLatest 0 = .ok (.iconst 0, 1) := by decide +kernel
theorem dX11_layLatest_1 : decode cX11_layLatest 1 = .ok (.istore_n 3, 1) := by decide +kernel
theorem dX11_layLatest_2 : decode cX11_layLatest 2 = .ok (.iload_n 3, 1) := by decide +kernel
theorem dX11_layLatest_3 : decode cX11_layLatest 3 = .ok (.sipush 2160, 3) := by decide +kernel
theorem dX11_layLatest_6 : decode cX11_layLatest 6 = .ok (.if_icmp .ge 17, 3) := by decide +kernel
theorem dX11_layLatest_9 : decode cX11_layLatest 9 = .ok (.aload_n 0, 1) := by decide +kernel
theorem dX11_layLatest_10 : decode cX11_layLatest 10 = .ok (.getfield 48, 3) := by decide +kernel
theorem dX11_layLatest_13 : decode cX11_layLatest 13 = .ok (.iload_n 3, 1) := by decide +kernel
theorem dX11_layLatest_14 : decode cX11_layLatest 14 = .ok (.ldc 66, 2) := by decide +kernel
theorem dX11_layLatest_16 : decode cX11_layLatest 16 = .ok (.iastore, 1) := by decide +kernel
theorem dX11_layLatest_17 : decode cX11_layLatest 17 = .ok (.iinc 3 1, 3) := by decide +kernel
theorem dX11_layLatest_20 : decode cX11_layLatest 20 = .ok (.goto (-18), 3) := by decide +kernel
theorem dX11_layLatest_23 : decode cX11_layLatest 23 = .ok (.aload_n 0, 1) := by decide +kernel
theorem dX11_layLatest_24 : decode cX11_layLatest 24 = .ok (.getfield 24, 3) := by decide +kernel
theorem dX11_layLatest_27 : decode cX11_layLatest 27 = .ok (.bipush 8, 2) := by decide +kernel
theorem dX11_layLatest_29 : decode cX11_layLatest 29 = .ok (.iload_n 1, 1) := by decide +kernel
theorem dX11_layLatest_30 : decode cX11_layLatest 30 = .ok (.imul, 1) := by decide +kernel
theorem dX11_layLatest_31 : decode cX11_layLatest 31 = .ok (.iaload, 1) := by decide +kernel
theorem dX11_layLatest_32 : decode cX11_layLatest 32 = .ok (.istore_n 3, 1) := by decide +kernel
theorem dX11_layLatest_33 : decode cX11_layLatest 33 = .ok (.aload_n 0, 1) := by decide +kernel
theorem dX11_layLatest_34 : decode cX11_layLatest 34 = .ok (.getfield 24, 3) := by decide +kernel
theorem dX11_layLatest_37 : decode cX11_layLatest 37 = .ok (.bipush 8, 2) := by decide +kernel
theorem dX11_layLatest_39 : decode cX11_layLatest 39 = .ok (.iload_n 1, 1) := by decide +kernel
theorem dX11_layLatest_40 : decode cX11_layLatest 40 = .ok (.imul, 1) := by decide +kernel
theorem dX11_layLatest_41 : decode cX11_layLatest 41 = .ok (.iconst 2, 1) := by decide +kernel
theorem dX11_layLatest_42 : decode cX11_layLatest 42 = .ok (.iadd, 1) := by decide +kernel
theorem dX11_layLatest_43 : decode cX11_layLatest 43 = .ok (.iaload, 1) := by decide +kernel
theorem dX11_layLatest_44 : decode cX11_layLatest 44 = .ok (.istore 4, 2) := by decide +kernel
theorem dX11_layLatest_46 : decode cX11_layLatest 46 = .ok (.iload 4, 2) := by decide +kernel
theorem dX11_layLatest_48 : decode cX11_layLatest 48 = .ok (.aload_n 0, 1) := by decide +kernel
theorem dX11_layLatest_49 : decode cX11_layLatest 49 = .ok (.getfield 24, 3) := by decide +kernel
theorem dX11_layLatest_52 : decode cX11_layLatest 52 = .ok (.bipush 8, 2) := by decide +kernel
theorem dX11_layLatest_54 : decode cX11_layLatest 54 = .ok (.iload_n 1, 1) := by decide +kernel
theorem dX11_layLatest_55 : decode cX11_layLatest 55 = .ok (.imul, 1) := by decide +kernel
theorem dX11_layLatest_56 : decode cX11_layLatest 56 = .ok (.iconst 3, 1) := by decide +kernel
theorem dX11_layLatest_57 : decode cX11_layLatest 57 = .ok (.iadd, 1) := by decide +kernel
theorem dX11_layLatest_58 : decode cX11_layLatest 58 = .ok (.iaload, 1) := by decide +kernel
theorem dX11_layLatest_59 : decode cX11_layLatest 59 = .ok (.if_icmp .gt 187, 3) := by decide +kernel
theorem dX11_layLatest_62 : decode cX11_layLatest 62 = .ok (.iconst 0, 1) := by decide +kernel
theorem dX11_layLatest_63 : decode cX11_layLatest 63 = .ok (.istore 5, 2) := by decide +kernel
theorem dX11_layLatest_65 : decode cX11_layLatest 65 = .ok (.iload 5, 2) := by decide +kernel
theorem dX11_layLatest_67 : decode cX11_layLatest 67 = .ok (.aload_n 0, 1) := by decide +kernel
theorem dX11_layLatest_68 : decode cX11_layLatest 68 = .ok (.invokevirtual 101, 3) := by decide +kernel
theorem dX11_layLatest_71 : decode cX11_layLatest 71 = .ok (.if_icmp .ge 144, 3) := by decide +kernel
theorem dX11_layLatest_74 : decode cX11_layLatest 74 = .ok (.iload 4, 2) := by decide +kernel
theorem dX11_layLatest_76 : decode cX11_layLatest 76 = .ok (.aload_n 0, 1) := by decide +kernel
theorem dX11_layLatest_77 : decode cX11_layLatest 77 = .ok (.getfield 24, 3) := by decide +kernel
theorem dX11_layLatest_80 : decode cX11_layLatest 80 = .ok (.bipush 8, 2) := by decide +kernel
theorem dX11_layLatest_82 : decode cX11_layLatest 82 = .ok (.iload_n 1, 1) := by decide +kernel
theorem dX11_layLatest_83 : decode cX11_layLatest 83 = .ok (.imul, 1) := by decide +kernel
theorem dX11_layLatest_84 : decode cX11_layLatest 84 = .ok (.iconst 2, 1) := by decide +kernel
theorem dX11_layLatest_85 : decode cX11_layLatest 85 = .ok (.iadd, 1) := by decide +kernel
theorem dX11_layLatest_86 : decode cX11_layLatest 86 = .ok (.iaload, 1) := by decide +kernel
theorem dX11_layLatest_87 : decode cX11_layLatest 87 = .ok (.if_icmp .le 128, 3) := by decide +kernel
theorem dX11_layLatest_90 : decode cX11_layLatest 90 = .ok (.iconst 0, 1) := by decide +kernel
theorem dX11_layLatest_91 : decode cX11_layLatest 91 = .ok (.istore 6, 2) := by decide +kernel
theorem dX11_layLatest_93 : decode cX11_layLatest 93 = .ok (.iload 6, 2) := by decide +kernel
theorem dX11_layLatest_95 : decode cX11_layLatest 95 = .ok (.iconst 5, 1) := by decide +kernel
theorem dX11_layLatest_96 : decode cX11_layLatest 96 = .ok (.if_icmp .ge 113, 3) := by decide +kernel
theorem dX11_layLatest_99 : decode cX11_layLatest 99 = .ok (.aload_n 0, 1) := by decide +kernel
theorem dX11_layLatest_100 : decode cX11_layLatest 100 = .ok (.getfield 48, 3) := by decide +kernel
theorem dX11_layLatest_103 : decode cX11_layLatest 103 = .ok (.bipush 36, 2) := by decide +kernel
theorem dX11_layLatest_105 : decode cX11_layLatest 105 = .ok (.iload 4, 2) := by decide +kernel
theorem dX11_layLatest_107 : decode cX11_layLatest 107 = .ok (.imul, 1) := by decide +kernel
theorem dX11_layLatest_108 : decode cX11_layLatest 108 = .ok (.bipush 36, 2) := by decide +kernel
theorem dX11_layLatest_110 : decode cX11_layLatest 110 = .ok (.isub, 1) := by decide +kernel
theorem dX11_layLatest_111 : decode cX11_layLatest 111 = .ok (.iload 5, 2) := by decide +kernel
theorem dX11_layLatest_113 : decode cX11_layLatest 113 = .ok (.iadd, 1) := by decide +kernel
theorem dX11_layLatest_114 : decode cX11_layLatest 114 = .ok (.iaload, 1) := by decide +kernel
theorem dX11_layLatest_115 : decode cX11_layLatest 115 = .ok (.ldc 66, 2) := by decide +kernel
theorem dX11_layLatest_117 : decode cX11_layLatest 117 = .ok (.if_icmp .eq 92, 3) := by decide +kernel
theorem dX11_layLatest_120 : decode cX11_layLatest 120 = .ok (.aload_n 0, 1) := by decide +kernel
theorem dX11_layLatest_121 : decode cX11_layLatest 121 = .ok (.iload 5, 2) := by decide +kernel
theorem dX11_layLatest_123 : decode cX11_layLatest 123 = .ok (.iload 4, 2) := by decide +kernel
theorem dX11_layLatest_125 : decode cX11_layLatest 125 = .ok (.iconst 1, 1) := by decide +kernel
theorem dX11_layLatest_126 : decode cX11_layLatest 126 = .ok (.isub, 1) := by decide +kernel
theorem dX11_layLatest_127 : decode cX11_layLatest 127 = .ok (.iload 6, 2) := by decide +kernel
theorem dX11_layLatest_129 : decode cX11_layLatest 129 = .ok (.iload_n 2, 1) := by decide +kernel
theorem dX11_layLatest_130 : decode cX11_layLatest 130 = .ok (.invokevirtual 171, 3) := by decide +kernel
theorem dX11_layLatest_133 : decode cX11_layLatest 133 = .ok (.istore 7, 2) := by decide +kernel
theorem dX11_layLatest_135 : decode cX11_layLatest 135 = .ok (.iload 7, 2) := by decide +kernel
theorem dX11_layLatest_137 : decode cX11_layLatest 137 = .ok (.ldc 66, 2) := by decide +kernel
theorem dX11_layLatest_139 : decode cX11_layLatest 139 = .ok (.if_icmp .eq 64, 3) := by decide +kernel
theorem dX11_layLatest_142 : decode cX11_layLatest 142 = .ok (.aload_n 0, 1) := by decide +kernel
theorem dX11_layLatest_143 : decode cX11_layLatest 143 = .ok (.getfield 48, 3) := by decide +kernel
theorem dX11_layLatest_146 : decode cX11_layLatest 146 = .ok (.bipush 36, 2) := by decide +kernel
theorem dX11_layLatest_148 : decode cX11_layLatest 148 = .ok (.iload 4, 2) := by decide +kernel
theorem dX11_layLatest_150 : decode cX11_layLatest 150 = .ok (.imul, 1) := by decide +kernel
theorem dX11_layLatest_151 : decode cX11_layLatest 151 = .ok (.bipush 36, 2) := by decide +kernel
theorem dX11_layLatest_153 : decode cX11_layLatest 153 = .ok (.isub, 1) := by decide +kernel
theorem dX11_layLatest_154 : decode cX11_layLatest 154 = .ok (.iload 5, 2) := by decide +kernel
theorem dX11_layLatest_156 : decode cX11_layLatest 156 = .ok (.iadd, 1) := by decide +kernel
theorem dX11_layLatest_157 : decode cX11_layLatest 157 = .ok (.iaload, 1) := by decide +kernel
theorem dX11_layLatest_158 : decode cX11_layLatest 158 = .ok (.aload_n 0, 1) := by decide +kernel
theorem dX11_layLatest_159 : decode cX11_layLatest 159 = .ok (.getfield 48, 3) := by decide +kernel
theorem dX11_layLatest_162 : decode cX11_layLatest 162 = .ok (.bipush 36, 2) := by decide +kernel
theorem dX11_layLatest_164 : decode cX11_layLatest 164 = .ok (.iload 4, 2) := by decide +kernel
theorem dX11_layLatest_166 : decode cX11_layLatest 166 = .ok (.imul, 1) := by decide +kernel
theorem dX11_layLatest_167 : decode cX11_layLatest 167 = .ok (.iload 7, 2) := by decide +kernel
theorem dX11_layLatest_169 : decode cX11_layLatest 169 = .ok (.iadd, 1) := by decide +kernel
theorem dX11_layLatest_170 : decode cX11_layLatest 170 = .ok (.iaload, 1) := by decide +kernel
theorem dX11_layLatest_171 : decode cX11_layLatest 171 = .ok (.if_icmp .le 32, 3) := by decide +kernel
theorem dX11_layLatest_174 : decode cX11_layLatest 174 = .ok (.aload_n 0, 1) := by decide +kernel
theorem dX11_layLatest_175 : decode cX11_layLatest 175 = .ok (.getfield 48, 3) := by decide +kernel
theorem dX11_layLatest_178 : decode cX11_layLatest 178 = .ok (.bipush 36, 2) := by decide +kernel
theorem dX11_layLatest_180 : decode cX11_layLatest 180 = .ok (.iload 4, 2) := by decide +kernel
theorem dX11_layLatest_182 : decode cX11_layLatest 182 = .ok (.imul, 1) := by decide +kernel
theorem dX11_layLatest_183 : decode cX11_layLatest 183 = .ok (.iload 7, 2) := by decide +kernel
theorem dX11_layLatest_185 : decode cX11_layLatest 185 = .ok (.iadd, 1) := by decide +kernel
theorem dX11_layLatest_186 : decode cX11_layLatest 186 = .ok (.aload_n 0, 1) := by decide +kernel
theorem dX11_layLatest_187 : decode cX11_layLatest 187 = .ok (.getfield 48, 3) := by decide +kernel
theorem dX11_layLatest_190 : decode cX11_layLatest 190 = .ok (.bipush 36, 2) := by decide +kernel
theorem dX11_layLatest_192 : decode cX11_layLatest 192 = .ok (.iload 4, 2) := by decide +kernel
theorem dX11_layLatest_194 : decode cX11_layLatest 194 = .ok (.imul, 1) := by decide +kernel
theorem dX11_layLatest_195 : decode cX11_layLatest 195 = .ok (.bipush 36, 2) := by decide +kernel
theorem dX11_layLatest_197 : decode cX11_layLatest 197 = .ok (.isub, 1) := by decide +kernel
theorem dX11_layLatest_198 : decode cX11_layLatest 198 = .ok (.iload 5, 2) := by decide +kernel
theorem dX11_layLatest_200 : decode cX11_layLatest 200 = .ok (.iadd, 1) := by decide +kernel
theorem dX11_layLatest_201 : decode cX11_layLatest 201 = .ok (.iaload, 1) := by decide +kernel
theorem dX11_layLatest_202 : decode cX11_layLatest 202 = .ok (.iastore, 1) := by decide +kernel
theorem dX11_layLatest_203 : decode cX11_layLatest 203 = .ok (.iinc 6 1, 3) := by decide +kernel
theorem dX11_layLatest_206 : decode cX11_layLatest 206 = .ok (.goto (-113), 3) := by decide +kernel
theorem dX11_layLatest_209 : decode cX11_layLatest 209 = .ok (.iinc 5 1, 3) := by decide +kernel
theorem dX11_layLatest_212 : decode cX11_layLatest 212 = .ok (.goto (-147), 3) := by decide +kernel
theorem dX11_layLatest_215 : decode cX11_layLatest 215 = .ok (.aload_n 0, 1) := by decide +kernel
theorem dX11_layLatest_216 : decode cX11_layLatest 216 = .ok (.iload_n 3, 1) := by decide +kernel
theorem dX11_layLatest_217 : decode cX11_layLatest 217 = .ok (.iload 4, 2) := by decide +kernel
theorem dX11_layLatest_219 : decode cX11_layLatest 219 = .ok (.iload_n 2, 1) := by decide +kernel
theorem dX11_layLatest_220 : decode cX11_layLatest 220 = .ok (.invokevirtual 167, 3) := by decide +kernel
theorem dX11_layLatest_223 : decode cX11_layLatest 223 = .ok (.ifCond .eq 17, 3) := by decide +kernel
theorem dX11_layLatest_226 : decode cX11_layLatest 226 = .ok (.aload_n 0, 1) := by decide +kernel
theorem dX11_layLatest_227 : decode cX11_layLatest 227 = .ok (.getfield 48, 3) := by decide +kernel
theorem dX11_layLatest_230 : decode cX11_layLatest 230 = .ok (.bipush 36, 2) := by decide +kernel
theorem dX11_layLatest_232 : decode cX11_layLatest 232 = .ok (.iload 4, 2) := by decide +kernel
theorem dX11_layLatest_234 : decode cX11_layLatest 234 = .ok (.imul, 1) := by decide +kernel
theorem dX11_layLatest_235 : decode cX11_layLatest 235 = .ok (.iload_n 3, 1) := by decide +kernel
theorem dX11_layLatest_236 : decode cX11_layLatest 236 = .ok (.iadd, 1) := by decide +kernel
theorem dX11_layLatest_237 : decode cX11_layLatest 237 = .ok (.iload 4, 2) := by decide +kernel
theorem dX11_layLatest_239 : decode cX11_layLatest 239 = .ok (.iastore, 1) := by decide +kernel
theorem dX11_layLatest_240 : decode cX11_layLatest 240 = .ok (.iinc 4 1, 3) := by decide +kernel
theorem dX11_layLatest_243 : decode cX11_layLatest 243 = .ok (.goto (-197), 3) := by decide +kernel
theorem dX11_layLatest_246 : decode cX11_layLatest 246 = .ok (.return_, 1) := by decide +kernel
theorem dX11_hasWay_0 : decode cX11_hasWay 0 = .ok (.aload_n 0, 1) := by decide +kernel
theorem dX11_hasWay_1 : decode cX11_hasWay 1 = .ok (.iload_n 1, 1) := by decide +kernel
theorem dX11_hasWay_2 : decode cX11_hasWay 2 = .ok (.iload_n 2, 1) := by decide +kernel
theorem dX11_hasWay_3 : decode cX11_hasWay 3 = .ok (.invokevirtual 175, 3) := by decide +kernel
theorem dX11_hasWay_6 : decode cX11_hasWay 6 = .ok (.aload_n 0, 1) := by decide +kernel
theorem dX11_hasWay_7 : decode cX11_hasWay 7 = .ok (.getfield 24, 3) := by decide +kernel
theorem dX11_hasWay_10 : decode cX11_hasWay 10 = .ok (.bipush 8, 2) := by decide +kernel
theorem dX11_hasWay_12 : decode cX11_hasWay 12 = .ok (.iload_n 1, 1) := by decide +kernel
theorem dX11_hasWay_13 : decode cX11_hasWay 13 = .ok (.imul, 1) := by decide +kernel
theorem dX11_hasWay_14 : decode cX11_hasWay 14 = .ok (.iconst 1, 1) := by decide +kernel
theorem dX11_hasWay_15 : decode cX11_hasWay 15 = .ok (.iadd, 1) := by decide +kernel
theorem dX11_hasWay_16 : decode cX11_hasWay 16 = .ok (.iaload, 1) := by decide +kernel
theorem dX11_hasWay_17 : decode cX11_hasWay 17 = .ok (.istore_n 3, 1) := by decide +kernel
theorem dX11_hasWay_18 : decode cX11_hasWay 18 = .ok (.aload_n 0, 1) := by decide +kernel
theorem dX11_hasWay_19 : decode cX11_hasWay 19 = .ok (.getfield 24, 3) := by decide +kernel
theorem dX11_hasWay_22 : decode cX11_hasWay 22 = .ok (.bipush 8, 2) := by decide +kernel
theorem dX11_hasWay_24 : decode cX11_hasWay 24 = .ok (.iload_n 1, 1) := by decide +kernel
theorem dX11_hasWay_25 : decode cX11_hasWay 25 = .ok (.imul, 1) := by decide +kernel
theorem dX11_hasWay_26 : decode cX11_hasWay 26 = .ok (.iconst 2, 1) := by decide +kernel
theorem dX11_hasWay_27 : decode cX11_hasWay 27 = .ok (.iadd, 1) := by decide +kernel
theorem dX11_hasWay_28 : decode cX11_hasWay 28 = .ok (.iaload, 1) := by decide +kernel
theorem dX11_hasWay_29 : decode cX11_hasWay 29 = .ok (.iconst 1, 1) := by decide +kernel
theorem dX11_hasWay_30 : decode cX11_hasWay 30 = .ok (.iadd, 1) := by decide +kernel
theorem dX11_hasWay_31 : decode cX11_hasWay 31 = .ok (.istore 4, 2) := by decide +kernel
theorem dX11_hasWay_33 : decode cX11_hasWay 33 = .ok (.iload 4, 2) := by decide +kernel
theorem dX11_hasWay_35 : decode cX11_hasWay 35 = .ok (.aload_n 0, 1) := by decide +kernel
theorem dX11_hasWay_36 : decode cX11_hasWay 36 = .ok (.getfield 24, 3) := by decide +kernel
theorem dX11_hasWay_39 : decode cX11_hasWay 39 = .ok (.bipush 8, 2) := by decide +kernel
theorem dX11_hasWay_41 : decode cX11_hasWay 41 = .ok (.iload_n 1, 1) := by decide +kernel
theorem dX11_hasWay_42 : decode cX11_hasWay 42 = .ok (.imul, 1) := by decide +kernel
theorem dX11_hasWay_43 : decode cX11_hasWay 43 = .ok (.iconst 3, 1) := by decide +kernel
theorem dX11_hasWay_44 : decode cX11_hasWay 44 = .ok (.iadd, 1) := by decide +kernel
theorem dX11_hasWay_45 : decode cX11_hasWay 45 = .ok (.iaload, 1) := by decide +kernel
theorem dX11_hasWay_46 : decode cX11_hasWay 46 = .ok (.if_icmp .gt 63, 3) := by decide +kernel
theorem dX11_hasWay_49 : decode cX11_hasWay 49 = .ok (.aload_n 0, 1) := by decide +kernel
theorem dX11_hasWay_50 : decode cX11_hasWay 50 = .ok (.getfield 48, 3) := by decide +kernel
theorem dX11_hasWay_53 : decode cX11_hasWay 53 = .ok (.bipush 36, 2) := by decide +kernel
theorem dX11_hasWay_55 : decode cX11_hasWay 55 = .ok (.iload 4, 2) := by decide +kernel
theorem dX11_hasWay_57 : decode cX11_hasWay 57 = .ok (.imul, 1) := by decide +kernel
theorem dX11_hasWay_58 : decode cX11_hasWay 58 = .ok (.iload_n 3, 1) := by decide +kernel
theorem dX11_hasWay_59 : decode cX11_hasWay 59 = .ok (.iadd, 1) := by decide +kernel
theorem dX11_hasWay_60 : decode cX11_hasWay 60 = .ok (.iaload, 1) := by decide +kernel
theorem dX11_hasWay_61 : decode cX11_hasWay 61 = .ok (.istore 5, 2) := by decide +kernel
theorem dX11_hasWay_63 : decode cX11_hasWay 63 = .ok (.iload 5, 2) := by decide +kernel
theorem dX11_hasWay_65 : decode cX11_hasWay 65 = .ok (.ldc 66, 2) := by decide +kernel
theorem dX11_hasWay_67 : decode cX11_hasWay 67 = .ok (.if_icmp .eq 36, 3) := by decide +kernel
theorem dX11_hasWay_70 : decode cX11_hasWay 70 = .ok (.iload 4, 2) := by decide +kernel
theorem dX11_hasWay_72 : decode cX11_hasWay 72 = .ok (.iload 5, 2) := by decide +kernel
theorem dX11_hasWay_74 : decode cX11_hasWay 74 = .ok (.isub, 1) := by decide +kernel
theorem dX11_hasWay_75 : decode cX11_hasWay 75 = .ok (.aload_n 0, 1) := by decide +kernel
theorem dX11_hasWay_76 : decode cX11_hasWay 76 = .ok (.getfield 24, 3) := by decide +kernel
theorem dX11_hasWay_79 : decode cX11_hasWay 79 = .ok (.bipush 8, 2) := by decide +kernel
theorem dX11_hasWay_81 : decode cX11_hasWay 81 = .ok (.iload_n 1, 1) := by decide +kernel
theorem dX11_hasWay_82 : decode cX11_hasWay 82 = .ok (.imul, 1) := by decide +kernel
theorem dX11_hasWay_83 : decode cX11_hasWay 83 = .ok (.iconst 4, 1) := by decide +kernel
theorem dX11_hasWay_84 : decode cX11_hasWay 84 = .ok (.iadd, 1) := by decide +kernel
theorem dX11_hasWay_85 : decode cX11_hasWay 85 = .ok (.iaload, 1) := by decide +kernel
theorem dX11_hasWay_86 : decode cX11_hasWay 86 = .ok (.if_icmp .gt 17, 3) := by decide +kernel
theorem dX11_hasWay_89 : decode cX11_hasWay 89 = .ok (.aload_n 0, 1) := by decide +kernel
theorem dX11_hasWay_90 : decode cX11_hasWay 90 = .ok (.iload 5, 2) := by decide +kernel
theorem dX11_hasWay_92 : decode cX11_hasWay 92 = .ok (.putfield 178, 3) := by decide +kernel
theorem dX11_hasWay_95 : decode cX11_hasWay 95 = .ok (.aload_n 0, 1) := by decide +kernel
theorem dX11_hasWay_96 : decode cX11_hasWay 96 = .ok (.iload 4, 2) := by decide +kernel
theorem dX11_hasWay_98 : decode cX11_hasWay 98 = .ok (.putfield 181, 3) := by decide +kernel
theorem dX11_hasWay_101 : decode cX11_hasWay 101 = .ok (.iconst 1, 1) := by decide +kernel
theorem dX11_hasWay_102 : decode cX11_hasWay 102 = .ok (.ireturn, 1) := by decide +kernel
theorem dX11_hasWay_103 : decode cX11_hasWay 103 = .ok (.iinc 4 1, 3) := by decide +kernel
theorem dX11_hasWay_106 : decode cX11_hasWay 106 = .ok (.goto (-73), 3) := by decide +kernel
theorem dX11_hasWay_109 : decode cX11_hasWay 109 = .ok (.iconst 0, 1) := by decide +kernel
theorem dX11_hasWay_110 : decode cX11_hasWay 110 = .ok (.ireturn, 1) := by decide +kernel
theorem dX11_layRest_0 : decode cX11_layRest 0 = .ok (.iconst 0, 1) := by decide +kernel
theorem dX11_layRest_1 : decode cX11_layRest 1 = .ok (.istore 4, 2) := by decide +kernel
theorem dX11_layRest_3 : decode cX11_layRest 3 = .ok (.iload 4, 2) := by decide +kernel
theorem dX11_layRest_5 : decode cX11_layRest 5 = .ok (.bipush 36, 2) := by decide +kernel
theorem dX11_layRest_7 : decode cX11_layRest 7 = .ok (.if_icmp .ge 23, 3) := by decide +kernel
theorem dX11_layRest_10 : decode cX11_layRest 10 = .ok (.aload_n 0, 1) := by decide +kernel
theorem dX11_layRest_11 : decode cX11_layRest 11 = .ok (.getfield 54, 3) := by decide +kernel
theorem dX11_layRest_14 : decode cX11_layRest 14 = .ok (.bipush 36, 2) := by decide +kernel
theorem dX11_layRest_16 : decode cX11_layRest 16 = .ok (.iload_n 2, 1) := by decide +kernel
theorem dX11_layRest_17 : decode cX11_layRest 17 = .ok (.imul, 1) := by decide +kernel
theorem dX11_layRest_18 : decode cX11_layRest 18 = .ok (.iload 4, 2) := by decide +kernel
theorem dX11_layRest_20 : decode cX11_layRest 20 = .ok (.iadd, 1) := by decide +kernel
theorem dX11_layRest_21 : decode cX11_layRest 21 = .ok (.ldc 184, 2) := by decide +kernel
theorem dX11_layRest_23 : decode cX11_layRest 23 = .ok (.iastore, 1) := by decide +kernel
theorem dX11_layRest_24 : decode cX11_layRest 24 = .ok (.iinc 4 1, 3) := by decide +kernel
theorem dX11_layRest_27 : decode cX11_layRest 27 = .ok (.goto (-24), 3) := by decide +kernel
theorem dX11_layRest_30 : decode cX11_layRest 30 = .ok (.aload_n 0, 1) := by decide +kernel
theorem dX11_layRest_31 : decode cX11_layRest 31 = .ok (.getfield 24, 3) := by decide +kernel
theorem dX11_layRest_34 : decode cX11_layRest 34 = .ok (.bipush 8, 2) := by decide +kernel
theorem dX11_layRest_36 : decode cX11_layRest 36 = .ok (.iload_n 1, 1) := by decide +kernel
theorem dX11_layRest_37 : decode cX11_layRest 37 = .ok (.imul, 1) := by decide +kernel
theorem dX11_layRest_38 : decode cX11_layRest 38 = .ok (.iconst 1, 1) := by decide +kernel
theorem dX11_layRest_39 : decode cX11_layRest 39 = .ok (.iadd, 1) := by decide +kernel
theorem dX11_layRest_40 : decode cX11_layRest 40 = .ok (.iaload, 1) := by decide +kernel
theorem dX11_layRest_41 : decode cX11_layRest 41 = .ok (.istore 4, 2) := by decide +kernel
theorem dX11_layRest_43 : decode cX11_layRest 43 = .ok (.aload_n 0, 1) := by decide +kernel
theorem dX11_layRest_44 : decode cX11_layRest 44 = .ok (.getfield 54, 3) := by decide +kernel
theorem dX11_layRest_47 : decode cX11_layRest 47 = .ok (.bipush 36, 2) := by decide +kernel
theorem dX11_layRest_49 : decode cX11_layRest 49 = .ok (.iload_n 2, 1) := by decide +kernel
theorem dX11_layRest_50 : decode cX11_layRest 50 = .ok (.imul, 1) := by decide +kernel
theorem dX11_layRest_51 : decode cX11_layRest 51 = .ok (.iload 4, 2) := by decide +kernel
theorem dX11_layRest_53 : decode cX11_layRest 53 = .ok (.iadd, 1) := by decide +kernel
theorem dX11_layRest_54 : decode cX11_layRest 54 = .ok (.aload_n 0, 1) := by decide +kernel
theorem dX11_layRest_55 : decode cX11_layRest 55 = .ok (.iload 4, 2) := by decide +kernel
theorem dX11_layRest_57 : decode cX11_layRest 57 = .ok (.iload_n 2, 1) := by decide +kernel
theorem dX11_layRest_58 : decode cX11_layRest 58 = .ok (.iconst 0, 1) := by decide +kernel
theorem dX11_layRest_59 : decode cX11_layRest 59 = .ok (.invokevirtual 167, 3) := by decide +kernel
theorem dX11_layRest_62 : decode cX11_layRest 62 = .ok (.ifCond .eq 13, 3) := by decide +kernel
theorem dX11_layRest_65 : decode cX11_layRest 65 = .ok (.aload_n 0, 1) := by decide +kernel
theorem dX11_layRest_66 : decode cX11_layRest 66 = .ok (.getfield 57, 3) := by decide +kernel
theorem dX11_layRest_69 : decode cX11_layRest 69 = .ok (.iload 4, 2) := by decide +kernel
theorem dX11_layRest_71 : decode cX11_layRest 71 = .ok (.iaload, 1) := by decide +kernel
theorem dX11_layRest_72 : decode cX11_layRest 72 = .ok (.goto 5, 3) := by decide +kernel
theorem dX11_layRest_75 : decode cX11_layRest 75 = .ok (.ldc 184, 2) := by decide +kernel
theorem dX11_layRest_77 : decode cX11_layRest 77 = .ok (.iastore, 1) := by decide +kernel
theorem dX11_layRest_78 : decode cX11_layRest 78 = .ok (.iload_n 2, 1) := by decide +kernel
theorem dX11_layRest_79 : decode cX11_layRest 79 = .ok (.iconst 1, 1) := by decide +kernel
theorem dX11_layRest_80 : decode cX11_layRest 80 = .ok (.isub, 1) := by decide +kernel
theorem dX11_layRest_81 : decode cX11_layRest 81 = .ok (.istore 5, 2) := by decide +kernel
theorem dX11_layRest_83 : decode cX11_layRest 83 = .ok (.iload 5, 2) := by decide +kernel
theorem dX11_layRest_85 : decode cX11_layRest 85 = .ok (.iload_n 3, 1) := by decide +kernel
theorem dX11_layRest_86 : decode cX11_layRest 86 = .ok (.if_icmp .lt 152, 3) := by decide +kernel
theorem dX11_layRest_89 : decode cX11_layRest 89 = .ok (.iconst 0, 1) := by decide +kernel
theorem dX11_layRest_90 : decode cX11_layRest 90 = .ok (.istore 6, 2) := by decide +kernel
theorem dX11_layRest_92 : decode cX11_layRest 92 = .ok (.iload 6, 2) := by decide +kernel
theorem dX11_layRest_94 : decode cX11_layRest 94 = .ok (.aload_n 0, 1) := by decide +kernel
theorem dX11_layRest_95 : decode cX11_layRest 95 = .ok (.invokevirtual 101, 3) := by decide +kernel
theorem dX11_layRest_98 : decode cX11_layRest 98 = .ok (.if_icmp .ge 134, 3) := by decide +kernel
theorem dX11_layRest_101 : decode cX11_layRest 101 = .ok (.ldc 184, 2) := by decide +kernel
theorem dX11_layRest_103 : decode cX11_layRest 103 = .ok (.istore 7, 2) := by decide +kernel
theorem dX11_layRest_105 : decode cX11_layRest 105 = .ok (.iconst 0, 1) := by decide +kernel
theorem dX11_layRest_106 : decode cX11_layRest 106 = .ok (.istore 8, 2) := by decide +kernel
theorem dX11_layRest_108 : decode cX11_layRest 108 = .ok (.iload 8, 2) := by decide +kernel
theorem dX11_layRest_110 : decode cX11_layRest 110 = .ok (.iconst 5, 1) := by decide +kernel
theorem dX11_layRest_111 : decode cX11_layRest 111 = .ok (.if_icmp .ge 80, 3) := by decide +kernel
theorem dX11_layRest_114 : decode cX11_layRest 114 = .ok (.aload_n 0, 1) := by decide +kernel
theorem dX11_layRest_115 : decode cX11_layRest 115 = .ok (.iload 6, 2) := by decide +kernel
theorem dX11_layRest_117 : decode cX11_layRest 117 = .ok (.iload 5, 2) := by decide +kernel
theorem dX11_layRest_119 : decode cX11_layRest 119 = .ok (.iconst 0, 1) := by decide +kernel
theorem dX11_layRest_120 : decode cX11_layRest 120 = .ok (.invokevirtual 167, 3) := by decide +kernel
theorem dX11_layRest_123 : decode cX11_layRest 123 = .ok (.ifCond .eq 68, 3) := by decide +kernel
theorem dX11_layRest_126 : decode cX11_layRest 126 = .ok (.aload_n 0, 1) := by decide +kernel
theorem dX11_layRest_127 : decode cX11_layRest 127 = .ok (.iload 6, 2) := by decide +kernel
theorem dX11_layRest_129 : decode cX11_layRest 129 = .ok (.iload 5, 2) := by decide +kernel
theorem dX11_layRest_131 : decode cX11_layRest 131 = .ok (.iload 8, 2) := by decide +kernel
theorem dX11_layRest_133 : decode cX11_layRest 133 = .ok (.iconst 0, 1) := by decide +kernel
theorem dX11_layRest_134 : decode cX11_layRest 134 = .ok (.invokevirtual 171, 3) := by decide +kernel
theorem dX11_layRest_137 : decode cX11_layRest 137 = .ok (.istore 9, 2) := by decide +kernel
theorem dX11_layRest_139 : decode cX11_layRest 139 = .ok (.iload 9, 2) := by decide +kernel
theorem dX11_layRest_141 : decode cX11_layRest 141 = .ok (.ldc 66, 2) := by decide +kernel
theorem dX11_layRest_143 : decode cX11_layRest 143 = .ok (.if_icmp .ne 8, 3) := by decide +kernel
theorem dX11_layRest_146 : decode cX11_layRest 146 = .ok (.ldc 184, 2) := by decide +kernel
theorem dX11_layRest_148 : decode cX11_layRest 148 = .ok (.goto 19, 3) := by decide +kernel
theorem dX11_layRest_151 : decode cX11_layRest 151 = .ok (.aload_n 0, 1) := by decide +kernel
theorem dX11_layRest_152 : decode cX11_layRest 152 = .ok (.getfield 54, 3) := by decide +kernel
theorem dX11_layRest_155 : decode cX11_layRest 155 = .ok (.bipush 36, 2) := by decide +kernel
theorem dX11_layRest_157 : decode cX11_layRest 157 = .ok (.iload 5, 2) := by decide +kernel
theorem dX11_layRest_159 : decode cX11_layRest 159 = .ok (.imul, 1) := by decide +kernel
theorem dX11_layRest_160 : decode cX11_layRest 160 = .ok (.bipush 36, 2) := by decide +kernel
theorem dX11_layRest_162 : decode cX11_layRest 162 = .ok (.iadd, 1) := by decide +kernel
theorem dX11_layRest_163 : decode cX11_layRest 163 = .ok (.iload 9, 2) := by decide +kernel
theorem dX11_layRest_165 : decode cX11_layRest 165 = .ok (.iadd, 1) := by decide +kernel
theorem dX11_layRest_166 : decode cX11_layRest 166 = .ok (.iaload, 1) := by decide +kernel
theorem dX11_layRest_167 : decode cX11_layRest 167 = .ok (.istore 10, 2) := by decide +kernel
theorem dX11_layRest_169 : decode cX11_layRest 169 = .ok (.iload 10, 2) := by decide +kernel
theorem dX11_layRest_171 : decode cX11_layRest 171 = .ok (.iload 7, 2) := by decide +kernel
theorem dX11_layRest_173 : decode cX11_layRest 173 = .ok (.if_icmp .ge 8, 3) := by decide +kernel
theorem dX11_layRest_176 : decode cX11_layRest 176 = .ok (.iload 10, 2) := by decide +kernel
theorem dX11_layRest_178 : decode cX11_layRest 178 = .ok (.goto 5, 3) := by decide +kernel
theorem dX11_layRest_181 : decode cX11_layRest 181 = .ok (.iload 7, 2) := by decide +kernel
theorem dX11_layRest_183 : decode cX11_layRest 183 = .ok (.istore 7, 2) := by decide +kernel
theorem dX11_layRest_185 : decode cX11_layRest 185 = .ok (.iinc 8 1, 3) := by decide +kernel
theorem dX11_layRest_188 : decode cX11_layRest 188 = .ok (.goto (-80), 3) := by decide +kernel
theorem dX11_layRest_191 : decode cX11_layRest 191 = .ok (.aload_n 0, 1) := by decide +kernel
theorem dX11_layRest_192 : decode cX11_layRest 192 = .ok (.getfield 54, 3) := by decide +kernel
theorem dX11_layRest_195 : decode cX11_layRest 195 = .ok (.bipush 36, 2) := by decide +kernel
theorem dX11_layRest_197 : decode cX11_layRest 197 = .ok (.iload 5, 2) := by decide +kernel
theorem dX11_layRest_199 : decode cX11_layRest 199 = .ok (.imul, 1) := by decide +kernel
theorem dX11_layRest_200 : decode cX11_layRest 200 = .ok (.iload 6, 2) := by decide +kernel
theorem dX11_layRest_202 : decode cX11_layRest 202 = .ok (.iadd, 1) := by decide +kernel
theorem dX11_layRest_203 : decode cX11_layRest 203 = .ok (.iload 7, 2) := by decide +kernel
theorem dX11_layRest_205 : decode cX11_layRest 205 = .ok (.ldc 184, 2) := by decide +kernel
theorem dX11_layRest_207 : decode cX11_layRest 207 = .ok (.if_icmp .lt 8, 3) := by decide +kernel
theorem dX11_layRest_210 : decode cX11_layRest 210 = .ok (.ldc 184, 2) := by decide +kernel
theorem dX11_layRest_212 : decode cX11_layRest 212 = .ok (.goto 13, 3) := by decide +kernel
theorem dX11_layRest_215 : decode cX11_layRest 215 = .ok (.iload 7, 2) := by decide +kernel
theorem dX11_layRest_217 : decode cX11_layRest 217 = .ok (.aload_n 0, 1) := by decide +kernel
theorem dX11_layRest_218 : decode cX11_layRest 218 = .ok (.getfield 57, 3) := by decide +kernel
theorem dX11_layRest_221 : decode cX11_layRest 221 = .ok (.iload 6, 2) := by decide +kernel
theorem dX11_layRest_223 : decode cX11_layRest 223 = .ok (.iaload, 1) := by decide +kernel
theorem dX11_layRest_224 : decode cX11_layRest 224 = .ok (.iadd, 1) := by decide +kernel
theorem dX11_layRest_225 : decode cX11_layRest 225 = .ok (.iastore, 1) := by decide +kernel
theorem dX11_layRest_226 : decode cX11_layRest 226 = .ok (.iinc 6 1, 3) := by decide +kernel
theorem dX11_layRest_229 : decode cX11_layRest 229 = .ok (.goto (-137), 3) := by decide +kernel
theorem dX11_layRest_232 : decode cX11_layRest 232 = .ok (.iinc 5 (-1), 3) := by decide +kernel
theorem dX11_layRest_235 : decode cX11_layRest 235 = .ok (.goto (-152), 3) := by decide +kernel
theorem dX11_layRest_238 : decode cX11_layRest 238 = .ok (.return_, 1) := by decide +kernel
theorem dX11_laySteps_0 : decode cX11_laySteps 0 = .ok (.aload_n 0, 1) := by decide +kernel
theorem dX11_laySteps_1 : decode cX11_laySteps 1 = .ok (.getfield 24, 3) := by decide +kernel
theorem dX11_laySteps_4 : decode cX11_laySteps 4 = .ok (.bipush 8, 2) := by decide +kernel
theorem dX11_laySteps_6 : decode cX11_laySteps 6 = .ok (.iload_n 1, 1) := by decide +kernel
theorem dX11_laySteps_7 : decode cX11_laySteps 7 = .ok (.imul, 1) := by decide +kernel
theorem dX11_laySteps_8 : decode cX11_laySteps 8 = .ok (.iaload, 1) := by decide +kernel
theorem dX11_laySteps_9 : decode cX11_laySteps 9 = .ok (.istore_n 2, 1) := by decide +kernel
theorem dX11_laySteps_10 : decode cX11_laySteps 10 = .ok (.aload_n 0, 1) := by decide +kernel
theorem dX11_laySteps_11 : decode cX11_laySteps 11 = .ok (.getfield 178, 3) := by decide +kernel
theorem dX11_laySteps_14 : decode cX11_laySteps 14 = .ok (.istore_n 3, 1) := by decide +kernel
theorem dX11_laySteps_15 : decode cX11_laySteps 15 = .ok (.iload_n 3, 1) := by decide +kernel
theorem dX11_laySteps_16 : decode cX11_laySteps 16 = .ok (.aload_n 0, 1) := by decide +kernel
theorem dX11_laySteps_17 : decode cX11_laySteps 17 = .ok (.getfield 181, 3) := by decide +kernel
theorem dX11_laySteps_20 : decode cX11_laySteps 20 = .ok (.if_icmp .ge 45, 3) := by decide +kernel
theorem dX11_laySteps_23 : decode cX11_laySteps 23 = .ok (.iconst 0, 1) := by decide +kernel
theorem dX11_laySteps_24 : decode cX11_laySteps 24 = .ok (.istore 4, 2) := by decide +kernel
theorem dX11_laySteps_26 : decode cX11_laySteps 26 = .ok (.aload_n 0, 1) := by decide +kernel
theorem dX11_laySteps_27 : decode cX11_laySteps 27 = .ok (.iload_n 2, 1) := by decide +kernel
theorem dX11_laySteps_28 : decode cX11_laySteps 28 = .ok (.iload_n 3, 1) := by decide +kernel
theorem dX11_laySteps_29 : decode cX11_laySteps 29 = .ok (.iload 4, 2) := by decide +kernel
theorem dX11_laySteps_31 : decode cX11_laySteps 31 = .ok (.invokevirtual 185, 3) := by decide +kernel
theorem dX11_laySteps_34 : decode cX11_laySteps 34 = .ok (.ifCond .ne 9, 3) := by decide +kernel
theorem dX11_laySteps_37 : decode cX11_laySteps 37 = .ok (.iinc 4 1, 3) := by decide +kernel
theorem dX11_laySteps_40 : decode cX11_laySteps 40 = .ok (.goto (-14), 3) := by decide +kernel
theorem dX11_laySteps_43 : decode cX11_laySteps 43 = .ok (.aload_n 0, 1) := by decide +kernel
theorem dX11_laySteps_44 : decode cX11_laySteps 44 = .ok (.getfield 51, 3) := by decide +kernel
theorem dX11_laySteps_47 : decode cX11_laySteps 47 = .ok (.iload_n 3, 1) := by decide +kernel
theorem dX11_laySteps_48 : decode cX11_laySteps 48 = .ok (.iload 4, 2) := by decide +kernel
theorem dX11_laySteps_50 : decode cX11_laySteps 50 = .ok (.iastore, 1) := by decide +kernel
theorem dX11_laySteps_51 : decode cX11_laySteps 51 = .ok (.aload_n 0, 1) := by decide +kernel
theorem dX11_laySteps_52 : decode cX11_laySteps 52 = .ok (.iload_n 2, 1) := by decide +kernel
theorem dX11_laySteps_53 : decode cX11_laySteps 53 = .ok (.iload 4, 2) := by decide +kernel
theorem dX11_laySteps_55 : decode cX11_laySteps 55 = .ok (.invokevirtual 164, 3) := by decide +kernel
theorem dX11_laySteps_58 : decode cX11_laySteps 58 = .ok (.istore_n 2, 1) := by decide +kernel
theorem dX11_laySteps_59 : decode cX11_laySteps 59 = .ok (.iinc 3 1, 3) := by decide +kernel
theorem dX11_laySteps_62 : decode cX11_laySteps 62 = .ok (.goto (-47), 3) := by decide +kernel
theorem dX11_laySteps_65 : decode cX11_laySteps 65 = .ok (.return_, 1) := by decide +kernel
theorem dX11_isLeast_0 : decode cX11_isLeast 0 = .ok (.aload_n 0, 1) := by decide +kernel
theorem dX11_isLeast_1 : decode cX11_isLeast 1 = .ok (.iload_n 1, 1) := by decide +kernel
theorem dX11_isLeast_2 : decode cX11_isLeast 2 = .ok (.iload_n 2, 1) := by decide +kernel
theorem dX11_isLeast_3 : decode cX11_isLeast 3 = .ok (.iload_n 3, 1) := by decide +kernel
theorem dX11_isLeast_4 : decode cX11_isLeast 4 = .ok (.iconst 0, 1) := by decide +kernel
theorem dX11_isLeast_5 : decode cX11_isLeast 5 = .ok (.invokevirtual 171, 3) := by decide +kernel
theorem dX11_isLeast_8 : decode cX11_isLeast 8 = .ok (.istore 4, 2) := by decide +kernel
theorem dX11_isLeast_10 : decode cX11_isLeast 10 = .ok (.iload 4, 2) := by decide +kernel
theorem dX11_isLeast_12 : decode cX11_isLeast 12 = .ok (.ldc 66, 2) := by decide +kernel
theorem dX11_isLeast_14 : decode cX11_isLeast 14 = .ok (.if_icmp .eq 63, 3) := by decide +kernel
theorem dX11_isLeast_17 : decode cX11_isLeast 17 = .ok (.aload_n 0, 1) := by decide +kernel
theorem dX11_isLeast_18 : decode cX11_isLeast 18 = .ok (.getfield 54, 3) := by decide +kernel
theorem dX11_isLeast_21 : decode cX11_isLeast 21 = .ok (.bipush 36, 2) := by decide +kernel
theorem dX11_isLeast_23 : decode cX11_isLeast 23 = .ok (.iload_n 2, 1) := by decide +kernel
theorem dX11_isLeast_24 : decode cX11_isLeast 24 = .ok (.imul, 1) := by decide +kernel
theorem dX11_isLeast_25 : decode cX11_isLeast 25 = .ok (.bipush 36, 2) := by decide +kernel
theorem dX11_isLeast_27 : decode cX11_isLeast 27 = .ok (.iadd, 1) := by decide +kernel
theorem dX11_isLeast_28 : decode cX11_isLeast 28 = .ok (.iload 4, 2) := by decide +kernel
theorem dX11_isLeast_30 : decode cX11_isLeast 30 = .ok (.iadd, 1) := by decide +kernel
theorem dX11_isLeast_31 : decode cX11_isLeast 31 = .ok (.iaload, 1) := by decide +kernel
theorem dX11_isLeast_32 : decode cX11_isLeast 32 = .ok (.ldc 184, 2) := by decide +kernel
theorem dX11_isLeast_34 : decode cX11_isLeast 34 = .ok (.if_icmp .ge 43, 3) := by decide +kernel
theorem dX11_isLeast_37 : decode cX11_isLeast 37 = .ok (.aload_n 0, 1) := by decide +kernel
theorem dX11_isLeast_38 : decode cX11_isLeast 38 = .ok (.getfield 54, 3) := by decide +kernel
theorem dX11_isLeast_41 : decode cX11_isLeast 41 = .ok (.bipush 36, 2) := by decide +kernel
theorem dX11_isLeast_43 : decode cX11_isLeast 43 = .ok (.iload_n 2, 1) := by decide +kernel
theorem dX11_isLeast_44 : decode cX11_isLeast 44 = .ok (.imul, 1) := by decide +kernel
theorem dX11_isLeast_45 : decode cX11_isLeast 45 = .ok (.bipush 36, 2) := by decide +kernel
theorem dX11_isLeast_47 : decode cX11_isLeast 47 = .ok (.iadd, 1) := by decide +kernel
theorem dX11_isLeast_48 : decode cX11_isLeast 48 = .ok (.iload 4, 2) := by decide +kernel
theorem dX11_isLeast_50 : decode cX11_isLeast 50 = .ok (.iadd, 1) := by decide +kernel
theorem dX11_isLeast_51 : decode cX11_isLeast 51 = .ok (.iaload, 1) := by decide +kernel
theorem dX11_isLeast_52 : decode cX11_isLeast 52 = .ok (.aload_n 0, 1) := by decide +kernel
theorem dX11_isLeast_53 : decode cX11_isLeast 53 = .ok (.getfield 57, 3) := by decide +kernel
theorem dX11_isLeast_56 : decode cX11_isLeast 56 = .ok (.iload_n 1, 1) := by decide +kernel
theorem dX11_isLeast_57 : decode cX11_isLeast 57 = .ok (.iaload, 1) := by decide +kernel
theorem dX11_isLeast_58 : decode cX11_isLeast 58 = .ok (.iadd, 1) := by decide +kernel
theorem dX11_isLeast_59 : decode cX11_isLeast 59 = .ok (.aload_n 0, 1) := by decide +kernel
theorem dX11_isLeast_60 : decode cX11_isLeast 60 = .ok (.getfield 54, 3) := by decide +kernel
theorem dX11_isLeast_63 : decode cX11_isLeast 63 = .ok (.bipush 36, 2) := by decide +kernel
theorem dX11_isLeast_65 : decode cX11_isLeast 65 = .ok (.iload_n 2, 1) := by decide +kernel
theorem dX11_isLeast_66 : decode cX11_isLeast 66 = .ok (.imul, 1) := by decide +kernel
theorem dX11_isLeast_67 : decode cX11_isLeast 67 = .ok (.iload_n 1, 1) := by decide +kernel
theorem dX11_isLeast_68 : decode cX11_isLeast 68 = .ok (.iadd, 1) := by decide +kernel
theorem dX11_isLeast_69 : decode cX11_isLeast 69 = .ok (.iaload, 1) := by decide +kernel
theorem dX11_isLeast_70 : decode cX11_isLeast 70 = .ok (.if_icmp .ne 7, 3) := by decide +kernel
theorem dX11_isLeast_73 : decode cX11_isLeast 73 = .ok (.iconst 1, 1) := by decide +kernel
theorem dX11_isLeast_74 : decode cX11_isLeast 74 = .ok (.goto 4, 3) := by decide +kernel
theorem dX11_isLeast_77 : decode cX11_isLeast 77 = .ok (.iconst 0, 1) := by decide +kernel
theorem dX11_isLeast_78 : decode cX11_isLeast 78 = .ok (.ireturn, 1) := by decide +kernel
theorem dX11_layAll_0 : decode cX11_layAll 0 = .ok (.aload_n 0, 1) := by decide +kernel
theorem dX11_layAll_1 : decode cX11_layAll 1 = .ok (.invokevirtual 188, 3) := by decide +kernel
theorem dX11_layAll_4 : decode cX11_layAll 4 = .ok (.aload_n 0, 1) := by decide +kernel
theorem dX11_layAll_5 : decode cX11_layAll 5 = .ok (.invokevirtual 191, 3) := by decide +kernel
theorem dX11_layAll_8 : decode cX11_layAll 8 = .ok (.return_, 1) := by decide +kernel
theorem dX11_laySoonest_0 : decode cX11_laySoonest 0 = .ok (.aload_n 0, 1) := by decide +kernel
theorem dX11_laySoonest_1 : decode cX11_laySoonest 1 = .ok (.iload_n 1, 1) := by decide +kernel
theorem dX11_laySoonest_2 : decode cX11_laySoonest 2 = .ok (.iconst 0, 1) := by decide +kernel
theorem dX11_laySoonest_3 : decode cX11_laySoonest 3 = .ok (.invokevirtual 194, 3) := by decide +kernel
theorem dX11_laySoonest_6 : decode cX11_laySoonest 6 = .ok (.ifCond .ne 5, 3) := by decide +kernel
theorem dX11_laySoonest_9 : decode cX11_laySoonest 9 = .ok (.iconst 0, 1) := by decide +kernel
theorem dX11_laySoonest_10 : decode cX11_laySoonest 10 = .ok (.ireturn, 1) := by decide +kernel
theorem dX11_laySoonest_11 : decode cX11_laySoonest 11 = .ok (.iconst 0, 1) := by decide +kernel
theorem dX11_laySoonest_12 : decode cX11_laySoonest 12 = .ok (.istore_n 2, 1) := by decide +kernel
theorem dX11_laySoonest_13 : decode cX11_laySoonest 13 = .ok (.iload_n 2, 1) := by decide +kernel
theorem dX11_laySoonest_14 : decode cX11_laySoonest 14 = .ok (.bipush 36, 2) := by decide +kernel
theorem dX11_laySoonest_16 : decode cX11_laySoonest 16 = .ok (.if_icmp .ge 16, 3) := by decide +kernel
theorem dX11_laySoonest_19 : decode cX11_laySoonest 19 = .ok (.aload_n 0, 1) := by decide +kernel
theorem dX11_laySoonest_20 : decode cX11_laySoonest 20 = .ok (.getfield 57, 3) := by decide +kernel
theorem dX11_laySoonest_23 : decode cX11_laySoonest 23 = .ok (.iload_n 2, 1) := by decide +kernel
theorem dX11_laySoonest_24 : decode cX11_laySoonest 24 = .ok (.iconst 0, 1) := by decide +kernel
theorem dX11_laySoonest_25 : decode cX11_laySoonest 25 = .ok (.iastore, 1) := by decide +kernel
theorem dX11_laySoonest_26 : decode cX11_laySoonest 26 = .ok (.iinc 2 1, 3) := by decide +kernel
theorem dX11_laySoonest_29 : decode cX11_laySoonest 29 = .ok (.goto (-16), 3) := by decide +kernel
theorem dX11_laySoonest_32 : decode cX11_laySoonest 32 = .ok (.aload_n 0, 1) := by decide +kernel
theorem dX11_laySoonest_33 : decode cX11_laySoonest 33 = .ok (.iload_n 1, 1) := by decide +kernel
theorem dX11_laySoonest_34 : decode cX11_laySoonest 34 = .ok (.aload_n 0, 1) := by decide +kernel
theorem dX11_laySoonest_35 : decode cX11_laySoonest 35 = .ok (.getfield 181, 3) := by decide +kernel
theorem dX11_laySoonest_38 : decode cX11_laySoonest 38 = .ok (.aload_n 0, 1) := by decide +kernel
theorem dX11_laySoonest_39 : decode cX11_laySoonest 39 = .ok (.getfield 178, 3) := by decide +kernel
theorem dX11_laySoonest_42 : decode cX11_laySoonest 42 = .ok (.invokevirtual 197, 3) := by decide +kernel
theorem dX11_laySoonest_45 : decode cX11_laySoonest 45 = .ok (.aload_n 0, 1) := by decide +kernel
theorem dX11_laySoonest_46 : decode cX11_laySoonest 46 = .ok (.iload_n 1, 1) := by decide +kernel
theorem dX11_laySoonest_47 : decode cX11_laySoonest 47 = .ok (.invokevirtual 201, 3) := by decide +kernel
theorem dX11_laySoonest_50 : decode cX11_laySoonest 50 = .ok (.iconst 1, 1) := by decide +kernel
theorem dX11_laySoonest_51 : decode cX11_laySoonest 51 = .ok (.ireturn, 1) := by decide +kernel
theorem dX11_mayAsk_0 : decode cX11_mayAsk 0 = .ok (.aload_n 0, 1) := by decide +kernel
theorem dX11_mayAsk_1 : decode cX11_mayAsk 1 = .ok (.iload_n 1, 1) := by decide +kernel
theorem dX11_mayAsk_2 : decode cX11_mayAsk 2 = .ok (.invokevirtual 155, 3) := by decide +kernel
theorem dX11_mayAsk_5 : decode cX11_mayAsk 5 = .ok (.ifCond .ne 8, 3) := by decide +kernel
theorem dX11_mayAsk_8 : decode cX11_mayAsk 8 = .ok (.ldc 114, 2) := by decide +kernel
theorem dX11_mayAsk_10 : decode cX11_mayAsk 10 = .ok (.goto 18, 3) := by decide +kernel
theorem dX11_mayAsk_13 : decode cX11_mayAsk 13 = .ok (.aload_n 0, 1) := by decide +kernel
theorem dX11_mayAsk_14 : decode cX11_mayAsk 14 = .ok (.getfield 33, 3) := by decide +kernel
theorem dX11_mayAsk_17 : decode cX11_mayAsk 17 = .ok (.iload_n 1, 1) := by decide +kernel
theorem dX11_mayAsk_18 : decode cX11_mayAsk 18 = .ok (.baload, 1) := by decide +kernel
theorem dX11_mayAsk_19 : decode cX11_mayAsk 19 = .ok (.ifCond .eq 8, 3) := by decide +kernel
theorem dX11_mayAsk_22 : decode cX11_mayAsk 22 = .ok (.ldc 154, 2) := by decide +kernel
theorem dX11_mayAsk_24 : decode cX11_mayAsk 24 = .ok (.goto 4, 3) := by decide +kernel
theorem dX11_mayAsk_27 : decode cX11_mayAsk 27 = .ok (.iconst 0, 1) := by decide +kernel
theorem dX11_mayAsk_28 : decode cX11_mayAsk 28 = .ok (.ireturn, 1) := by decide +kernel
theorem dX11_soonest_0 : decode cX11_soonest 0 = .ok (.aload_n 0, 1) := by decide +kernel
theorem dX11_soonest_1 : decode cX11_soonest 1 = .ok (.iload_n 1, 1) := by decide +kernel
theorem dX11_soonest_2 : decode cX11_soonest 2 = .ok (.invokevirtual 205, 3) := by decide +kernel
theorem dX11_soonest_5 : decode cX11_soonest 5 = .ok (.istore_n 2, 1) := by decide +kernel
theorem dX11_soonest_6 : decode cX11_soonest 6 = .ok (.iload_n 2, 1) := by decide +kernel
theorem dX11_soonest_7 : decode cX11_soonest 7 = .ok (.ifCond .ge 5, 3) := by decide +kernel
theorem dX11_soonest_10 : decode cX11_soonest 10 = .ok (.iload_n 2, 1) := by decide +kernel
theorem dX11_soonest_11 : decode cX11_soonest 11 = .ok (.ireturn, 1) := by decide +kernel
theorem dX11_soonest_12 : decode cX11_soonest 12 = .ok (.aload_n 0, 1) := by decide +kernel
theorem dX11_soonest_13 : decode cX11_soonest 13 = .ok (.invokevirtual 208, 3) := by decide +kernel
theorem dX11_soonest_16 : decode cX11_soonest 16 = .ok (.aload_n 0, 1) := by decide +kernel
theorem dX11_soonest_17 : decode cX11_soonest 17 = .ok (.iload_n 1, 1) := by decide +kernel
theorem dX11_soonest_18 : decode cX11_soonest 18 = .ok (.invokevirtual 211, 3) := by decide +kernel
theorem dX11_soonest_21 : decode cX11_soonest 21 = .ok (.ifCond .eq 10, 3) := by decide +kernel
theorem dX11_soonest_24 : decode cX11_soonest 24 = .ok (.aload_n 0, 1) := by decide +kernel
theorem dX11_soonest_25 : decode cX11_soonest 25 = .ok (.getfield 181, 3) := by decide +kernel
theorem dX11_soonest_28 : decode cX11_soonest 28 = .ok (.goto 5, 3) := by decide +kernel
theorem dX11_soonest_31 : decode cX11_soonest 31 = .ok (.ldc 66, 2) := by decide +kernel
theorem dX11_soonest_33 : decode cX11_soonest 33 = .ok (.ireturn, 1) := by decide +kernel
theorem dX11_told_0 : decode cX11_told 0 = .ok (.iload_n 1, 1) := by decide +kernel
theorem dX11_told_1 : decode cX11_told 1 = .ok (.ifCond .ne 10, 3) := by decide +kernel
theorem dX11_told_4 : decode cX11_told 4 = .ok (.aload_n 0, 1) := by decide +kernel
theorem dX11_told_5 : decode cX11_told 5 = .ok (.getfield 178, 3) := by decide +kernel
theorem dX11_told_8 : decode cX11_told 8 = .ok (.goto 40, 3) := by decide +kernel
theorem dX11_told_11 : decode cX11_told 11 = .ok (.iload_n 2, 1) := by decide +kernel
theorem dX11_told_12 : decode cX11_told 12 = .ok (.i2l, 1) := by decide +kernel
theorem dX11_told_13 : decode cX11_told 13 = .ok (.lconst 0, 1) := by decide +kernel
theorem dX11_told_14 : decode cX11_told 14 = .ok (.aload_n 0, 1) := by decide +kernel
theorem dX11_told_15 : decode cX11_told 15 = .ok (.getfield 181, 3) := by decide +kernel
theorem dX11_told_18 : decode cX11_told 18 = .ok (.aload_n 0, 1) := by decide +kernel
theorem dX11_told_19 : decode cX11_told 19 = .ok (.getfield 178, 3) := by decide +kernel
theorem dX11_told_22 : decode cX11_told 22 = .ok (.isub, 1) := by decide +kernel
theorem dX11_told_23 : decode cX11_told 23 = .ok (.iconst 1, 1) := by decide +kernel
theorem dX11_told_24 : decode cX11_told 24 = .ok (.isub, 1) := by decide +kernel
theorem dX11_told_25 : decode cX11_told 25 = .ok (.i2l, 1) := by decide +kernel
theorem dX11_told_26 : decode cX11_told 26 = .ok (.invokestatic 82, 3) := by decide +kernel
theorem dX11_told_29 : decode cX11_told 29 = .ok (.ifCond .eq 17, 3) := by decide +kernel
theorem dX11_told_32 : decode cX11_told 32 = .ok (.aload_n 0, 1) := by decide +kernel
theorem dX11_told_33 : decode cX11_told 33 = .ok (.getfield 51, 3) := by decide +kernel
theorem dX11_told_36 : decode cX11_told 36 = .ok (.aload_n 0, 1) := by decide +kernel
theorem dX11_told_37 : decode cX11_told 37 = .ok (.getfield 178, 3) := by decide +kernel
theorem dX11_told_40 : decode cX11_told 40 = .ok (.iload_n 2, 1) := by decide +kernel
theorem dX11_told_41 : decode cX11_told 41 = .ok (.iadd, 1) := by decide +kernel
theorem dX11_told_42 : decode cX11_told 42 = .ok (.iaload, 1) := by decide +kernel
theorem dX11_told_43 : decode cX11_told 43 = .ok (.goto 5, 3) := by decide +kernel
theorem dX11_told_46 : decode cX11_told 46 = .ok (.ldc 66, 2) := by decide +kernel
theorem dX11_told_48 : decode cX11_told 48 = .ok (.ireturn, 1) := by decide +kernel
theorem dX11_soonestAt_0 : decode cX11_soonestAt 0 = .ok (.aload_n 0, 1) := by decide +kernel
theorem dX11_soonestAt_1 : decode cX11_soonestAt 1 = .ok (.iload_n 1, 1) := by decide +kernel
theorem dX11_soonestAt_2 : decode cX11_soonestAt 2 = .ok (.invokevirtual 155, 3) := by decide +kernel
theorem dX11_soonestAt_5 : decode cX11_soonestAt 5 = .ok (.ifCond .ne 6, 3) := by decide +kernel
theorem dX11_soonestAt_8 : decode cX11_soonestAt 8 = .ok (.ldc 114, 2) := by decide +kernel
theorem dX11_soonestAt_10 : decode cX11_soonestAt 10 = .ok (.ireturn, 1) := by decide +kernel
theorem dX11_soonestAt_11 : decode cX11_soonestAt 11 = .ok (.iload_n 2, 1) := by decide +kernel
theorem dX11_soonestAt_12 : decode cX11_soonestAt 12 = .ok (.i2l, 1) := by decide +kernel
theorem dX11_soonestAt_13 : decode cX11_soonestAt 13 = .ok (.lconst 0, 1) := by decide +kernel
theorem dX11_soonestAt_14 : decode cX11_soonestAt 14 = .ok (.lconst 1, 1) := by decide +kernel
theorem dX11_soonestAt_15 : decode cX11_soonestAt 15 = .ok (.invokestatic 82, 3) := by decide +kernel
theorem dX11_soonestAt_18 : decode cX11_soonestAt 18 = .ok (.ifCond .ne 6, 3) := by decide +kernel
theorem dX11_soonestAt_21 : decode cX11_soonestAt 21 = .ok (.ldc 109, 2) := by decide +kernel
theorem dX11_soonestAt_23 : decode cX11_soonestAt 23 = .ok (.ireturn, 1) := by decide +kernel
theorem dX11_soonestAt_24 : decode cX11_soonestAt 24 = .ok (.aload_n 0, 1) := by decide +kernel
theorem dX11_soonestAt_25 : decode cX11_soonestAt 25 = .ok (.getfield 33, 3) := by decide +kernel
theorem dX11_soonestAt_28 : decode cX11_soonestAt 28 = .ok (.iload_n 1, 1) := by decide +kernel
theorem dX11_soonestAt_29 : decode cX11_soonestAt 29 = .ok (.baload, 1) := by decide +kernel
theorem dX11_soonestAt_30 : decode cX11_soonestAt 30 = .ok (.ifCond .eq 6, 3) := by decide +kernel
theorem dX11_soonestAt_33 : decode cX11_soonestAt 33 = .ok (.ldc 154, 2) := by decide +kernel
theorem dX11_soonestAt_35 : decode cX11_soonestAt 35 = .ok (.ireturn, 1) := by decide +kernel
theorem dX11_soonestAt_36 : decode cX11_soonestAt 36 = .ok (.aload_n 0, 1) := by decide +kernel
theorem dX11_soonestAt_37 : decode cX11_soonestAt 37 = .ok (.invokevirtual 208, 3) := by decide +kernel
theorem dX11_soonestAt_40 : decode cX11_soonestAt 40 = .ok (.aload_n 0, 1) := by decide +kernel
theorem dX11_soonestAt_41 : decode cX11_soonestAt 41 = .ok (.iload_n 1, 1) := by decide +kernel
theorem dX11_soonestAt_42 : decode cX11_soonestAt 42 = .ok (.invokevirtual 211, 3) := by decide +kernel
theorem dX11_soonestAt_45 : decode cX11_soonestAt 45 = .ok (.ifCond .eq 12, 3) := by decide +kernel
theorem dX11_soonestAt_48 : decode cX11_soonestAt 48 = .ok (.aload_n 0, 1) := by decide +kernel
theorem dX11_soonestAt_49 : decode cX11_soonestAt 49 = .ok (.iload_n 2, 1) := by decide +kernel
theorem dX11_soonestAt_50 : decode cX11_soonestAt 50 = .ok (.iload_n 3, 1) := by decide +kernel
theorem dX11_soonestAt_51 : decode cX11_soonestAt 51 = .ok (.invokevirtual 214, 3) := by decide +kernel
theorem dX11_soonestAt_54 : decode cX11_soonestAt 54 = .ok (.goto 5, 3) := by decide +kernel
theorem dX11_soonestAt_57 : decode cX11_soonestAt 57 = .ok (.ldc 66, 2) := by decide +kernel
theorem dX11_soonestAt_59 : decode cX11_soonestAt 59 = .ok (.ireturn, 1) := by decide +kernel
theorem dX11_keep_0 : decode cX11_keep 0 = .ok (.aload_n 0, 1) := by decide +kernel
theorem dX11_keep_1 : decode cX11_keep 1 = .ok (.getfield 33, 3) := by decide +kernel
theorem dX11_keep_4 : decode cX11_keep 4 = .ok (.iload_n 1, 1) := by decide +kernel
theorem dX11_keep_5 : decode cX11_keep 5 = .ok (.iconst 1, 1) := by decide +kernel
theorem dX11_keep_6 : decode cX11_keep 6 = .ok (.bastore, 1) := by decide +kernel
theorem dX11_keep_7 : decode cX11_keep 7 = .ok (.aload_n 0, 1) := by decide +kernel
theorem dX11_keep_8 : decode cX11_keep 8 = .ok (.getfield 27, 3) := by decide +kernel
theorem dX11_keep_11 : decode cX11_keep 11 = .ok (.iload_n 1, 1) := by decide +kernel
theorem dX11_keep_12 : decode cX11_keep 12 = .ok (.aload_n 0, 1) := by decide +kernel
theorem dX11_keep_13 : decode cX11_keep 13 = .ok (.getfield 178, 3) := by decide +kernel
theorem dX11_keep_16 : decode cX11_keep 16 = .ok (.iastore, 1) := by decide +kernel
theorem dX11_keep_17 : decode cX11_keep 17 = .ok (.aload_n 0, 1) := by decide +kernel
theorem dX11_keep_18 : decode cX11_keep 18 = .ok (.getfield 30, 3) := by decide +kernel
theorem dX11_keep_21 : decode cX11_keep 21 = .ok (.iload_n 1, 1) := by decide +kernel
theorem dX11_keep_22 : decode cX11_keep 22 = .ok (.aload_n 0, 1) := by decide +kernel
theorem dX11_keep_23 : decode cX11_keep 23 = .ok (.getfield 181, 3) := by decide +kernel
theorem dX11_keep_26 : decode cX11_keep 26 = .ok (.iastore, 1) := by decide +kernel
theorem dX11_keep_27 : decode cX11_keep 27 = .ok (.aload_n 0, 1) := by decide +kernel
theorem dX11_keep_28 : decode cX11_keep 28 = .ok (.getfield 24, 3) := by decide +kernel
theorem dX11_keep_31 : decode cX11_keep 31 = .ok (.bipush 8, 2) := by decide +kernel
theorem dX11_keep_33 : decode cX11_keep 33 = .ok (.iload_n 1, 1) := by decide +kernel
theorem dX11_keep_34 : decode cX11_keep 34 = .ok (.imul, 1) := by decide +kernel
theorem dX11_keep_35 : decode cX11_keep 35 = .ok (.iaload, 1) := by decide +kernel
theorem dX11_keep_36 : decode cX11_keep 36 = .ok (.istore_n 2, 1) := by decide +kernel
theorem dX11_keep_37 : decode cX11_keep 37 = .ok (.aload_n 0, 1) := by decide +kernel
theorem dX11_keep_38 : decode cX11_keep 38 = .ok (.getfield 178, 3) := by decide +kernel
theorem dX11_keep_41 : decode cX11_keep 41 = .ok (.istore_n 3, 1) := by decide +kernel
theorem dX11_keep_42 : decode cX11_keep 42 = .ok (.iload_n 3, 1) := by decide +kernel
theorem dX11_keep_43 : decode cX11_keep 43 = .ok (.aload_n 0, 1) := by decide +kernel
theorem dX11_keep_44 : decode cX11_keep 44 = .ok (.getfield 181, 3) := by decide +kernel
theorem dX11_keep_47 : decode cX11_keep 47 = .ok (.if_icmp .gt 45, 3) := by decide +kernel
theorem dX11_keep_50 : decode cX11_keep 50 = .ok (.aload_n 0, 1) := by decide +kernel
theorem dX11_keep_51 : decode cX11_keep 51 = .ok (.getfield 36, 3) := by decide +kernel
theorem dX11_keep_54 : decode cX11_keep 54 = .ok (.bipush 60, 2) := by decide +kernel
theorem dX11_keep_56 : decode cX11_keep 56 = .ok (.iload_n 1, 1) := by decide +kernel
theorem dX11_keep_57 : decode cX11_keep 57 = .ok (.imul, 1) := by decide +kernel
theorem dX11_keep_58 : decode cX11_keep 58 = .ok (.iload_n 3, 1) := by decide +kernel
theorem dX11_keep_59 : decode cX11_keep 59 = .ok (.iadd, 1) := by decide +kernel
theorem dX11_keep_60 : decode cX11_keep 60 = .ok (.iload_n 2, 1) := by decide +kernel
theorem dX11_keep_61 : decode cX11_keep 61 = .ok (.iastore, 1) := by decide +kernel
theorem dX11_keep_62 : decode cX11_keep 62 = .ok (.iload_n 3, 1) := by decide +kernel
theorem dX11_keep_63 : decode cX11_keep 63 = .ok (.aload_n 0, 1) := by decide +kernel
theorem dX11_keep_64 : decode cX11_keep 64 = .ok (.getfield 181, 3) := by decide +kernel
theorem dX11_keep_67 : decode cX11_keep 67 = .ok (.if_icmp .ge 17, 3) := by decide +kernel
theorem dX11_keep_70 : decode cX11_keep 70 = .ok (.aload_n 0, 1) := by decide +kernel
theorem dX11_keep_71 : decode cX11_keep 71 = .ok (.iload_n 2, 1) := by decide +kernel
theorem dX11_keep_72 : decode cX11_keep 72 = .ok (.aload_n 0, 1) := by decide +kernel
theorem dX11_keep_73 : decode cX11_keep 73 = .ok (.getfield 51, 3) := by decide +kernel
theorem dX11_keep_76 : decode cX11_keep 76 = .ok (.iload_n 3, 1) := by decide +kernel
theorem dX11_keep_77 : decode cX11_keep 77 = .ok (.iaload, 1) := by decide +kernel
theorem dX11_keep_78 : decode cX11_keep 78 = .ok (.invokevirtual 164, 3) := by decide +kernel
theorem dX11_keep_81 : decode cX11_keep 81 = .ok (.goto 4, 3) := by decide +kernel
theorem dX11_keep_84 : decode cX11_keep 84 = .ok (.iload_n 2, 1) := by decide +kernel
theorem dX11_keep_85 : decode cX11_keep 85 = .ok (.istore_n 2, 1) := by decide +kernel
theorem dX11_keep_86 : decode cX11_keep 86 = .ok (.iinc 3 1, 3) := by decide +kernel
theorem dX11_keep_89 : decode cX11_keep 89 = .ok (.goto (-47), 3) := by decide +kernel
theorem dX11_keep_92 : decode cX11_keep 92 = .ok (.return_, 1) := by decide +kernel
theorem dX11_give_0 : decode cX11_give 0 = .ok (.aload_n 0, 1) := by decide +kernel
theorem dX11_give_1 : decode cX11_give 1 = .ok (.iload_n 1, 1) := by decide +kernel
theorem dX11_give_2 : decode cX11_give 2 = .ok (.invokevirtual 205, 3) := by decide +kernel
theorem dX11_give_5 : decode cX11_give 5 = .ok (.istore_n 2, 1) := by decide +kernel
theorem dX11_give_6 : decode cX11_give 6 = .ok (.iload_n 2, 1) := by decide +kernel
theorem dX11_give_7 : decode cX11_give 7 = .ok (.ifCond .ge 5, 3) := by decide +kernel
theorem dX11_give_10 : decode cX11_give 10 = .ok (.iload_n 2, 1) := by decide +kernel
theorem dX11_give_11 : decode cX11_give 11 = .ok (.ireturn, 1) := by decide +kernel
theorem dX11_give_12 : decode cX11_give 12 = .ok (.aload_n 0, 1) := by decide +kernel
theorem dX11_give_13 : decode cX11_give 13 = .ok (.invokevirtual 208, 3) := by decide +kernel
theorem dX11_give_16 : decode cX11_give 16 = .ok (.aload_n 0, 1) := by decide +kernel
theorem dX11_give_17 : decode cX11_give 17 = .ok (.iload_n 1, 1) := by decide +kernel
theorem dX11_give_18 : decode cX11_give 18 = .ok (.invokevirtual 211, 3) := by decide +kernel
theorem dX11_give_21 : decode cX11_give 21 = .ok (.ifCond .ne 6, 3) := by decide +kernel
theorem dX11_give_24 : decode cX11_give 24 = .ok (.ldc 154, 2) := by decide +kernel
theorem dX11_give_26 : decode cX11_give 26 = .ok (.ireturn, 1) := by decide +kernel
theorem dX11_give_27 : decode cX11_give 27 = .ok (.aload_n 0, 1) := by decide +kernel
theorem dX11_give_28 : decode cX11_give 28 = .ok (.iload_n 1, 1) := by decide +kernel
theorem dX11_give_29 : decode cX11_give 29 = .ok (.invokevirtual 217, 3) := by decide +kernel
theorem dX11_give_32 : decode cX11_give 32 = .ok (.aload_n 0, 1) := by decide +kernel
theorem dX11_give_33 : decode cX11_give 33 = .ok (.getfield 181, 3) := by decide +kernel
theorem dX11_give_36 : decode cX11_give 36 = .ok (.ireturn, 1) := by decide +kernel
theorem dX11_take_0 : decode cX11_take 0 = .ok (.aload_n 0, 1) := by decide +kernel
theorem dX11_take_1 : decode cX11_take 1 = .ok (.iload_n 1, 1) := by decide +kernel
theorem dX11_take_2 : decode cX11_take 2 = .ok (.invokevirtual 155, 3) := by decide +kernel
theorem dX11_take_5 : decode cX11_take 5 = .ok (.ifCond .ne 6, 3) := by decide +kernel
theorem dX11_take_8 : decode cX11_take 8 = .ok (.ldc 114, 2) := by decide +kernel
theorem dX11_take_10 : decode cX11_take 10 = .ok (.ireturn, 1) := by decide +kernel
theorem dX11_take_11 : decode cX11_take 11 = .ok (.aload_n 0, 1) := by decide +kernel
theorem dX11_take_12 : decode cX11_take 12 = .ok (.getfield 33, 3) := by decide +kernel
theorem dX11_take_15 : decode cX11_take 15 = .ok (.iload_n 1, 1) := by decide +kernel
theorem dX11_take_16 : decode cX11_take 16 = .ok (.baload, 1) := by decide +kernel
theorem dX11_take_17 : decode cX11_take 17 = .ok (.ifCond .ne 6, 3) := by decide +kernel
theorem dX11_take_20 : decode cX11_take 20 = .ok (.ldc 154, 2) := by decide +kernel
theorem dX11_take_22 : decode cX11_take 22 = .ok (.ireturn, 1) := by decide +kernel
theorem dX11_take_23 : decode cX11_take 23 = .ok (.aload_n 0, 1) := by decide +kernel
theorem dX11_take_24 : decode cX11_take 24 = .ok (.getfield 33, 3) := by decide +kernel
theorem dX11_take_27 : decode cX11_take 27 = .ok (.iload_n 1, 1) := by decide +kernel
theorem dX11_take_28 : decode cX11_take 28 = .ok (.iconst 0, 1) := by decide +kernel
theorem dX11_take_29 : decode cX11_take 29 = .ok (.bastore, 1) := by decide +kernel
theorem dX11_take_30 : decode cX11_take 30 = .ok (.aload_n 0, 1) := by decide +kernel
theorem dX11_take_31 : decode cX11_take 31 = .ok (.getfield 30, 3) := by decide +kernel
theorem dX11_take_34 : decode cX11_take 34 = .ok (.iload_n 1, 1) := by decide +kernel
theorem dX11_take_35 : decode cX11_take 35 = .ok (.iaload, 1) := by decide +kernel
theorem dX11_take_36 : decode cX11_take 36 = .ok (.ireturn, 1) := by decide +kernel
theorem dX11_cellAt_0 : decode cX11_cellAt 0 = .ok (.aload_n 0, 1) := by decide +kernel
theorem dX11_cellAt_1 : decode cX11_cellAt 1 = .ok (.getfield 33, 3) := by decide +kernel
theorem dX11_cellAt_4 : decode cX11_cellAt 4 = .ok (.iload_n 1, 1) := by decide +kernel
theorem dX11_cellAt_5 : decode cX11_cellAt 5 = .ok (.baload, 1) := by decide +kernel
theorem dX11_cellAt_6 : decode cX11_cellAt 6 = .ok (.ifCond .eq 39, 3) := by decide +kernel
theorem dX11_cellAt_9 : decode cX11_cellAt 9 = .ok (.iload_n 2, 1) := by decide +kernel
theorem dX11_cellAt_10 : decode cX11_cellAt 10 = .ok (.i2l, 1) := by decide +kernel
theorem dX11_cellAt_11 : decode cX11_cellAt 11 = .ok (.aload_n 0, 1) := by decide +kernel
theorem dX11_cellAt_12 : decode cX11_cellAt 12 = .ok (.getfield 27, 3) := by decide +kernel
theorem dX11_cellAt_15 : decode cX11_cellAt 15 = .ok (.iload_n 1, 1) := by decide +kernel
theorem dX11_cellAt_16 : decode cX11_cellAt 16 = .ok (.iaload, 1) := by decide +kernel
theorem dX11_cellAt_17 : decode cX11_cellAt 17 = .ok (.i2l, 1) := by decide +kernel
theorem dX11_cellAt_18 : decode cX11_cellAt 18 = .ok (.aload_n 0, 1) := by decide +kernel
theorem dX11_cellAt_19 : decode cX11_cellAt 19 = .ok (.getfield 30, 3) := by decide +kernel
theorem dX11_cellAt_22 : decode cX11_cellAt 22 = .ok (.iload_n 1, 1) := by decide +kernel
theorem dX11_cellAt_23 : decode cX11_cellAt 23 = .ok (.iaload, 1) := by decide +kernel
theorem dX11_cellAt_24 : decode cX11_cellAt 24 = .ok (.i2l, 1) := by decide +kernel
theorem dX11_cellAt_25 : decode cX11_cellAt 25 = .ok (.invokestatic 82, 3) := by decide +kernel
theorem dX11_cellAt_28 : decode cX11_cellAt 28 = .ok (.ifCond .eq 17, 3) := by decide +kernel
theorem dX11_cellAt_31 : decode cX11_cellAt 31 = .ok (.aload_n 0, 1) := by decide +kernel
theorem dX11_cellAt_32 : decode cX11_cellAt 32 = .ok (.getfield 36, 3) := by decide +kernel
theorem dX11_cellAt_35 : decode cX11_cellAt 35 = .ok (.bipush 60, 2) := by decide +kernel
theorem dX11_cellAt_37 : decode cX11_cellAt 37 = .ok (.iload_n 1, 1) := by decide +kernel
theorem dX11_cellAt_38 : decode cX11_cellAt 38 = .ok (.imul, 1) := by decide +kernel
theorem dX11_cellAt_39 : decode cX11_cellAt 39 = .ok (.iload_n 2, 1) := by decide +kernel
theorem dX11_cellAt_40 : decode cX11_cellAt 40 = .ok (.iadd, 1) := by decide +kernel
theorem dX11_cellAt_41 : decode cX11_cellAt 41 = .ok (.iaload, 1) := by decide +kernel
theorem dX11_cellAt_42 : decode cX11_cellAt 42 = .ok (.goto 5, 3) := by decide +kernel
theorem dX11_cellAt_45 : decode cX11_cellAt 45 = .ok (.ldc 66, 2) := by decide +kernel
theorem dX11_cellAt_47 : decode cX11_cellAt 47 = .ok (.ireturn, 1) := by decide +kernel
theorem dX11_where_0 : decode cX11_where 0 = .ok (.aload_n 0, 1) := by decide +kernel
theorem dX11_where_1 : decode cX11_where 1 = .ok (.iload_n 1, 1) := by decide +kernel
theorem dX11_where_2 : decode cX11_where 2 = .ok (.invokevirtual 155, 3) := by decide +kernel
theorem dX11_where_5 : decode cX11_where 5 = .ok (.ifCond .ne 6, 3) := by decide +kernel
theorem dX11_where_8 : decode cX11_where 8 = .ok (.ldc 114, 2) := by decide +kernel
theorem dX11_where_10 : decode cX11_where 10 = .ok (.ireturn, 1) := by decide +kernel
theorem dX11_where_11 : decode cX11_where 11 = .ok (.iload_n 2, 1) := by decide +kernel
theorem dX11_where_12 : decode cX11_where 12 = .ok (.invokestatic 115, 3) := by decide +kernel
theorem dX11_where_15 : decode cX11_where 15 = .ok (.ifCond .ne 8, 3) := by decide +kernel
theorem dX11_where_18 : decode cX11_where 18 = .ok (.ldc 109, 2) := by decide +kernel
theorem dX11_where_20 : decode cX11_where 20 = .ok (.goto 23, 3) := by decide +kernel
theorem dX11_where_23 : decode cX11_where 23 = .ok (.aload_n 0, 1) := by decide +kernel
theorem dX11_where_24 : decode cX11_where 24 = .ok (.getfield 33, 3) := by decide +kernel
theorem dX11_where_27 : decode cX11_where 27 = .ok (.iload_n 1, 1) := by decide +kernel
theorem dX11_where_28 : decode cX11_where 28 = .ok (.baload, 1) := by decide +kernel
theorem dX11_where_29 : decode cX11_where 29 = .ok (.ifCond .eq 12, 3) := by decide +kernel
theorem dX11_where_32 : decode cX11_where 32 = .ok (.aload_n 0, 1) := by decide +kernel
theorem dX11_where_33 : decode cX11_where 33 = .ok (.iload_n 1, 1) := by decide +kernel
theorem dX11_where_34 : decode cX11_where 34 = .ok (.iload_n 2, 1) := by decide +kernel
theorem dX11_where_35 : decode cX11_where 35 = .ok (.invokevirtual 220, 3) := by decide +kernel
theorem dX11_where_38 : decode cX11_where 38 = .ok (.goto 5, 3) := by decide +kernel
theorem dX11_where_41 : decode cX11_where 41 = .ok (.ldc 154, 2) := by decide +kernel
theorem dX11_where_43 : decode cX11_where 43 = .ok (.ireturn, 1) := by decide +kernel
theorem dX11_meet_0 : decode cX11_meet 0 = .ok (.aload_n 0, 1) := by decide +kernel
theorem dX11_meet_1 : decode cX11_meet 1 = .ok (.iload_n 1, 1) := by decide +kernel
theorem dX11_meet_2 : decode cX11_meet 2 = .ok (.invokevirtual 155, 3) := by decide +kernel
theorem dX11_meet_5 : decode cX11_meet 5 = .ok (.ifCond .eq 11, 3) := by decide +kernel
theorem dX11_meet_8 : decode cX11_meet 8 = .ok (.aload_n 0, 1) := by decide +kernel
theorem dX11_meet_9 : decode cX11_meet 9 = .ok (.iload_n 2, 1) := by decide +kernel
theorem dX11_meet_10 : decode cX11_meet 10 = .ok (.invokevirtual 155, 3) := by decide +kernel
theorem dX11_meet_13 : decode cX11_meet 13 = .ok (.ifCond .ne 6, 3) := by decide +kernel
theorem dX11_meet_16 : decode cX11_meet 16 = .ok (.ldc 114, 2) := by decide +kernel
theorem dX11_meet_18 : decode cX11_meet 18 = .ok (.ireturn, 1) := by decide +kernel
theorem dX11_meet_19 : decode cX11_meet 19 = .ok (.iload_n 3, 1) := by decide +kernel
theorem dX11_meet_20 : decode cX11_meet 20 = .ok (.i2l, 1) := by decide +kernel
theorem dX11_meet_21 : decode cX11_meet 21 = .ok (.lconst 0, 1) := by decide +kernel
theorem dX11_meet_22 : decode cX11_meet 22 = .ok (.ldc2_w 121, 3) := by decide +kernel
theorem dX11_meet_25 : decode cX11_meet 25 = .ok (.invokestatic 82, 3) := by decide +kernel
theorem dX11_meet_28 : decode cX11_meet 28 = .ok (.ifCond .ne 6, 3) := by decide +kernel
theorem dX11_meet_31 : decode cX11_meet 31 = .ok (.ldc 109, 2) := by decide +kernel
theorem dX11_meet_33 : decode cX11_meet 33 = .ok (.ireturn, 1) := by decide +kernel
theorem dX11_meet_34 : decode cX11_meet 34 = .ok (.aload_n 0, 1) := by decide +kernel
theorem dX11_meet_35 : decode cX11_meet 35 = .ok (.getfield 33, 3) := by decide +kernel
theorem dX11_meet_38 : decode cX11_meet 38 = .ok (.iload_n 1, 1) := by decide +kernel
theorem dX11_meet_39 : decode cX11_meet 39 = .ok (.baload, 1) := by decide +kernel
theorem dX11_meet_40 : decode cX11_meet 40 = .ok (.ifCond .eq 12, 3) := by decide +kernel
theorem dX11_meet_43 : decode cX11_meet 43 = .ok (.aload_n 0, 1) := by decide +kernel
theorem dX11_meet_44 : decode cX11_meet 44 = .ok (.getfield 33, 3) := by decide +kernel
theorem dX11_meet_47 : decode cX11_meet 47 = .ok (.iload_n 2, 1) := by decide +kernel
theorem dX11_meet_48 : decode cX11_meet 48 = .ok (.baload, 1) := by decide +kernel
theorem dX11_meet_49 : decode cX11_meet 49 = .ok (.ifCond .ne 6, 3) := by decide +kernel
theorem dX11_meet_52 : decode cX11_meet 52 = .ok (.ldc 154, 2) := by decide +kernel
theorem dX11_meet_54 : decode cX11_meet 54 = .ok (.ireturn, 1) := by decide +kernel
theorem dX11_meet_55 : decode cX11_meet 55 = .ok (.iconst 0, 1) := by decide +kernel
theorem dX11_meet_56 : decode cX11_meet 56 = .ok (.istore 4, 2) := by decide +kernel
theorem dX11_meet_58 : decode cX11_meet 58 = .ok (.iconst 0, 1) := by decide +kernel
theorem dX11_meet_59 : decode cX11_meet 59 = .ok (.istore 5, 2) := by decide +kernel
theorem dX11_meet_61 : decode cX11_meet 61 = .ok (.iload 5, 2) := by decide +kernel
theorem dX11_meet_63 : decode cX11_meet 63 = .ok (.bipush 60, 2) := by decide +kernel
theorem dX11_meet_65 : decode cX11_meet 65 = .ok (.if_icmp .ge 141, 3) := by decide +kernel
theorem dX11_meet_68 : decode cX11_meet 68 = .ok (.aload_n 0, 1) := by decide +kernel
theorem dX11_meet_69 : decode cX11_meet 69 = .ok (.iload_n 1, 1) := by decide +kernel
theorem dX11_meet_70 : decode cX11_meet 70 = .ok (.iload 5, 2) := by decide +kernel
theorem dX11_meet_72 : decode cX11_meet 72 = .ok (.invokevirtual 220, 3) := by decide +kernel
theorem dX11_meet_75 : decode cX11_meet 75 = .ok (.istore 6, 2) := by decide +kernel
theorem dX11_meet_77 : decode cX11_meet 77 = .ok (.aload_n 0, 1) := by decide +kernel
theorem dX11_meet_78 : decode cX11_meet 78 = .ok (.iload_n 2, 1) := by decide +kernel
theorem dX11_meet_79 : decode cX11_meet 79 = .ok (.iload 5, 2) := by decide +kernel
theorem dX11_meet_81 : decode cX11_meet 81 = .ok (.invokevirtual 220, 3) := by decide +kernel
theorem dX11_meet_84 : decode cX11_meet 84 = .ok (.istore 7, 2) := by decide +kernel
theorem dX11_meet_86 : decode cX11_meet 86 = .ok (.iload 6, 2) := by decide +kernel
theorem dX11_meet_88 : decode cX11_meet 88 = .ok (.ldc 66, 2) := by decide +kernel
theorem dX11_meet_90 : decode cX11_meet 90 = .ok (.if_icmp .eq 14, 3) := by decide +kernel
theorem dX11_meet_93 : decode cX11_meet 93 = .ok (.iload 7, 2) := by decide +kernel
theorem dX11_meet_95 : decode cX11_meet 95 = .ok (.ldc 66, 2) := by decide +kernel
theorem dX11_meet_97 : decode cX11_meet 97 = .ok (.if_icmp .eq 7, 3) := by decide +kernel
theorem dX11_meet_100 : decode cX11_meet 100 = .ok (.iconst 1, 1) := by decide +kernel
theorem dX11_meet_101 : decode cX11_meet 101 = .ok (.goto 4, 3) := by decide +kernel
theorem dX11_meet_104 : decode cX11_meet 104 = .ok (.iconst 0, 1) := by decide +kernel
theorem dX11_meet_105 : decode cX11_meet 105 = .ok (.istore 8, 2) := by decide +kernel
theorem dX11_meet_107 : decode cX11_meet 107 = .ok (.iload 4, 2) := by decide +kernel
theorem dX11_meet_109 : decode cX11_meet 109 = .ok (.ifCond .ne 32, 3) := by decide +kernel
theorem dX11_meet_112 : decode cX11_meet 112 = .ok (.iload 8, 2) := by decide +kernel
theorem dX11_meet_114 : decode cX11_meet 114 = .ok (.ifCond .eq 31, 3) := by decide +kernel
theorem dX11_meet_117 : decode cX11_meet 117 = .ok (.aload_n 0, 1) := by decide +kernel
theorem dX11_meet_118 : decode cX11_meet 118 = .ok (.iload 6, 2) := by decide +kernel
theorem dX11_meet_120 : decode cX11_meet 120 = .ok (.iload 7, 2) := by decide +kernel
theorem dX11_meet_122 : decode cX11_meet 122 = .ok (.invokevirtual 130, 3) := by decide +kernel
theorem dX11_meet_125 : decode cX11_meet 125 = .ok (.iload_n 3, 1) := by decide +kernel
theorem dX11_meet_126 : decode cX11_meet 126 = .ok (.if_icmp .gt 19, 3) := by decide +kernel
theorem dX11_meet_129 : decode cX11_meet 129 = .ok (.aload_n 0, 1) := by decide +kernel
theorem dX11_meet_130 : decode cX11_meet 130 = .ok (.iload 6, 2) := by decide +kernel
theorem dX11_meet_132 : decode cX11_meet 132 = .ok (.iload 7, 2) := by decide +kernel
theorem dX11_meet_134 : decode cX11_meet 134 = .ok (.invokevirtual 134, 3) := by decide +kernel
theorem dX11_meet_137 : decode cX11_meet 137 = .ok (.iload_n 3, 1) := by decide +kernel
theorem dX11_meet_138 : decode cX11_meet 138 = .ok (.if_icmp .gt 7, 3) := by decide +kernel
theorem dX11_meet_141 : decode cX11_meet 141 = .ok (.iconst 1, 1) := by decide +kernel
theorem dX11_meet_142 : decode cX11_meet 142 = .ok (.goto 4, 3) := by decide +kernel
theorem dX11_meet_145 : decode cX11_meet 145 = .ok (.iconst 0, 1) := by decide +kernel
theorem dX11_meet_146 : decode cX11_meet 146 = .ok (.istore 4, 2) := by decide +kernel
theorem dX11_meet_148 : decode cX11_meet 148 = .ok (.iload 4, 2) := by decide +kernel
theorem dX11_meet_150 : decode cX11_meet 150 = .ok (.ifCond .ne 43, 3) := by decide +kernel
theorem dX11_meet_153 : decode cX11_meet 153 = .ok (.iload 8, 2) := by decide +kernel
theorem dX11_meet_155 : decode cX11_meet 155 = .ok (.ifCond .eq 42, 3) := by decide +kernel
theorem dX11_meet_158 : decode cX11_meet 158 = .ok (.iload 6, 2) := by decide +kernel
theorem dX11_meet_160 : decode cX11_meet 160 = .ok (.iload 7, 2) := by decide +kernel
theorem dX11_meet_162 : decode cX11_meet 162 = .ok (.if_icmp .eq 35, 3) := by decide +kernel
theorem dX11_meet_165 : decode cX11_meet 165 = .ok (.iload 6, 2) := by decide +kernel
theorem dX11_meet_167 : decode cX11_meet 167 = .ok (.aload_n 0, 1) := by decide +kernel
theorem dX11_meet_168 : decode cX11_meet 168 = .ok (.iload_n 2, 1) := by decide +kernel
theorem dX11_meet_169 : decode cX11_meet 169 = .ok (.iload 5, 2) := by decide +kernel
theorem dX11_meet_171 : decode cX11_meet 171 = .ok (.iconst 1, 1) := by decide +kernel
theorem dX11_meet_172 : decode cX11_meet 172 = .ok (.iadd, 1) := by decide +kernel
theorem dX11_meet_173 : decode cX11_meet 173 = .ok (.invokevirtual 220, 3) := by decide +kernel
theorem dX11_meet_176 : decode cX11_meet 176 = .ok (.if_icmp .ne 21, 3) := by decide +kernel
theorem dX11_meet_179 : decode cX11_meet 179 = .ok (.iload 7, 2) := by decide +kernel
theorem dX11_meet_181 : decode cX11_meet 181 = .ok (.aload_n 0, 1) := by decide +kernel
theorem dX11_meet_182 : decode cX11_meet 182 = .ok (.iload_n 1, 1) := by decide +kernel
theorem dX11_meet_183 : decode cX11_meet 183 = .ok (.iload 5, 2) := by decide +kernel
theorem dX11_meet_185 : decode cX11_meet 185 = .ok (.iconst 1, 1) := by decide +kernel
theorem dX11_meet_186 : decode cX11_meet 186 = .ok (.iadd, 1) := by decide +kernel
theorem dX11_meet_187 : decode cX11_meet 187 = .ok (.invokevirtual 220, 3) := by decide +kernel
theorem dX11_meet_190 : decode cX11_meet 190 = .ok (.if_icmp .ne 7, 3) := by decide +kernel
theorem dX11_meet_193 : decode cX11_meet 193 = .ok (.iconst 1, 1) := by decide +kernel
theorem dX11_meet_194 : decode cX11_meet 194 = .ok (.goto 4, 3) := by decide +kernel
theorem dX11_meet_197 : decode cX11_meet 197 = .ok (.iconst 0, 1) := by decide +kernel
theorem dX11_meet_198 : decode cX11_meet 198 = .ok (.istore 4, 2) := by decide +kernel
theorem dX11_meet_200 : decode cX11_meet 200 = .ok (.iinc 5 1, 3) := by decide +kernel
theorem dX11_meet_203 : decode cX11_meet 203 = .ok (.goto (-142), 3) := by decide +kernel
theorem dX11_meet_206 : decode cX11_meet 206 = .ok (.iload 4, 2) := by decide +kernel
theorem dX11_meet_208 : decode cX11_meet 208 = .ok (.ifCond .eq 7, 3) := by decide +kernel
theorem dX11_meet_211 : decode cX11_meet 211 = .ok (.iconst 1, 1) := by decide +kernel
theorem dX11_meet_212 : decode cX11_meet 212 = .ok (.goto 4, 3) := by decide +kernel
theorem dX11_meet_215 : decode cX11_meet 215 = .ok (.iconst 0, 1) := by decide +kernel
end
section
theorem dX11_meet_216 : decode cX11_meet 216 = .ok (.ireturn, 1) := by decide +kernel
theorem dX11_ones_0 : decode cX11_ones 0 = .ok (.iconst 0, 1) := by decide +kernel
theorem dX11_ones_1 : decode cX11_ones 1 = .ok (.istore_n 1, 1) := by decide +kernel
theorem dX11_ones_2 : decode cX11_ones 2 = .ok (.iconst 0, 1) := by decide +kernel
theorem dX11_ones_3 : decode cX11_ones 3 = .ok (.istore_n 2, 1) := by decide +kernel
theorem dX11_ones_4 : decode cX11_ones 4 = .ok (.iload_n 2, 1) := by decide +kernel
theorem dX11_ones_5 : decode cX11_ones 5 = .ok (.bipush 10, 2) := by decide +kernel
theorem dX11_ones_7 : decode cX11_ones 7 = .ok (.if_icmp .ge 17, 3) := by decide +kernel
theorem dX11_ones_10 : decode cX11_ones 10 = .ok (.iload_n 1, 1) := by decide +kernel
theorem dX11_ones_11 : decode cX11_ones 11 = .ok (.iload_n 0, 1) := by decide +kernel
theorem dX11_ones_12 : decode cX11_ones 12 = .ok (.iload_n 2, 1) := by decide +kernel
theorem dX11_ones_13 : decode cX11_ones 13 = .ok (.ishr, 1) := by decide +kernel
theorem dX11_ones_14 : decode cX11_ones 14 = .ok (.iconst 1, 1) := by decide +kernel
theorem dX11_ones_15 : decode cX11_ones 15 = .ok (.iand, 1) := by decide +kernel
theorem dX11_ones_16 : decode cX11_ones 16 = .ok (.iadd, 1) := by decide +kernel
theorem dX11_ones_17 : decode cX11_ones 17 = .ok (.istore_n 1, 1) := by decide +kernel
theorem dX11_ones_18 : decode cX11_ones 18 = .ok (.iinc 2 1, 3) := by decide +kernel
theorem dX11_ones_21 : decode cX11_ones 21 = .ok (.goto (-17), 3) := by decide +kernel
theorem dX11_ones_24 : decode cX11_ones 24 = .ok (.iload_n 1, 1) := by decide +kernel
theorem dX11_ones_25 : decode cX11_ones 25 = .ok (.ireturn, 1) := by decide +kernel
theorem dX11_isFirst_0 : decode cX11_isFirst 0 = .ok (.iload_n 0, 1) := by decide +kernel
theorem dX11_isFirst_1 : decode cX11_isFirst 1 = .ok (.iload_n 1, 1) := by decide +kernel
theorem dX11_isFirst_2 : decode cX11_isFirst 2 = .ok (.ixor, 1) := by decide +kernel
theorem dX11_isFirst_3 : decode cX11_isFirst 3 = .ok (.istore_n 2, 1) := by decide +kernel
theorem dX11_isFirst_4 : decode cX11_isFirst 4 = .ok (.iload_n 0, 1) := by decide +kernel
theorem dX11_isFirst_5 : decode cX11_isFirst 5 = .ok (.iload_n 2, 1) := by decide +kernel
theorem dX11_isFirst_6 : decode cX11_isFirst 6 = .ok (.iand, 1) := by decide +kernel
theorem dX11_isFirst_7 : decode cX11_isFirst 7 = .ok (.iload_n 2, 1) := by decide +kernel
theorem dX11_isFirst_8 : decode cX11_isFirst 8 = .ok (.ineg, 1) := by decide +kernel
theorem dX11_isFirst_9 : decode cX11_isFirst 9 = .ok (.iand, 1) := by decide +kernel
theorem dX11_isFirst_10 : decode cX11_isFirst 10 = .ok (.ifCond .eq 7, 3) := by decide +kernel
theorem dX11_isFirst_13 : decode cX11_isFirst 13 = .ok (.iconst 1, 1) := by decide +kernel
theorem dX11_isFirst_14 : decode cX11_isFirst 14 = .ok (.goto 4, 3) := by decide +kernel
theorem dX11_isFirst_17 : decode cX11_isFirst 17 = .ok (.iconst 0, 1) := by decide +kernel
theorem dX11_isFirst_18 : decode cX11_isFirst 18 = .ok (.ireturn, 1) := by decide +kernel
theorem dX11_givenSet_0 : decode cX11_givenSet 0 = .ok (.iconst 0, 1) := by decide +kernel
theorem dX11_givenSet_1 : decode cX11_givenSet 1 = .ok (.istore_n 1, 1) := by decide +kernel
theorem dX11_givenSet_2 : decode cX11_givenSet 2 = .ok (.iconst 0, 1) := by decide +kernel
theorem dX11_givenSet_3 : decode cX11_givenSet 3 = .ok (.istore_n 2, 1) := by decide +kernel
theorem dX11_givenSet_4 : decode cX11_givenSet 4 = .ok (.iload_n 2, 1) := by decide +kernel
theorem dX11_givenSet_5 : decode cX11_givenSet 5 = .ok (.aload_n 0, 1) := by decide +kernel
theorem dX11_givenSet_6 : decode cX11_givenSet 6 = .ok (.getfield 98, 3) := by decide +kernel
theorem dX11_givenSet_9 : decode cX11_givenSet 9 = .ok (.if_icmp .ge 28, 3) := by decide +kernel
theorem dX11_givenSet_12 : decode cX11_givenSet 12 = .ok (.iload_n 1, 1) := by decide +kernel
theorem dX11_givenSet_13 : decode cX11_givenSet 13 = .ok (.aload_n 0, 1) := by decide +kernel
theorem dX11_givenSet_14 : decode cX11_givenSet 14 = .ok (.getfield 33, 3) := by decide +kernel
theorem dX11_givenSet_17 : decode cX11_givenSet 17 = .ok (.iload_n 2, 1) := by decide +kernel
theorem dX11_givenSet_18 : decode cX11_givenSet 18 = .ok (.baload, 1) := by decide +kernel
theorem dX11_givenSet_19 : decode cX11_givenSet 19 = .ok (.ifCond .eq 9, 3) := by decide +kernel
theorem dX11_givenSet_22 : decode cX11_givenSet 22 = .ok (.iconst 1, 1) := by decide +kernel
theorem dX11_givenSet_23 : decode cX11_givenSet 23 = .ok (.iload_n 2, 1) := by decide +kernel
theorem dX11_givenSet_24 : decode cX11_givenSet 24 = .ok (.ishl, 1) := by decide +kernel
theorem dX11_givenSet_25 : decode cX11_givenSet 25 = .ok (.goto 4, 3) := by decide +kernel
theorem dX11_givenSet_28 : decode cX11_givenSet 28 = .ok (.iconst 0, 1) := by decide +kernel
theorem dX11_givenSet_29 : decode cX11_givenSet 29 = .ok (.ior, 1) := by decide +kernel
theorem dX11_givenSet_30 : decode cX11_givenSet 30 = .ok (.istore_n 1, 1) := by decide +kernel
theorem dX11_givenSet_31 : decode cX11_givenSet 31 = .ok (.iinc 2 1, 3) := by decide +kernel
theorem dX11_givenSet_34 : decode cX11_givenSet 34 = .ok (.goto (-30), 3) := by decide +kernel
theorem dX11_givenSet_37 : decode cX11_givenSet 37 = .ok (.iload_n 1, 1) := by decide +kernel
theorem dX11_givenSet_38 : decode cX11_givenSet 38 = .ok (.ireturn, 1) := by decide +kernel
theorem dX11_barSet_0 : decode cX11_barSet 0 = .ok (.aload_n 0, 1) := by decide +kernel
theorem dX11_barSet_1 : decode cX11_barSet 1 = .ok (.invokevirtual 208, 3) := by decide +kernel
theorem dX11_barSet_4 : decode cX11_barSet 4 = .ok (.aload_n 0, 1) := by decide +kernel
theorem dX11_barSet_5 : decode cX11_barSet 5 = .ok (.invokevirtual 223, 3) := by decide +kernel
theorem dX11_barSet_8 : decode cX11_barSet 8 = .ok (.istore_n 2, 1) := by decide +kernel
theorem dX11_barSet_9 : decode cX11_barSet 9 = .ok (.ldc 66, 2) := by decide +kernel
theorem dX11_barSet_11 : decode cX11_barSet 11 = .ok (.istore_n 3, 1) := by decide +kernel
theorem dX11_barSet_12 : decode cX11_barSet 12 = .ok (.iconst 0, 1) := by decide +kernel
theorem dX11_barSet_13 : decode cX11_barSet 13 = .ok (.istore 4, 2) := by decide +kernel
theorem dX11_barSet_15 : decode cX11_barSet 15 = .ok (.iload 4, 2) := by decide +kernel
theorem dX11_barSet_17 : decode cX11_barSet 17 = .ok (.iconst 1, 1) := by decide +kernel
theorem dX11_barSet_18 : decode cX11_barSet 18 = .ok (.aload_n 0, 1) := by decide +kernel
theorem dX11_barSet_19 : decode cX11_barSet 19 = .ok (.getfield 98, 3) := by decide +kernel
theorem dX11_barSet_22 : decode cX11_barSet 22 = .ok (.ishl, 1) := by decide +kernel
theorem dX11_barSet_23 : decode cX11_barSet 23 = .ok (.if_icmp .ge 86, 3) := by decide +kernel
theorem dX11_barSet_26 : decode cX11_barSet 26 = .ok (.iload 4, 2) := by decide +kernel
theorem dX11_barSet_28 : decode cX11_barSet 28 = .ok (.iload_n 2, 1) := by decide +kernel
theorem dX11_barSet_29 : decode cX11_barSet 29 = .ok (.iconst (-1), 1) := by decide +kernel
theorem dX11_barSet_30 : decode cX11_barSet 30 = .ok (.ixor, 1) := by decide +kernel
theorem dX11_barSet_31 : decode cX11_barSet 31 = .ok (.iand, 1) := by decide +kernel
theorem dX11_barSet_32 : decode cX11_barSet 32 = .ok (.ifCond .ne 46, 3) := by decide +kernel
theorem dX11_barSet_35 : decode cX11_barSet 35 = .ok (.iload_n 3, 1) := by decide +kernel
theorem dX11_barSet_36 : decode cX11_barSet 36 = .ok (.ldc 66, 2) := by decide +kernel
theorem dX11_barSet_38 : decode cX11_barSet 38 = .ok (.if_icmp .eq 36, 3) := by decide +kernel
theorem dX11_barSet_41 : decode cX11_barSet 41 = .ok (.iload 4, 2) := by decide +kernel
theorem dX11_barSet_43 : decode cX11_barSet 43 = .ok (.invokestatic 226, 3) := by decide +kernel
theorem dX11_barSet_46 : decode cX11_barSet 46 = .ok (.iload_n 3, 1) := by decide +kernel
theorem dX11_barSet_47 : decode cX11_barSet 47 = .ok (.invokestatic 226, 3) := by decide +kernel
theorem dX11_barSet_50 : decode cX11_barSet 50 = .ok (.if_icmp .lt 24, 3) := by decide +kernel
theorem dX11_barSet_53 : decode cX11_barSet 53 = .ok (.iload 4, 2) := by decide +kernel
theorem dX11_barSet_55 : decode cX11_barSet 55 = .ok (.invokestatic 226, 3) := by decide +kernel
theorem dX11_barSet_58 : decode cX11_barSet 58 = .ok (.iload_n 3, 1) := by decide +kernel
theorem dX11_barSet_59 : decode cX11_barSet 59 = .ok (.invokestatic 226, 3) := by decide +kernel
theorem dX11_barSet_62 : decode cX11_barSet 62 = .ok (.if_icmp .ne 16, 3) := by decide +kernel
theorem dX11_barSet_65 : decode cX11_barSet 65 = .ok (.iload 4, 2) := by decide +kernel
theorem dX11_barSet_67 : decode cX11_barSet 67 = .ok (.iload_n 3, 1) := by decide +kernel
theorem dX11_barSet_68 : decode cX11_barSet 68 = .ok (.invokestatic 229, 3) := by decide +kernel
theorem dX11_barSet_71 : decode cX11_barSet 71 = .ok (.ifCond .eq 7, 3) := by decide +kernel
theorem dX11_barSet_74 : decode cX11_barSet 74 = .ok (.iconst 1, 1) := by decide +kernel
theorem dX11_barSet_75 : decode cX11_barSet 75 = .ok (.goto 4, 3) := by decide +kernel
theorem dX11_barSet_78 : decode cX11_barSet 78 = .ok (.iconst 0, 1) := by decide +kernel
theorem dX11_barSet_79 : decode cX11_barSet 79 = .ok (.istore 5, 2) := by decide +kernel
theorem dX11_barSet_81 : decode cX11_barSet 81 = .ok (.iload 5, 2) := by decide +kernel
theorem dX11_barSet_83 : decode cX11_barSet 83 = .ok (.ifCond .eq 18, 3) := by decide +kernel
theorem dX11_barSet_86 : decode cX11_barSet 86 = .ok (.aload_n 0, 1) := by decide +kernel
theorem dX11_barSet_87 : decode cX11_barSet 87 = .ok (.iload_n 1, 1) := by decide +kernel
theorem dX11_barSet_88 : decode cX11_barSet 88 = .ok (.iload 4, 2) := by decide +kernel
theorem dX11_barSet_90 : decode cX11_barSet 90 = .ok (.invokevirtual 194, 3) := by decide +kernel
theorem dX11_barSet_93 : decode cX11_barSet 93 = .ok (.ifCond .eq 8, 3) := by decide +kernel
theorem dX11_barSet_96 : decode cX11_barSet 96 = .ok (.iload 4, 2) := by decide +kernel
theorem dX11_barSet_98 : decode cX11_barSet 98 = .ok (.goto 4, 3) := by decide +kernel
theorem dX11_barSet_101 : decode cX11_barSet 101 = .ok (.iload_n 3, 1) := by decide +kernel
theorem dX11_barSet_102 : decode cX11_barSet 102 = .ok (.istore_n 3, 1) := by decide +kernel
theorem dX11_barSet_103 : decode cX11_barSet 103 = .ok (.iinc 4 1, 3) := by decide +kernel
theorem dX11_barSet_106 : decode cX11_barSet 106 = .ok (.goto (-91), 3) := by decide +kernel
theorem dX11_barSet_109 : decode cX11_barSet 109 = .ok (.iload_n 3, 1) := by decide +kernel
theorem dX11_barSet_110 : decode cX11_barSet 110 = .ok (.ireturn, 1) := by decide +kernel
theorem dX11_nth_0 : decode cX11_nth 0 = .ok (.iload_n 1, 1) := by decide +kernel
theorem dX11_nth_1 : decode cX11_nth 1 = .ok (.istore_n 2, 1) := by decide +kernel
theorem dX11_nth_2 : decode cX11_nth 2 = .ok (.iconst 0, 1) := by decide +kernel
theorem dX11_nth_3 : decode cX11_nth 3 = .ok (.istore_n 3, 1) := by decide +kernel
theorem dX11_nth_4 : decode cX11_nth 4 = .ok (.iload_n 3, 1) := by decide +kernel
theorem dX11_nth_5 : decode cX11_nth 5 = .ok (.bipush 10, 2) := by decide +kernel
theorem dX11_nth_7 : decode cX11_nth 7 = .ok (.if_icmp .ge 31, 3) := by decide +kernel
theorem dX11_nth_10 : decode cX11_nth 10 = .ok (.iload_n 1, 1) := by decide +kernel
theorem dX11_nth_11 : decode cX11_nth 11 = .ok (.ifCond .lt 27, 3) := by decide +kernel
theorem dX11_nth_14 : decode cX11_nth 14 = .ok (.iload_n 0, 1) := by decide +kernel
theorem dX11_nth_15 : decode cX11_nth 15 = .ok (.iload_n 3, 1) := by decide +kernel
theorem dX11_nth_16 : decode cX11_nth 16 = .ok (.ishr, 1) := by decide +kernel
theorem dX11_nth_17 : decode cX11_nth 17 = .ok (.iconst 1, 1) := by decide +kernel
theorem dX11_nth_18 : decode cX11_nth 18 = .ok (.iand, 1) := by decide +kernel
theorem dX11_nth_19 : decode cX11_nth 19 = .ok (.iconst 1, 1) := by decide +kernel
theorem dX11_nth_20 : decode cX11_nth 20 = .ok (.if_icmp .ne 12, 3) := by decide +kernel
theorem dX11_nth_23 : decode cX11_nth 23 = .ok (.iload_n 2, 1) := by decide +kernel
theorem dX11_nth_24 : decode cX11_nth 24 = .ok (.ifCond .ne 5, 3) := by decide +kernel
theorem dX11_nth_27 : decode cX11_nth 27 = .ok (.iload_n 3, 1) := by decide +kernel
theorem dX11_nth_28 : decode cX11_nth 28 = .ok (.ireturn, 1) := by decide +kernel
theorem dX11_nth_29 : decode cX11_nth 29 = .ok (.iinc 2 (-1), 3) := by decide +kernel
theorem dX11_nth_32 : decode cX11_nth 32 = .ok (.iinc 3 1, 3) := by decide +kernel
theorem dX11_nth_35 : decode cX11_nth 35 = .ok (.goto (-31), 3) := by decide +kernel
theorem dX11_nth_38 : decode cX11_nth 38 = .ok (.ldc 66, 2) := by decide +kernel
theorem dX11_nth_40 : decode cX11_nth 40 = .ok (.ireturn, 1) := by decide +kernel
theorem dX11_bars_0 : decode cX11_bars 0 = .ok (.aload_n 0, 1) := by decide +kernel
theorem dX11_bars_1 : decode cX11_bars 1 = .ok (.iload_n 1, 1) := by decide +kernel
theorem dX11_bars_2 : decode cX11_bars 2 = .ok (.invokevirtual 205, 3) := by decide +kernel
theorem dX11_bars_5 : decode cX11_bars 5 = .ok (.istore_n 2, 1) := by decide +kernel
theorem dX11_bars_6 : decode cX11_bars 6 = .ok (.iload_n 2, 1) := by decide +kernel
theorem dX11_bars_7 : decode cX11_bars 7 = .ok (.ifCond .ge 5, 3) := by decide +kernel
theorem dX11_bars_10 : decode cX11_bars 10 = .ok (.iload_n 2, 1) := by decide +kernel
theorem dX11_bars_11 : decode cX11_bars 11 = .ok (.ireturn, 1) := by decide +kernel
theorem dX11_bars_12 : decode cX11_bars 12 = .ok (.aload_n 0, 1) := by decide +kernel
theorem dX11_bars_13 : decode cX11_bars 13 = .ok (.iload_n 1, 1) := by decide +kernel
theorem dX11_bars_14 : decode cX11_bars 14 = .ok (.invokevirtual 232, 3) := by decide +kernel
theorem dX11_bars_17 : decode cX11_bars 17 = .ok (.istore_n 3, 1) := by decide +kernel
theorem dX11_bars_18 : decode cX11_bars 18 = .ok (.iload_n 3, 1) := by decide +kernel
theorem dX11_bars_19 : decode cX11_bars 19 = .ok (.ldc 66, 2) := by decide +kernel
theorem dX11_bars_21 : decode cX11_bars 21 = .ok (.if_icmp .ne 8, 3) := by decide +kernel
theorem dX11_bars_24 : decode cX11_bars 24 = .ok (.ldc 66, 2) := by decide +kernel
theorem dX11_bars_26 : decode cX11_bars 26 = .ok (.goto 7, 3) := by decide +kernel
theorem dX11_bars_29 : decode cX11_bars 29 = .ok (.iload_n 3, 1) := by decide +kernel
theorem dX11_bars_30 : decode cX11_bars 30 = .ok (.invokestatic 226, 3) := by decide +kernel
theorem dX11_bars_33 : decode cX11_bars 33 = .ok (.ireturn, 1) := by decide +kernel
theorem dX11_bar_0 : decode cX11_bar 0 = .ok (.aload_n 0, 1) := by decide +kernel
theorem dX11_bar_1 : decode cX11_bar 1 = .ok (.iload_n 1, 1) := by decide +kernel
theorem dX11_bar_2 : decode cX11_bar 2 = .ok (.invokevirtual 205, 3) := by decide +kernel
theorem dX11_bar_5 : decode cX11_bar 5 = .ok (.istore_n 3, 1) := by decide +kernel
theorem dX11_bar_6 : decode cX11_bar 6 = .ok (.iload_n 3, 1) := by decide +kernel
theorem dX11_bar_7 : decode cX11_bar 7 = .ok (.ifCond .ge 5, 3) := by decide +kernel
theorem dX11_bar_10 : decode cX11_bar 10 = .ok (.iload_n 3, 1) := by decide +kernel
theorem dX11_bar_11 : decode cX11_bar 11 = .ok (.ireturn, 1) := by decide +kernel
theorem dX11_bar_12 : decode cX11_bar 12 = .ok (.aload_n 0, 1) := by decide +kernel
theorem dX11_bar_13 : decode cX11_bar 13 = .ok (.iload_n 1, 1) := by decide +kernel
theorem dX11_bar_14 : decode cX11_bar 14 = .ok (.invokevirtual 232, 3) := by decide +kernel
theorem dX11_bar_17 : decode cX11_bar 17 = .ok (.istore 4, 2) := by decide +kernel
theorem dX11_bar_19 : decode cX11_bar 19 = .ok (.iload 4, 2) := by decide +kernel
theorem dX11_bar_21 : decode cX11_bar 21 = .ok (.ldc 66, 2) := by decide +kernel
theorem dX11_bar_23 : decode cX11_bar 23 = .ok (.if_icmp .ne 8, 3) := by decide +kernel
theorem dX11_bar_26 : decode cX11_bar 26 = .ok (.ldc 66, 2) := by decide +kernel
theorem dX11_bar_28 : decode cX11_bar 28 = .ok (.goto 9, 3) := by decide +kernel
theorem dX11_bar_31 : decode cX11_bar 31 = .ok (.iload 4, 2) := by decide +kernel
theorem dX11_bar_33 : decode cX11_bar 33 = .ok (.iload_n 2, 1) := by decide +kernel
theorem dX11_bar_34 : decode cX11_bar 34 = .ok (.invokestatic 235, 3) := by decide +kernel
theorem dX11_bar_37 : decode cX11_bar 37 = .ok (.ireturn, 1) := by decide +kernel
theorem dX11_goRow_0 : decode cX11_goRow 0 = .ok (.iconst 0, 1) := by decide +kernel
theorem dX11_goRow_1 : decode cX11_goRow 1 = .ok (.istore_n 2, 1) := by decide +kernel
theorem dX11_goRow_2 : decode cX11_goRow 2 = .ok (.iconst 0, 1) := by decide +kernel
theorem dX11_goRow_3 : decode cX11_goRow 3 = .ok (.istore_n 3, 1) := by decide +kernel
theorem dX11_goRow_4 : decode cX11_goRow 4 = .ok (.iload_n 3, 1) := by decide +kernel
theorem dX11_goRow_5 : decode cX11_goRow 5 = .ok (.iload_n 1, 1) := by decide +kernel
theorem dX11_goRow_6 : decode cX11_goRow 6 = .ok (.if_icmp .ge 90, 3) := by decide +kernel
theorem dX11_goRow_9 : decode cX11_goRow 9 = .ok (.aload_n 0, 1) := by decide +kernel
theorem dX11_goRow_10 : decode cX11_goRow 10 = .ok (.getfield 60, 3) := by decide +kernel
theorem dX11_goRow_13 : decode cX11_goRow 13 = .ok (.iload_n 3, 1) := by decide +kernel
theorem dX11_goRow_14 : decode cX11_goRow 14 = .ok (.iaload, 1) := by decide +kernel
theorem dX11_goRow_15 : decode cX11_goRow 15 = .ok (.istore 4, 2) := by decide +kernel
theorem dX11_goRow_17 : decode cX11_goRow 17 = .ok (.aload_n 0, 1) := by decide +kernel
theorem dX11_goRow_18 : decode cX11_goRow 18 = .ok (.invokevirtual 191, 3) := by decide +kernel
theorem dX11_goRow_21 : decode cX11_goRow 21 = .ok (.aload_n 0, 1) := by decide +kernel
theorem dX11_goRow_22 : decode cX11_goRow 22 = .ok (.iload 4, 2) := by decide +kernel
theorem dX11_goRow_24 : decode cX11_goRow 24 = .ok (.invokevirtual 211, 3) := by decide +kernel
theorem dX11_goRow_27 : decode cX11_goRow 27 = .ok (.ifCond .eq 45, 3) := by decide +kernel
theorem dX11_goRow_30 : decode cX11_goRow 30 = .ok (.aload_n 0, 1) := by decide +kernel
theorem dX11_goRow_31 : decode cX11_goRow 31 = .ok (.iload 4, 2) := by decide +kernel
theorem dX11_goRow_33 : decode cX11_goRow 33 = .ok (.invokevirtual 217, 3) := by decide +kernel
theorem dX11_goRow_36 : decode cX11_goRow 36 = .ok (.iload_n 2, 1) := by decide +kernel
theorem dX11_goRow_37 : decode cX11_goRow 37 = .ok (.aload_n 0, 1) := by decide +kernel
theorem dX11_goRow_38 : decode cX11_goRow 38 = .ok (.getfield 24, 3) := by decide +kernel
theorem dX11_goRow_41 : decode cX11_goRow 41 = .ok (.bipush 8, 2) := by decide +kernel
theorem dX11_goRow_43 : decode cX11_goRow 43 = .ok (.iload 4, 2) := by decide +kernel
theorem dX11_goRow_45 : decode cX11_goRow 45 = .ok (.imul, 1) := by decide +kernel
theorem dX11_goRow_46 : decode cX11_goRow 46 = .ok (.iconst 5, 1) := by decide +kernel
theorem dX11_goRow_47 : decode cX11_goRow 47 = .ok (.iadd, 1) := by decide +kernel
theorem dX11_goRow_48 : decode cX11_goRow 48 = .ok (.iaload, 1) := by decide +kernel
theorem dX11_goRow_49 : decode cX11_goRow 49 = .ok (.aload_n 0, 1) := by decide +kernel
theorem dX11_goRow_50 : decode cX11_goRow 50 = .ok (.getfield 181, 3) := by decide +kernel
theorem dX11_goRow_53 : decode cX11_goRow 53 = .ok (.aload_n 0, 1) := by decide +kernel
theorem dX11_goRow_54 : decode cX11_goRow 54 = .ok (.getfield 24, 3) := by decide +kernel
theorem dX11_goRow_57 : decode cX11_goRow 57 = .ok (.bipush 8, 2) := by decide +kernel
theorem dX11_goRow_59 : decode cX11_goRow 59 = .ok (.iload 4, 2) := by decide +kernel
theorem dX11_goRow_61 : decode cX11_goRow 61 = .ok (.imul, 1) := by decide +kernel
theorem dX11_goRow_62 : decode cX11_goRow 62 = .ok (.iconst 2, 1) := by decide +kernel
theorem dX11_goRow_63 : decode cX11_goRow 63 = .ok (.iadd, 1) := by decide +kernel
theorem dX11_goRow_64 : decode cX11_goRow 64 = .ok (.iaload, 1) := by decide +kernel
theorem dX11_goRow_65 : decode cX11_goRow 65 = .ok (.isub, 1) := by decide +kernel
theorem dX11_goRow_66 : decode cX11_goRow 66 = .ok (.imul, 1) := by decide +kernel
theorem dX11_goRow_67 : decode cX11_goRow 67 = .ok (.iadd, 1) := by decide +kernel
theorem dX11_goRow_68 : decode cX11_goRow 68 = .ok (.istore_n 2, 1) := by decide +kernel
theorem dX11_goRow_69 : decode cX11_goRow 69 = .ok (.goto 21, 3) := by decide +kernel
theorem dX11_goRow_72 : decode cX11_goRow 72 = .ok (.iload_n 2, 1) := by decide +kernel
theorem dX11_goRow_73 : decode cX11_goRow 73 = .ok (.bipush 100, 2) := by decide +kernel
theorem dX11_goRow_75 : decode cX11_goRow 75 = .ok (.aload_n 0, 1) := by decide +kernel
theorem dX11_goRow_76 : decode cX11_goRow 76 = .ok (.getfield 24, 3) := by decide +kernel
theorem dX11_goRow_79 : decode cX11_goRow 79 = .ok (.bipush 8, 2) := by decide +kernel
theorem dX11_goRow_81 : decode cX11_goRow 81 = .ok (.iload 4, 2) := by decide +kernel
theorem dX11_goRow_83 : decode cX11_goRow 83 = .ok (.imul, 1) := by decide +kernel
theorem dX11_goRow_84 : decode cX11_goRow 84 = .ok (.iconst 5, 1) := by decide +kernel
theorem dX11_goRow_85 : decode cX11_goRow 85 = .ok (.iadd, 1) := by decide +kernel
theorem dX11_goRow_86 : decode cX11_goRow 86 = .ok (.iaload, 1) := by decide +kernel
theorem dX11_goRow_87 : decode cX11_goRow 87 = .ok (.imul, 1) := by decide +kernel
theorem dX11_goRow_88 : decode cX11_goRow 88 = .ok (.iadd, 1) := by decide +kernel
theorem dX11_goRow_89 : decode cX11_goRow 89 = .ok (.istore_n 2, 1) := by decide +kernel
theorem dX11_goRow_90 : decode cX11_goRow 90 = .ok (.iinc 3 1, 3) := by decide +kernel
theorem dX11_goRow_93 : decode cX11_goRow 93 = .ok (.goto (-89), 3) := by decide +kernel
theorem dX11_goRow_96 : decode cX11_goRow 96 = .ok (.iload_n 2, 1) := by decide +kernel
theorem dX11_goRow_97 : decode cX11_goRow 97 = .ok (.ireturn, 1) := by decide +kernel
theorem dX11_takeRow_0 : decode cX11_takeRow 0 = .ok (.iconst 0, 1) := by decide +kernel
theorem dX11_takeRow_1 : decode cX11_takeRow 1 = .ok (.istore_n 2, 1) := by decide +kernel
theorem dX11_takeRow_2 : decode cX11_takeRow 2 = .ok (.iload_n 2, 1) := by decide +kernel
theorem dX11_takeRow_3 : decode cX11_takeRow 3 = .ok (.aload_n 0, 1) := by decide +kernel
theorem dX11_takeRow_4 : decode cX11_takeRow 4 = .ok (.getfield 98, 3) := by decide +kernel
theorem dX11_takeRow_7 : decode cX11_takeRow 7 = .ok (.if_icmp .ge 37, 3) := by decide +kernel
theorem dX11_takeRow_10 : decode cX11_takeRow 10 = .ok (.aload_n 0, 1) := by decide +kernel
theorem dX11_takeRow_11 : decode cX11_takeRow 11 = .ok (.getfield 33, 3) := by decide +kernel
theorem dX11_takeRow_14 : decode cX11_takeRow 14 = .ok (.iload_n 2, 1) := by decide +kernel
theorem dX11_takeRow_15 : decode cX11_takeRow 15 = .ok (.aload_n 0, 1) := by decide +kernel
theorem dX11_takeRow_16 : decode cX11_takeRow 16 = .ok (.getfield 33, 3) := by decide +kernel
theorem dX11_takeRow_19 : decode cX11_takeRow 19 = .ok (.iload_n 2, 1) := by decide +kernel
theorem dX11_takeRow_20 : decode cX11_takeRow 20 = .ok (.baload, 1) := by decide +kernel
theorem dX11_takeRow_21 : decode cX11_takeRow 21 = .ok (.ifCond .eq 15, 3) := by decide +kernel
theorem dX11_takeRow_24 : decode cX11_takeRow 24 = .ok (.iload_n 1, 1) := by decide +kernel
theorem dX11_takeRow_25 : decode cX11_takeRow 25 = .ok (.iload_n 2, 1) := by decide +kernel
theorem dX11_takeRow_26 : decode cX11_takeRow 26 = .ok (.ishr, 1) := by decide +kernel
theorem dX11_takeRow_27 : decode cX11_takeRow 27 = .ok (.iconst 1, 1) := by decide +kernel
theorem dX11_takeRow_28 : decode cX11_takeRow 28 = .ok (.iand, 1) := by decide +kernel
theorem dX11_takeRow_29 : decode cX11_takeRow 29 = .ok (.ifCond .ne 7, 3) := by decide +kernel
theorem dX11_takeRow_32 : decode cX11_takeRow 32 = .ok (.iconst 1, 1) := by decide +kernel
theorem dX11_takeRow_33 : decode cX11_takeRow 33 = .ok (.goto 4, 3) := by decide +kernel
theorem dX11_takeRow_36 : decode cX11_takeRow 36 = .ok (.iconst 0, 1) := by decide +kernel
theorem dX11_takeRow_37 : decode cX11_takeRow 37 = .ok (.bastore, 1) := by decide +kernel
theorem dX11_takeRow_38 : decode cX11_takeRow 38 = .ok (.iinc 2 1, 3) := by decide +kernel
theorem dX11_takeRow_41 : decode cX11_takeRow 41 = .ok (.goto (-39), 3) := by decide +kernel
theorem dX11_takeRow_44 : decode cX11_takeRow 44 = .ok (.return_, 1) := by decide +kernel
theorem dX11_layRow_0 : decode cX11_layRow 0 = .ok (.iload_n 1, 1) := by decide +kernel
theorem dX11_layRow_1 : decode cX11_layRow 1 = .ok (.istore 4, 2) := by decide +kernel
theorem dX11_layRow_3 : decode cX11_layRow 3 = .ok (.iload_n 3, 1) := by decide +kernel
theorem dX11_layRow_4 : decode cX11_layRow 4 = .ok (.istore 5, 2) := by decide +kernel
theorem dX11_layRow_6 : decode cX11_layRow 6 = .ok (.iconst 1, 1) := by decide +kernel
theorem dX11_layRow_7 : decode cX11_layRow 7 = .ok (.istore 6, 2) := by decide +kernel
theorem dX11_layRow_9 : decode cX11_layRow 9 = .ok (.iconst 2, 1) := by decide +kernel
theorem dX11_layRow_10 : decode cX11_layRow 10 = .ok (.istore 7, 2) := by decide +kernel
theorem dX11_layRow_12 : decode cX11_layRow 12 = .ok (.iload 7, 2) := by decide +kernel
theorem dX11_layRow_14 : decode cX11_layRow 14 = .ok (.iload_n 2, 1) := by decide +kernel
theorem dX11_layRow_15 : decode cX11_layRow 15 = .ok (.if_icmp .ge 16, 3) := by decide +kernel
theorem dX11_layRow_18 : decode cX11_layRow 18 = .ok (.iload 6, 2) := by decide +kernel
theorem dX11_layRow_20 : decode cX11_layRow 20 = .ok (.iload 7, 2) := by decide +kernel
theorem dX11_layRow_22 : decode cX11_layRow 22 = .ok (.imul, 1) := by decide +kernel
theorem dX11_layRow_23 : decode cX11_layRow 23 = .ok (.istore 6, 2) := by decide +kernel
theorem dX11_layRow_25 : decode cX11_layRow 25 = .ok (.iinc 7 1, 3) := by decide +kernel
theorem dX11_layRow_28 : decode cX11_layRow 28 = .ok (.goto (-16), 3) := by decide +kernel
theorem dX11_layRow_31 : decode cX11_layRow 31 = .ok (.iconst 0, 1) := by decide +kernel
theorem dX11_layRow_32 : decode cX11_layRow 32 = .ok (.istore 7, 2) := by decide +kernel
theorem dX11_layRow_34 : decode cX11_layRow 34 = .ok (.iload 7, 2) := by decide +kernel
theorem dX11_layRow_36 : decode cX11_layRow 36 = .ok (.iload_n 2, 1) := by decide +kernel
theorem dX11_layRow_37 : decode cX11_layRow 37 = .ok (.if_icmp .ge 74, 3) := by decide +kernel
theorem dX11_layRow_40 : decode cX11_layRow 40 = .ok (.aload_n 0, 1) := by decide +kernel
theorem dX11_layRow_41 : decode cX11_layRow 41 = .ok (.getfield 60, 3) := by decide +kernel
theorem dX11_layRow_44 : decode cX11_layRow 44 = .ok (.iload 7, 2) := by decide +kernel
theorem dX11_layRow_46 : decode cX11_layRow 46 = .ok (.iload 4, 2) := by decide +kernel
theorem dX11_layRow_48 : decode cX11_layRow 48 = .ok (.iload 5, 2) := by decide +kernel
theorem dX11_layRow_50 : decode cX11_layRow 50 = .ok (.iload 6, 2) := by decide +kernel
theorem dX11_layRow_52 : decode cX11_layRow 52 = .ok (.idiv, 1) := by decide +kernel
theorem dX11_layRow_53 : decode cX11_layRow 53 = .ok (.invokestatic 235, 3) := by decide +kernel
theorem dX11_layRow_56 : decode cX11_layRow 56 = .ok (.iastore, 1) := by decide +kernel
theorem dX11_layRow_57 : decode cX11_layRow 57 = .ok (.iload 4, 2) := by decide +kernel
theorem dX11_layRow_59 : decode cX11_layRow 59 = .ok (.iconst 1, 1) := by decide +kernel
theorem dX11_layRow_60 : decode cX11_layRow 60 = .ok (.aload_n 0, 1) := by decide +kernel
theorem dX11_layRow_61 : decode cX11_layRow 61 = .ok (.getfield 60, 3) := by decide +kernel
theorem dX11_layRow_64 : decode cX11_layRow 64 = .ok (.iload 7, 2) := by decide +kernel
theorem dX11_layRow_66 : decode cX11_layRow 66 = .ok (.iaload, 1) := by decide +kernel
theorem dX11_layRow_67 : decode cX11_layRow 67 = .ok (.ishl, 1) := by decide +kernel
theorem dX11_layRow_68 : decode cX11_layRow 68 = .ok (.iconst (-1), 1) := by decide +kernel
theorem dX11_layRow_69 : decode cX11_layRow 69 = .ok (.ixor, 1) := by decide +kernel
theorem dX11_layRow_70 : decode cX11_layRow 70 = .ok (.iand, 1) := by decide +kernel
theorem dX11_layRow_71 : decode cX11_layRow 71 = .ok (.istore 4, 2) := by decide +kernel
theorem dX11_layRow_73 : decode cX11_layRow 73 = .ok (.iload 5, 2) := by decide +kernel
theorem dX11_layRow_75 : decode cX11_layRow 75 = .ok (.iload 6, 2) := by decide +kernel
theorem dX11_layRow_77 : decode cX11_layRow 77 = .ok (.irem, 1) := by decide +kernel
theorem dX11_layRow_78 : decode cX11_layRow 78 = .ok (.istore 5, 2) := by decide +kernel
theorem dX11_layRow_80 : decode cX11_layRow 80 = .ok (.iload_n 2, 1) := by decide +kernel
theorem dX11_layRow_81 : decode cX11_layRow 81 = .ok (.iconst 1, 1) := by decide +kernel
theorem dX11_layRow_82 : decode cX11_layRow 82 = .ok (.isub, 1) := by decide +kernel
theorem dX11_layRow_83 : decode cX11_layRow 83 = .ok (.iload 7, 2) := by decide +kernel
theorem dX11_layRow_85 : decode cX11_layRow 85 = .ok (.isub, 1) := by decide +kernel
theorem dX11_layRow_86 : decode cX11_layRow 86 = .ok (.iconst 1, 1) := by decide +kernel
theorem dX11_layRow_87 : decode cX11_layRow 87 = .ok (.if_icmp .le 15, 3) := by decide +kernel
theorem dX11_layRow_90 : decode cX11_layRow 90 = .ok (.iload 6, 2) := by decide +kernel
theorem dX11_layRow_92 : decode cX11_layRow 92 = .ok (.iload_n 2, 1) := by decide +kernel
theorem dX11_layRow_93 : decode cX11_layRow 93 = .ok (.iconst 1, 1) := by decide +kernel
theorem dX11_layRow_94 : decode cX11_layRow 94 = .ok (.isub, 1) := by decide +kernel
theorem dX11_layRow_95 : decode cX11_layRow 95 = .ok (.iload 7, 2) := by decide +kernel
theorem dX11_layRow_97 : decode cX11_layRow 97 = .ok (.isub, 1) := by decide +kernel
theorem dX11_layRow_98 : decode cX11_layRow 98 = .ok (.idiv, 1) := by decide +kernel
theorem dX11_layRow_99 : decode cX11_layRow 99 = .ok (.goto 4, 3) := by decide +kernel
theorem dX11_layRow_102 : decode cX11_layRow 102 = .ok (.iconst 1, 1) := by decide +kernel
theorem dX11_layRow_103 : decode cX11_layRow 103 = .ok (.istore 6, 2) := by decide +kernel
theorem dX11_layRow_105 : decode cX11_layRow 105 = .ok (.iinc 7 1, 3) := by decide +kernel
theorem dX11_layRow_108 : decode cX11_layRow 108 = .ok (.goto (-74), 3) := by decide +kernel
theorem dX11_layRow_111 : decode cX11_layRow 111 = .ok (.return_, 1) := by decide +kernel
theorem dX11_layOrders_0 : decode cX11_layOrders 0 = .ok (.iload_n 1, 1) := by decide +kernel
theorem dX11_layOrders_1 : decode cX11_layOrders 1 = .ok (.invokestatic 226, 3) := by decide +kernel
theorem dX11_layOrders_4 : decode cX11_layOrders 4 = .ok (.istore_n 2, 1) := by decide +kernel
theorem dX11_layOrders_5 : decode cX11_layOrders 5 = .ok (.iconst 1, 1) := by decide +kernel
theorem dX11_layOrders_6 : decode cX11_layOrders 6 = .ok (.istore_n 3, 1) := by decide +kernel
theorem dX11_layOrders_7 : decode cX11_layOrders 7 = .ok (.iconst 2, 1) := by decide +kernel
theorem dX11_layOrders_8 : decode cX11_layOrders 8 = .ok (.istore 4, 2) := by decide +kernel
theorem dX11_layOrders_10 : decode cX11_layOrders 10 = .ok (.iload 4, 2) := by decide +kernel
theorem dX11_layOrders_12 : decode cX11_layOrders 12 = .ok (.iload_n 2, 1) := by decide +kernel
theorem dX11_layOrders_13 : decode cX11_layOrders 13 = .ok (.if_icmp .gt 14, 3) := by decide +kernel
theorem dX11_layOrders_16 : decode cX11_layOrders 16 = .ok (.iload_n 3, 1) := by decide +kernel
theorem dX11_layOrders_17 : decode cX11_layOrders 17 = .ok (.iload 4, 2) := by decide +kernel
theorem dX11_layOrders_19 : decode cX11_layOrders 19 = .ok (.imul, 1) := by decide +kernel
theorem dX11_layOrders_20 : decode cX11_layOrders 20 = .ok (.istore_n 3, 1) := by decide +kernel
theorem dX11_layOrders_21 : decode cX11_layOrders 21 = .ok (.iinc 4 1, 3) := by decide +kernel
theorem dX11_layOrders_24 : decode cX11_layOrders 24 = .ok (.goto (-14), 3) := by decide +kernel
theorem dX11_layOrders_27 : decode cX11_layOrders 27 = .ok (.aload_n 0, 1) := by decide +kernel
theorem dX11_layOrders_28 : decode cX11_layOrders 28 = .ok (.ldc 184, 2) := by decide +kernel
theorem dX11_layOrders_30 : decode cX11_layOrders 30 = .ok (.putfield 238, 3) := by decide +kernel
theorem dX11_layOrders_33 : decode cX11_layOrders 33 = .ok (.aload_n 0, 1) := by decide +kernel
theorem dX11_layOrders_34 : decode cX11_layOrders 34 = .ok (.invokevirtual 188, 3) := by decide +kernel
theorem dX11_layOrders_37 : decode cX11_layOrders 37 = .ok (.iconst 0, 1) := by decide +kernel
theorem dX11_layOrders_38 : decode cX11_layOrders 38 = .ok (.istore 4, 2) := by decide +kernel
theorem dX11_layOrders_40 : decode cX11_layOrders 40 = .ok (.iload 4, 2) := by decide +kernel
theorem dX11_layOrders_42 : decode cX11_layOrders 42 = .ok (.iload_n 3, 1) := by decide +kernel
theorem dX11_layOrders_43 : decode cX11_layOrders 43 = .ok (.if_icmp .ge 73, 3) := by decide +kernel
theorem dX11_layOrders_46 : decode cX11_layOrders 46 = .ok (.aload_n 0, 1) := by decide +kernel
theorem dX11_layOrders_47 : decode cX11_layOrders 47 = .ok (.iload_n 1, 1) := by decide +kernel
theorem dX11_layOrders_48 : decode cX11_layOrders 48 = .ok (.iload_n 2, 1) := by decide +kernel
theorem dX11_layOrders_49 : decode cX11_layOrders 49 = .ok (.iload 4, 2) := by decide +kernel
theorem dX11_layOrders_51 : decode cX11_layOrders 51 = .ok (.invokevirtual 241, 3) := by decide +kernel
theorem dX11_layOrders_54 : decode cX11_layOrders 54 = .ok (.aload_n 0, 1) := by decide +kernel
theorem dX11_layOrders_55 : decode cX11_layOrders 55 = .ok (.iload_n 2, 1) := by decide +kernel
theorem dX11_layOrders_56 : decode cX11_layOrders 56 = .ok (.invokevirtual 244, 3) := by decide +kernel
theorem dX11_layOrders_59 : decode cX11_layOrders 59 = .ok (.istore 5, 2) := by decide +kernel
theorem dX11_layOrders_61 : decode cX11_layOrders 61 = .ok (.aload_n 0, 1) := by decide +kernel
theorem dX11_layOrders_62 : decode cX11_layOrders 62 = .ok (.iload_n 1, 1) := by decide +kernel
theorem dX11_layOrders_63 : decode cX11_layOrders 63 = .ok (.invokevirtual 247, 3) := by decide +kernel
theorem dX11_layOrders_66 : decode cX11_layOrders 66 = .ok (.iload 5, 2) := by decide +kernel
theorem dX11_layOrders_68 : decode cX11_layOrders 68 = .ok (.aload_n 0, 1) := by decide +kernel
theorem dX11_layOrders_69 : decode cX11_layOrders 69 = .ok (.getfield 238, 3) := by decide +kernel
theorem dX11_layOrders_72 : decode cX11_layOrders 72 = .ok (.if_icmp .ge 38, 3) := by decide +kernel
theorem dX11_layOrders_75 : decode cX11_layOrders 75 = .ok (.aload_n 0, 1) := by decide +kernel
theorem dX11_layOrders_76 : decode cX11_layOrders 76 = .ok (.iload 5, 2) := by decide +kernel
theorem dX11_layOrders_78 : decode cX11_layOrders 78 = .ok (.putfield 238, 3) := by decide +kernel
theorem dX11_layOrders_81 : decode cX11_layOrders 81 = .ok (.iconst 0, 1) := by decide +kernel
theorem dX11_layOrders_82 : decode cX11_layOrders 82 = .ok (.istore 6, 2) := by decide +kernel
theorem dX11_layOrders_84 : decode cX11_layOrders 84 = .ok (.iload 6, 2) := by decide +kernel
theorem dX11_layOrders_86 : decode cX11_layOrders 86 = .ok (.iload_n 2, 1) := by decide +kernel
theorem dX11_layOrders_87 : decode cX11_layOrders 87 = .ok (.if_icmp .ge 23, 3) := by decide +kernel
theorem dX11_layOrders_90 : decode cX11_layOrders 90 = .ok (.aload_n 0, 1) := by decide +kernel
theorem dX11_layOrders_91 : decode cX11_layOrders 91 = .ok (.getfield 63, 3) := by decide +kernel
theorem dX11_layOrders_94 : decode cX11_layOrders 94 = .ok (.iload 6, 2) := by decide +kernel
theorem dX11_layOrders_96 : decode cX11_layOrders 96 = .ok (.aload_n 0, 1) := by decide +kernel
theorem dX11_layOrders_97 : decode cX11_layOrders 97 = .ok (.getfield 60, 3) := by decide +kernel
theorem dX11_layOrders_100 : decode cX11_layOrders 100 = .ok (.iload 6, 2) := by decide +kernel
theorem dX11_layOrders_102 : decode cX11_layOrders 102 = .ok (.iaload, 1) := by decide +kernel
theorem dX11_layOrders_103 : decode cX11_layOrders 103 = .ok (.iastore, 1) := by decide +kernel
theorem dX11_layOrders_104 : decode cX11_layOrders 104 = .ok (.iinc 6 1, 3) := by decide +kernel
theorem dX11_layOrders_107 : decode cX11_layOrders 107 = .ok (.goto (-23), 3) := by decide +kernel
theorem dX11_layOrders_110 : decode cX11_layOrders 110 = .ok (.iinc 4 1, 3) := by decide +kernel
theorem dX11_layOrders_113 : decode cX11_layOrders 113 = .ok (.goto (-73), 3) := by decide +kernel
theorem dX11_layOrders_116 : decode cX11_layOrders 116 = .ok (.iload_n 2, 1) := by decide +kernel
theorem dX11_layOrders_117 : decode cX11_layOrders 117 = .ok (.ireturn, 1) := by decide +kernel
theorem dX11_maySet_0 : decode cX11_maySet 0 = .ok (.iload_n 1, 1) := by decide +kernel
theorem dX11_maySet_1 : decode cX11_maySet 1 = .ok (.i2l, 1) := by decide +kernel
theorem dX11_maySet_2 : decode cX11_maySet 2 = .ok (.lconst 0, 1) := by decide +kernel
theorem dX11_maySet_3 : decode cX11_maySet 3 = .ok (.iconst 1, 1) := by decide +kernel
theorem dX11_maySet_4 : decode cX11_maySet 4 = .ok (.aload_n 0, 1) := by decide +kernel
theorem dX11_maySet_5 : decode cX11_maySet 5 = .ok (.getfield 98, 3) := by decide +kernel
theorem dX11_maySet_8 : decode cX11_maySet 8 = .ok (.ishl, 1) := by decide +kernel
theorem dX11_maySet_9 : decode cX11_maySet 9 = .ok (.iconst 1, 1) := by decide +kernel
theorem dX11_maySet_10 : decode cX11_maySet 10 = .ok (.isub, 1) := by decide +kernel
theorem dX11_maySet_11 : decode cX11_maySet 11 = .ok (.i2l, 1) := by decide +kernel
theorem dX11_maySet_12 : decode cX11_maySet 12 = .ok (.invokestatic 82, 3) := by decide +kernel
theorem dX11_maySet_15 : decode cX11_maySet 15 = .ok (.ifCond .eq 11, 3) := by decide +kernel
theorem dX11_maySet_18 : decode cX11_maySet 18 = .ok (.iload_n 1, 1) := by decide +kernel
theorem dX11_maySet_19 : decode cX11_maySet 19 = .ok (.invokestatic 226, 3) := by decide +kernel
theorem dX11_maySet_22 : decode cX11_maySet 22 = .ok (.iconst 5, 1) := by decide +kernel
theorem dX11_maySet_23 : decode cX11_maySet 23 = .ok (.if_icmp .le 6, 3) := by decide +kernel
theorem dX11_maySet_26 : decode cX11_maySet 26 = .ok (.ldc 109, 2) := by decide +kernel
theorem dX11_maySet_28 : decode cX11_maySet 28 = .ok (.ireturn, 1) := by decide +kernel
theorem dX11_maySet_29 : decode cX11_maySet 29 = .ok (.iload_n 1, 1) := by decide +kernel
theorem dX11_maySet_30 : decode cX11_maySet 30 = .ok (.aload_n 0, 1) := by decide +kernel
theorem dX11_maySet_31 : decode cX11_maySet 31 = .ok (.invokevirtual 223, 3) := by decide +kernel
theorem dX11_maySet_34 : decode cX11_maySet 34 = .ok (.iand, 1) := by decide +kernel
theorem dX11_maySet_35 : decode cX11_maySet 35 = .ok (.ifCond .ne 7, 3) := by decide +kernel
theorem dX11_maySet_38 : decode cX11_maySet 38 = .ok (.iconst 0, 1) := by decide +kernel
theorem dX11_maySet_39 : decode cX11_maySet 39 = .ok (.goto 5, 3) := by decide +kernel
theorem dX11_maySet_42 : decode cX11_maySet 42 = .ok (.ldc 154, 2) := by decide +kernel
theorem dX11_maySet_44 : decode cX11_maySet 44 = .ok (.ireturn, 1) := by decide +kernel
theorem dX11_atOnce_0 : decode cX11_atOnce 0 = .ok (.aload_n 0, 1) := by decide +kernel
theorem dX11_atOnce_1 : decode cX11_atOnce 1 = .ok (.iload_n 1, 1) := by decide +kernel
theorem dX11_atOnce_2 : decode cX11_atOnce 2 = .ok (.invokevirtual 250, 3) := by decide +kernel
theorem dX11_atOnce_5 : decode cX11_atOnce 5 = .ok (.istore_n 2, 1) := by decide +kernel
theorem dX11_atOnce_6 : decode cX11_atOnce 6 = .ok (.iload_n 2, 1) := by decide +kernel
theorem dX11_atOnce_7 : decode cX11_atOnce 7 = .ok (.ifCond .ge 5, 3) := by decide +kernel
theorem dX11_atOnce_10 : decode cX11_atOnce 10 = .ok (.iload_n 2, 1) := by decide +kernel
theorem dX11_atOnce_11 : decode cX11_atOnce 11 = .ok (.ireturn, 1) := by decide +kernel
theorem dX11_atOnce_12 : decode cX11_atOnce 12 = .ok (.aload_n 0, 1) := by decide +kernel
theorem dX11_atOnce_13 : decode cX11_atOnce 13 = .ok (.iload_n 1, 1) := by decide +kernel
theorem dX11_atOnce_14 : decode cX11_atOnce 14 = .ok (.invokevirtual 253, 3) := by decide +kernel
theorem dX11_atOnce_17 : decode cX11_atOnce 17 = .ok (.istore_n 3, 1) := by decide +kernel
theorem dX11_atOnce_18 : decode cX11_atOnce 18 = .ok (.aload_n 0, 1) := by decide +kernel
theorem dX11_atOnce_19 : decode cX11_atOnce 19 = .ok (.getfield 238, 3) := by decide +kernel
theorem dX11_atOnce_22 : decode cX11_atOnce 22 = .ok (.ireturn, 1) := by decide +kernel
theorem dX11_order_0 : decode cX11_order 0 = .ok (.aload_n 0, 1) := by decide +kernel
theorem dX11_order_1 : decode cX11_order 1 = .ok (.iload_n 1, 1) := by decide +kernel
theorem dX11_order_2 : decode cX11_order 2 = .ok (.invokevirtual 250, 3) := by decide +kernel
theorem dX11_order_5 : decode cX11_order 5 = .ok (.istore_n 3, 1) := by decide +kernel
theorem dX11_order_6 : decode cX11_order 6 = .ok (.iload_n 3, 1) := by decide +kernel
theorem dX11_order_7 : decode cX11_order 7 = .ok (.ifCond .ge 5, 3) := by decide +kernel
theorem dX11_order_10 : decode cX11_order 10 = .ok (.iload_n 3, 1) := by decide +kernel
theorem dX11_order_11 : decode cX11_order 11 = .ok (.ireturn, 1) := by decide +kernel
theorem dX11_order_12 : decode cX11_order 12 = .ok (.aload_n 0, 1) := by decide +kernel
theorem dX11_order_13 : decode cX11_order 13 = .ok (.iload_n 1, 1) := by decide +kernel
theorem dX11_order_14 : decode cX11_order 14 = .ok (.invokevirtual 253, 3) := by decide +kernel
theorem dX11_order_17 : decode cX11_order 17 = .ok (.istore 4, 2) := by decide +kernel
theorem dX11_order_19 : decode cX11_order 19 = .ok (.iload_n 2, 1) := by decide +kernel
theorem dX11_order_20 : decode cX11_order 20 = .ok (.i2l, 1) := by decide +kernel
theorem dX11_order_21 : decode cX11_order 21 = .ok (.lconst 0, 1) := by decide +kernel
theorem dX11_order_22 : decode cX11_order 22 = .ok (.iload 4, 2) := by decide +kernel
theorem dX11_order_24 : decode cX11_order 24 = .ok (.iconst 1, 1) := by decide +kernel
theorem dX11_order_25 : decode cX11_order 25 = .ok (.isub, 1) := by decide +kernel
theorem dX11_order_26 : decode cX11_order 26 = .ok (.i2l, 1) := by decide +kernel
theorem dX11_order_27 : decode cX11_order 27 = .ok (.invokestatic 82, 3) := by decide +kernel
theorem dX11_order_30 : decode cX11_order 30 = .ok (.ifCond .eq 12, 3) := by decide +kernel
theorem dX11_order_33 : decode cX11_order 33 = .ok (.aload_n 0, 1) := by decide +kernel
theorem dX11_order_34 : decode cX11_order 34 = .ok (.getfield 63, 3) := by decide +kernel
theorem dX11_order_37 : decode cX11_order 37 = .ok (.iload_n 2, 1) := by decide +kernel
theorem dX11_order_38 : decode cX11_order 38 = .ok (.iaload, 1) := by decide +kernel
theorem dX11_order_39 : decode cX11_order 39 = .ok (.goto 5, 3) := by decide +kernel
theorem dX11_order_42 : decode cX11_order 42 = .ok (.ldc 66, 2) := by decide +kernel
theorem dX11_order_44 : decode cX11_order 44 = .ok (.ireturn, 1) := by decide +kernel
theorem dX11_giveAll_0 : decode cX11_giveAll 0 = .ok (.aload_n 0, 1) := by decide +kernel
theorem dX11_giveAll_1 : decode cX11_giveAll 1 = .ok (.iload_n 1, 1) := by decide +kernel
theorem dX11_giveAll_2 : decode cX11_giveAll 2 = .ok (.invokevirtual 250, 3) := by decide +kernel
theorem dX11_giveAll_5 : decode cX11_giveAll 5 = .ok (.istore_n 2, 1) := by decide +kernel
theorem dX11_giveAll_6 : decode cX11_giveAll 6 = .ok (.iload_n 2, 1) := by decide +kernel
theorem dX11_giveAll_7 : decode cX11_giveAll 7 = .ok (.ifCond .ge 5, 3) := by decide +kernel
theorem dX11_giveAll_10 : decode cX11_giveAll 10 = .ok (.iload_n 2, 1) := by decide +kernel
theorem dX11_giveAll_11 : decode cX11_giveAll 11 = .ok (.ireturn, 1) := by decide +kernel
theorem dX11_giveAll_12 : decode cX11_giveAll 12 = .ok (.aload_n 0, 1) := by decide +kernel
theorem dX11_giveAll_13 : decode cX11_giveAll 13 = .ok (.iload_n 1, 1) := by decide +kernel
theorem dX11_giveAll_14 : decode cX11_giveAll 14 = .ok (.invokevirtual 253, 3) := by decide +kernel
theorem dX11_giveAll_17 : decode cX11_giveAll 17 = .ok (.istore_n 3, 1) := by decide +kernel
theorem dX11_giveAll_18 : decode cX11_giveAll 18 = .ok (.iconst 0, 1) := by decide +kernel
theorem dX11_giveAll_19 : decode cX11_giveAll 19 = .ok (.istore 4, 2) := by decide +kernel
theorem dX11_giveAll_21 : decode cX11_giveAll 21 = .ok (.iload 4, 2) := by decide +kernel
theorem dX11_giveAll_23 : decode cX11_giveAll 23 = .ok (.iload_n 3, 1) := by decide +kernel
theorem dX11_giveAll_24 : decode cX11_giveAll 24 = .ok (.if_icmp .ge 23, 3) := by decide +kernel
theorem dX11_giveAll_27 : decode cX11_giveAll 27 = .ok (.aload_n 0, 1) := by decide +kernel
theorem dX11_giveAll_28 : decode cX11_giveAll 28 = .ok (.getfield 60, 3) := by decide +kernel
theorem dX11_giveAll_31 : decode cX11_giveAll 31 = .ok (.iload 4, 2) := by decide +kernel
theorem dX11_giveAll_33 : decode cX11_giveAll 33 = .ok (.aload_n 0, 1) := by decide +kernel
theorem dX11_giveAll_34 : decode cX11_giveAll 34 = .ok (.getfield 63, 3) := by decide +kernel
theorem dX11_giveAll_37 : decode cX11_giveAll 37 = .ok (.iload 4, 2) := by decide +kernel
theorem dX11_giveAll_39 : decode cX11_giveAll 39 = .ok (.iaload, 1) := by decide +kernel
theorem dX11_giveAll_40 : decode cX11_giveAll 40 = .ok (.iastore, 1) := by decide +kernel
theorem dX11_giveAll_41 : decode cX11_giveAll 41 = .ok (.iinc 4 1, 3) := by decide +kernel
theorem dX11_giveAll_44 : decode cX11_giveAll 44 = .ok (.goto (-23), 3) := by decide +kernel
theorem dX11_giveAll_47 : decode cX11_giveAll 47 = .ok (.aload_n 0, 1) := by decide +kernel
theorem dX11_giveAll_48 : decode cX11_giveAll 48 = .ok (.iload_n 3, 1) := by decide +kernel
theorem dX11_giveAll_49 : decode cX11_giveAll 49 = .ok (.invokevirtual 244, 3) := by decide +kernel
theorem dX11_giveAll_52 : decode cX11_giveAll 52 = .ok (.istore 4, 2) := by decide +kernel
theorem dX11_giveAll_54 : decode cX11_giveAll 54 = .ok (.iload_n 1, 1) := by decide +kernel
theorem dX11_giveAll_55 : decode cX11_giveAll 55 = .ok (.aload_n 0, 1) := by decide +kernel
theorem dX11_giveAll_56 : decode cX11_giveAll 56 = .ok (.invokevirtual 223, 3) := by decide +kernel
theorem dX11_giveAll_59 : decode cX11_giveAll 59 = .ok (.iand, 1) := by decide +kernel
theorem dX11_giveAll_60 : decode cX11_giveAll 60 = .ok (.invokestatic 226, 3) := by decide +kernel
theorem dX11_giveAll_63 : decode cX11_giveAll 63 = .ok (.ireturn, 1) := by decide +kernel
theorem dX11_silent_0 : decode cX11_silent 0 = .ok (.aload_n 0, 1) := by decide +kernel
theorem dX11_silent_1 : decode cX11_silent 1 = .ok (.iload_n 1, 1) := by decide +kernel
theorem dX11_silent_2 : decode cX11_silent 2 = .ok (.invokevirtual 110, 3) := by decide +kernel
theorem dX11_silent_5 : decode cX11_silent 5 = .ok (.ifCond .ne 6, 3) := by decide +kernel
theorem dX11_silent_8 : decode cX11_silent 8 = .ok (.ldc 114, 2) := by decide +kernel
theorem dX11_silent_10 : decode cX11_silent 10 = .ok (.ireturn, 1) := by decide +kernel
theorem dX11_silent_11 : decode cX11_silent 11 = .ok (.iload_n 2, 1) := by decide +kernel
theorem dX11_silent_12 : decode cX11_silent 12 = .ok (.invokestatic 115, 3) := by decide +kernel
theorem dX11_silent_15 : decode cX11_silent 15 = .ok (.ifCond .eq 15, 3) := by decide +kernel
theorem dX11_silent_18 : decode cX11_silent 18 = .ok (.iload_n 3, 1) := by decide +kernel
theorem dX11_silent_19 : decode cX11_silent 19 = .ok (.i2l, 1) := by decide +kernel
theorem dX11_silent_20 : decode cX11_silent 20 = .ok (.lconst 0, 1) := by decide +kernel
theorem dX11_silent_21 : decode cX11_silent 21 = .ok (.ldc2_w 121, 3) := by decide +kernel
theorem dX11_silent_24 : decode cX11_silent 24 = .ok (.invokestatic 82, 3) := by decide +kernel
theorem dX11_silent_27 : decode cX11_silent 27 = .ok (.ifCond .ne 6, 3) := by decide +kernel
theorem dX11_silent_30 : decode cX11_silent 30 = .ok (.ldc 109, 2) := by decide +kernel
theorem dX11_silent_32 : decode cX11_silent 32 = .ok (.ireturn, 1) := by decide +kernel
theorem dX11_silent_33 : decode cX11_silent 33 = .ok (.aload_n 0, 1) := by decide +kernel
theorem dX11_silent_34 : decode cX11_silent 34 = .ok (.iload_n 1, 1) := by decide +kernel
theorem dX11_silent_35 : decode cX11_silent 35 = .ok (.putfield 67, 3) := by decide +kernel
theorem dX11_silent_38 : decode cX11_silent 38 = .ok (.aload_n 0, 1) := by decide +kernel
theorem dX11_silent_39 : decode cX11_silent 39 = .ok (.iload_n 2, 1) := by decide +kernel
theorem dX11_silent_40 : decode cX11_silent 40 = .ok (.putfield 256, 3) := by decide +kernel
theorem dX11_silent_43 : decode cX11_silent 43 = .ok (.aload_n 0, 1) := by decide +kernel
theorem dX11_silent_44 : decode cX11_silent 44 = .ok (.iload_n 3, 1) := by decide +kernel
theorem dX11_silent_45 : decode cX11_silent 45 = .ok (.putfield 259, 3) := by decide +kernel
theorem dX11_silent_48 : decode cX11_silent 48 = .ok (.iconst 1, 1) := by decide +kernel
theorem dX11_silent_49 : decode cX11_silent 49 = .ok (.ireturn, 1) := by decide +kernel
theorem dX11_isSeenBy_0 : decode cX11_isSeenBy 0 = .ok (.aload_n 0, 1) := by decide +kernel
theorem dX11_isSeenBy_1 : decode cX11_isSeenBy 1 = .ok (.getfield 67, 3) := by decide +kernel
theorem dX11_isSeenBy_4 : decode cX11_isSeenBy 4 = .ok (.ldc 66, 2) := by decide +kernel
theorem dX11_isSeenBy_6 : decode cX11_isSeenBy 6 = .ok (.if_icmp .eq 15, 3) := by decide +kernel
theorem dX11_isSeenBy_9 : decode cX11_isSeenBy 9 = .ok (.aload_n 0, 1) := by decide +kernel
theorem dX11_isSeenBy_10 : decode cX11_isSeenBy 10 = .ok (.getfield 256, 3) := by decide +kernel
theorem dX11_isSeenBy_13 : decode cX11_isSeenBy 13 = .ok (.iload_n 1, 1) := by decide +kernel
theorem dX11_isSeenBy_14 : decode cX11_isSeenBy 14 = .ok (.if_icmp .gt 7, 3) := by decide +kernel
theorem dX11_isSeenBy_17 : decode cX11_isSeenBy 17 = .ok (.iconst 1, 1) := by decide +kernel
theorem dX11_isSeenBy_18 : decode cX11_isSeenBy 18 = .ok (.goto 4, 3) := by decide +kernel
theorem dX11_isSeenBy_21 : decode cX11_isSeenBy 21 = .ok (.iconst 0, 1) := by decide +kernel
theorem dX11_isSeenBy_22 : decode cX11_isSeenBy 22 = .ok (.ireturn, 1) := by decide +kernel
theorem dX11_layCould_0 : decode cX11_layCould 0 = .ok (.iconst 0, 1) := by decide +kernel
theorem dX11_layCould_1 : decode cX11_layCould 1 = .ok (.istore_n 2, 1) := by decide +kernel
theorem dX11_layCould_2 : decode cX11_layCould 2 = .ok (.iload_n 2, 1) := by decide +kernel
theorem dX11_layCould_3 : decode cX11_layCould 3 = .ok (.bipush 36, 2) := by decide +kernel
theorem dX11_layCould_5 : decode cX11_layCould 5 = .ok (.if_icmp .ge 36, 3) := by decide +kernel
theorem dX11_layCould_8 : decode cX11_layCould 8 = .ok (.aload_n 0, 1) := by decide +kernel
theorem dX11_layCould_9 : decode cX11_layCould 9 = .ok (.getfield 70, 3) := by decide +kernel
theorem dX11_layCould_12 : decode cX11_layCould 12 = .ok (.iload_n 2, 1) := by decide +kernel
theorem dX11_layCould_13 : decode cX11_layCould 13 = .ok (.iload_n 2, 1) := by decide +kernel
theorem dX11_layCould_14 : decode cX11_layCould 14 = .ok (.aload_n 0, 1) := by decide +kernel
theorem dX11_layCould_15 : decode cX11_layCould 15 = .ok (.getfield 67, 3) := by decide +kernel
theorem dX11_layCould_18 : decode cX11_layCould 18 = .ok (.if_icmp .ne 15, 3) := by decide +kernel
theorem dX11_layCould_21 : decode cX11_layCould 21 = .ok (.aload_n 0, 1) := by decide +kernel
theorem dX11_layCould_22 : decode cX11_layCould 22 = .ok (.iload_n 1, 1) := by decide +kernel
theorem dX11_layCould_23 : decode cX11_layCould 23 = .ok (.invokevirtual 262, 3) := by decide +kernel
theorem dX11_layCould_26 : decode cX11_layCould 26 = .ok (.ifCond .eq 7, 3) := by decide +kernel
theorem dX11_layCould_29 : decode cX11_layCould 29 = .ok (.iconst 1, 1) := by decide +kernel
theorem dX11_layCould_30 : decode cX11_layCould 30 = .ok (.goto 4, 3) := by decide +kernel
theorem dX11_layCould_33 : decode cX11_layCould 33 = .ok (.iconst 0, 1) := by decide +kernel
theorem dX11_layCould_34 : decode cX11_layCould 34 = .ok (.bastore, 1) := by decide +kernel
theorem dX11_layCould_35 : decode cX11_layCould 35 = .ok (.iinc 2 1, 3) := by decide +kernel
theorem dX11_layCould_38 : decode cX11_layCould 38 = .ok (.goto (-36), 3) := by decide +kernel
theorem dX11_layCould_41 : decode cX11_layCould 41 = .ok (.aload_n 0, 1) := by decide +kernel
theorem dX11_layCould_42 : decode cX11_layCould 42 = .ok (.getfield 256, 3) := by decide +kernel
theorem dX11_layCould_45 : decode cX11_layCould 45 = .ok (.iconst 1, 1) := by decide +kernel
theorem dX11_layCould_46 : decode cX11_layCould 46 = .ok (.iadd, 1) := by decide +kernel
theorem dX11_layCould_47 : decode cX11_layCould 47 = .ok (.istore_n 2, 1) := by decide +kernel
theorem dX11_layCould_48 : decode cX11_layCould 48 = .ok (.iload_n 2, 1) := by decide +kernel
theorem dX11_layCould_49 : decode cX11_layCould 49 = .ok (.iload_n 1, 1) := by decide +kernel
theorem dX11_layCould_50 : decode cX11_layCould 50 = .ok (.if_icmp .gt 39, 3) := by decide +kernel
theorem dX11_layCould_53 : decode cX11_layCould 53 = .ok (.aload_n 0, 1) := by decide +kernel
theorem dX11_layCould_54 : decode cX11_layCould 54 = .ok (.getfield 67, 3) := by decide +kernel
theorem dX11_layCould_57 : decode cX11_layCould 57 = .ok (.ldc 66, 2) := by decide +kernel
theorem dX11_layCould_59 : decode cX11_layCould 59 = .ok (.if_icmp .eq 30, 3) := by decide +kernel
theorem dX11_layCould_62 : decode cX11_layCould 62 = .ok (.iconst 0, 1) := by decide +kernel
theorem dX11_layCould_63 : decode cX11_layCould 63 = .ok (.istore_n 3, 1) := by decide +kernel
theorem dX11_layCould_64 : decode cX11_layCould 64 = .ok (.iload_n 3, 1) := by decide +kernel
theorem dX11_layCould_65 : decode cX11_layCould 65 = .ok (.aload_n 0, 1) := by decide +kernel
theorem dX11_layCould_66 : decode cX11_layCould 66 = .ok (.getfield 259, 3) := by decide +kernel
theorem dX11_layCould_69 : decode cX11_layCould 69 = .ok (.if_icmp .ge 14, 3) := by decide +kernel
theorem dX11_layCould_72 : decode cX11_layCould 72 = .ok (.aload_n 0, 1) := by decide +kernel
theorem dX11_layCould_73 : decode cX11_layCould 73 = .ok (.iload_n 2, 1) := by decide +kernel
theorem dX11_layCould_74 : decode cX11_layCould 74 = .ok (.invokevirtual 265, 3) := by decide +kernel
theorem dX11_layCould_77 : decode cX11_layCould 77 = .ok (.iinc 3 1, 3) := by decide +kernel
theorem dX11_layCould_80 : decode cX11_layCould 80 = .ok (.goto (-16), 3) := by decide +kernel
theorem dX11_layCould_83 : decode cX11_layCould 83 = .ok (.iinc 2 1, 3) := by decide +kernel
theorem dX11_layCould_86 : decode cX11_layCould 86 = .ok (.goto (-38), 3) := by decide +kernel
theorem dX11_layCould_89 : decode cX11_layCould 89 = .ok (.return_, 1) := by decide +kernel
theorem dX11_spread_0 : decode cX11_spread 0 = .ok (.iconst 0, 1) := by decide +kernel
theorem dX11_spread_1 : decode cX11_spread 1 = .ok (.istore_n 2, 1) := by decide +kernel
theorem dX11_spread_2 : decode cX11_spread 2 = .ok (.iload_n 2, 1) := by decide +kernel
theorem dX11_spread_3 : decode cX11_spread 3 = .ok (.aload_n 0, 1) := by decide +kernel
theorem dX11_spread_4 : decode cX11_spread 4 = .ok (.invokevirtual 101, 3) := by decide +kernel
theorem dX11_spread_7 : decode cX11_spread 7 = .ok (.if_icmp .ge 88, 3) := by decide +kernel
theorem dX11_spread_10 : decode cX11_spread 10 = .ok (.aload_n 0, 1) := by decide +kernel
theorem dX11_spread_11 : decode cX11_spread 11 = .ok (.getfield 73, 3) := by decide +kernel
theorem dX11_spread_14 : decode cX11_spread 14 = .ok (.iload_n 2, 1) := by decide +kernel
theorem dX11_spread_15 : decode cX11_spread 15 = .ok (.aload_n 0, 1) := by decide +kernel
theorem dX11_spread_16 : decode cX11_spread 16 = .ok (.getfield 70, 3) := by decide +kernel
theorem dX11_spread_19 : decode cX11_spread 19 = .ok (.iload_n 2, 1) := by decide +kernel
theorem dX11_spread_20 : decode cX11_spread 20 = .ok (.baload, 1) := by decide +kernel
theorem dX11_spread_21 : decode cX11_spread 21 = .ok (.bastore, 1) := by decide +kernel
theorem dX11_spread_22 : decode cX11_spread 22 = .ok (.iconst 0, 1) := by decide +kernel
theorem dX11_spread_23 : decode cX11_spread 23 = .ok (.istore_n 3, 1) := by decide +kernel
theorem dX11_spread_24 : decode cX11_spread 24 = .ok (.iload_n 3, 1) := by decide +kernel
theorem dX11_spread_25 : decode cX11_spread 25 = .ok (.iconst 4, 1) := by decide +kernel
theorem dX11_spread_26 : decode cX11_spread 26 = .ok (.if_icmp .ge 63, 3) := by decide +kernel
theorem dX11_spread_29 : decode cX11_spread 29 = .ok (.aload_n 0, 1) := by decide +kernel
theorem dX11_spread_30 : decode cX11_spread 30 = .ok (.iload_n 2, 1) := by decide +kernel
theorem dX11_spread_31 : decode cX11_spread 31 = .ok (.iload_n 3, 1) := by decide +kernel
theorem dX11_spread_32 : decode cX11_spread 32 = .ok (.invokevirtual 164, 3) := by decide +kernel
theorem dX11_spread_35 : decode cX11_spread 35 = .ok (.istore 4, 2) := by decide +kernel
theorem dX11_spread_37 : decode cX11_spread 37 = .ok (.aload_n 0, 1) := by decide +kernel
theorem dX11_spread_38 : decode cX11_spread 38 = .ok (.getfield 73, 3) := by decide +kernel
theorem dX11_spread_41 : decode cX11_spread 41 = .ok (.iload_n 2, 1) := by decide +kernel
theorem dX11_spread_42 : decode cX11_spread 42 = .ok (.aload_n 0, 1) := by decide +kernel
theorem dX11_spread_43 : decode cX11_spread 43 = .ok (.getfield 73, 3) := by decide +kernel
theorem dX11_spread_46 : decode cX11_spread 46 = .ok (.iload_n 2, 1) := by decide +kernel
theorem dX11_spread_47 : decode cX11_spread 47 = .ok (.baload, 1) := by decide +kernel
theorem dX11_spread_48 : decode cX11_spread 48 = .ok (.ifCond .ne 29, 3) := by decide +kernel
theorem dX11_spread_51 : decode cX11_spread 51 = .ok (.iload 4, 2) := by decide +kernel
theorem dX11_spread_53 : decode cX11_spread 53 = .ok (.ldc 66, 2) := by decide +kernel
theorem dX11_spread_55 : decode cX11_spread 55 = .ok (.if_icmp .eq 26, 3) := by decide +kernel
theorem dX11_spread_58 : decode cX11_spread 58 = .ok (.aload_n 0, 1) := by decide +kernel
theorem dX11_spread_59 : decode cX11_spread 59 = .ok (.getfield 70, 3) := by decide +kernel
theorem dX11_spread_62 : decode cX11_spread 62 = .ok (.iload 4, 2) := by decide +kernel
theorem dX11_spread_64 : decode cX11_spread 64 = .ok (.baload, 1) := by decide +kernel
theorem dX11_spread_65 : decode cX11_spread 65 = .ok (.ifCond .eq 16, 3) := by decide +kernel
theorem dX11_spread_68 : decode cX11_spread 68 = .ok (.aload_n 0, 1) := by decide +kernel
theorem dX11_spread_69 : decode cX11_spread 69 = .ok (.iload_n 2, 1) := by decide +kernel
theorem dX11_spread_70 : decode cX11_spread 70 = .ok (.iload_n 1, 1) := by decide +kernel
theorem dX11_spread_71 : decode cX11_spread 71 = .ok (.invokevirtual 144, 3) := by decide +kernel
theorem dX11_spread_74 : decode cX11_spread 74 = .ok (.ifCond .ne 7, 3) := by decide +kernel
theorem dX11_spread_77 : decode cX11_spread 77 = .ok (.iconst 1, 1) := by decide +kernel
theorem dX11_spread_78 : decode cX11_spread 78 = .ok (.goto 4, 3) := by decide +kernel
theorem dX11_spread_81 : decode cX11_spread 81 = .ok (.iconst 0, 1) := by decide +kernel
theorem dX11_spread_82 : decode cX11_spread 82 = .ok (.bastore, 1) := by decide +kernel
theorem dX11_spread_83 : decode cX11_spread 83 = .ok (.iinc 3 1, 3) := by decide +kernel
theorem dX11_spread_86 : decode cX11_spread 86 = .ok (.goto (-62), 3) := by decide +kernel
theorem dX11_spread_89 : decode cX11_spread 89 = .ok (.iinc 2 1, 3) := by decide +kernel
theorem dX11_spread_92 : decode cX11_spread 92 = .ok (.goto (-90), 3) := by decide +kernel
theorem dX11_spread_95 : decode cX11_spread 95 = .ok (.iconst 0, 1) := by decide +kernel
theorem dX11_spread_96 : decode cX11_spread 96 = .ok (.istore_n 2, 1) := by decide +kernel
theorem dX11_spread_97 : decode cX11_spread 97 = .ok (.iload_n 2, 1) := by decide +kernel
theorem dX11_spread_98 : decode cX11_spread 98 = .ok (.aload_n 0, 1) := by decide +kernel
theorem dX11_spread_99 : decode cX11_spread 99 = .ok (.invokevirtual 101, 3) := by decide +kernel
theorem dX11_spread_102 : decode cX11_spread 102 = .ok (.if_icmp .ge 21, 3) := by decide +kernel
theorem dX11_spread_105 : decode cX11_spread 105 = .ok (.aload_n 0, 1) := by decide +kernel
theorem dX11_spread_106 : decode cX11_spread 106 = .ok (.getfield 70, 3) := by decide +kernel
theorem dX11_spread_109 : decode cX11_spread 109 = .ok (.iload_n 2, 1) := by decide +kernel
theorem dX11_spread_110 : decode cX11_spread 110 = .ok (.aload_n 0, 1) := by decide +kernel
theorem dX11_spread_111 : decode cX11_spread 111 = .ok (.getfield 73, 3) := by decide +kernel
theorem dX11_spread_114 : decode cX11_spread 114 = .ok (.iload_n 2, 1) := by decide +kernel
theorem dX11_spread_115 : decode cX11_spread 115 = .ok (.baload, 1) := by decide +kernel
theorem dX11_spread_116 : decode cX11_spread 116 = .ok (.bastore, 1) := by decide +kernel
theorem dX11_spread_117 : decode cX11_spread 117 = .ok (.iinc 2 1, 3) := by decide +kernel
theorem dX11_spread_120 : decode cX11_spread 120 = .ok (.goto (-23), 3) := by decide +kernel
theorem dX11_spread_123 : decode cX11_spread 123 = .ok (.return_, 1) := by decide +kernel
theorem dX11_could_0 : decode cX11_could 0 = .ok (.iload_n 1, 1) := by decide +kernel
theorem dX11_could_1 : decode cX11_could 1 = .ok (.invokestatic 115, 3) := by decide +kernel
theorem dX11_could_4 : decode cX11_could 4 = .ok (.ifCond .ne 6, 3) := by decide +kernel
theorem dX11_could_7 : decode cX11_could 7 = .ok (.ldc 109, 2) := by decide +kernel
theorem dX11_could_9 : decode cX11_could 9 = .ok (.ireturn, 1) := by decide +kernel
theorem dX11_could_10 : decode cX11_could 10 = .ok (.aload_n 0, 1) := by decide +kernel
theorem dX11_could_11 : decode cX11_could 11 = .ok (.iload_n 1, 1) := by decide +kernel
theorem dX11_could_12 : decode cX11_could 12 = .ok (.invokevirtual 268, 3) := by decide +kernel
theorem dX11_could_15 : decode cX11_could 15 = .ok (.iconst 0, 1) := by decide +kernel
theorem dX11_could_16 : decode cX11_could 16 = .ok (.istore_n 2, 1) := by decide +kernel
theorem dX11_could_17 : decode cX11_could 17 = .ok (.iconst 0, 1) := by decide +kernel
theorem dX11_could_18 : decode cX11_could 18 = .ok (.istore_n 3, 1) := by decide +kernel
theorem dX11_could_19 : decode cX11_could 19 = .ok (.iload_n 3, 1) := by decide +kernel
theorem dX11_could_20 : decode cX11_could 20 = .ok (.aload_n 0, 1) := by decide +kernel
theorem dX11_could_21 : decode cX11_could 21 = .ok (.invokevirtual 101, 3) := by decide +kernel
theorem dX11_could_24 : decode cX11_could 24 = .ok (.if_icmp .ge 26, 3) := by decide +kernel
theorem dX11_could_27 : decode cX11_could 27 = .ok (.iload_n 2, 1) := by decide +kernel
theorem dX11_could_28 : decode cX11_could 28 = .ok (.aload_n 0, 1) := by decide +kernel
theorem dX11_could_29 : decode cX11_could 29 = .ok (.getfield 70, 3) := by decide +kernel
theorem dX11_could_32 : decode cX11_could 32 = .ok (.iload_n 3, 1) := by decide +kernel
theorem dX11_could_33 : decode cX11_could 33 = .ok (.baload, 1) := by decide +kernel
theorem dX11_could_34 : decode cX11_could 34 = .ok (.ifCond .eq 7, 3) := by decide +kernel
theorem dX11_could_37 : decode cX11_could 37 = .ok (.iconst 1, 1) := by decide +kernel
theorem dX11_could_38 : decode cX11_could 38 = .ok (.goto 4, 3) := by decide +kernel
theorem dX11_could_41 : decode cX11_could 41 = .ok (.iconst 0, 1) := by decide +kernel
theorem dX11_could_42 : decode cX11_could 42 = .ok (.iadd, 1) := by decide +kernel
theorem dX11_could_43 : decode cX11_could 43 = .ok (.istore_n 2, 1) := by decide +kernel
theorem dX11_could_44 : decode cX11_could 44 = .ok (.iinc 3 1, 3) := by decide +kernel
theorem dX11_could_47 : decode cX11_could 47 = .ok (.goto (-28), 3) := by decide +kernel
theorem dX11_could_50 : decode cX11_could 50 = .ok (.iload_n 2, 1) := by decide +kernel
theorem dX11_could_51 : decode cX11_could 51 = .ok (.ireturn, 1) := by decide +kernel
theorem dX11_couldBe_0 : decode cX11_couldBe 0 = .ok (.aload_n 0, 1) := by decide +kernel
theorem dX11_couldBe_1 : decode cX11_couldBe 1 = .ok (.iload_n 1, 1) := by decide +kernel
theorem dX11_couldBe_2 : decode cX11_couldBe 2 = .ok (.invokevirtual 110, 3) := by decide +kernel
theorem dX11_couldBe_5 : decode cX11_couldBe 5 = .ok (.ifCond .ne 6, 3) := by decide +kernel
theorem dX11_couldBe_8 : decode cX11_couldBe 8 = .ok (.ldc 114, 2) := by decide +kernel
theorem dX11_couldBe_10 : decode cX11_couldBe 10 = .ok (.ireturn, 1) := by decide +kernel
theorem dX11_couldBe_11 : decode cX11_couldBe 11 = .ok (.iload_n 2, 1) := by decide +kernel
theorem dX11_couldBe_12 : decode cX11_couldBe 12 = .ok (.invokestatic 115, 3) := by decide +kernel
theorem dX11_couldBe_15 : decode cX11_couldBe 15 = .ok (.ifCond .ne 6, 3) := by decide +kernel
theorem dX11_couldBe_18 : decode cX11_couldBe 18 = .ok (.ldc 109, 2) := by decide +kernel
theorem dX11_couldBe_20 : decode cX11_couldBe 20 = .ok (.ireturn, 1) := by decide +kernel
theorem dX11_couldBe_21 : decode cX11_couldBe 21 = .ok (.aload_n 0, 1) := by decide +kernel
theorem dX11_couldBe_22 : decode cX11_couldBe 22 = .ok (.iload_n 2, 1) := by decide +kernel
theorem dX11_couldBe_23 : decode cX11_couldBe 23 = .ok (.invokevirtual 268, 3) := by decide +kernel
theorem dX11_couldBe_26 : decode cX11_couldBe 26 = .ok (.aload_n 0, 1) := by decide +kernel
theorem dX11_couldBe_27 : decode cX11_couldBe 27 = .ok (.getfield 70, 3) := by decide +kernel
theorem dX11_couldBe_30 : decode cX11_couldBe 30 = .ok (.iload_n 1, 1) := by decide +kernel
theorem dX11_couldBe_31 : decode cX11_couldBe 31 = .ok (.baload, 1) := by decide +kernel
theorem dX11_couldBe_32 : decode cX11_couldBe 32 = .ok (.ifCond .eq 7, 3) := by decide +kernel
theorem dX11_couldBe_35 : decode cX11_couldBe 35 = .ok (.iconst 1, 1) := by decide +kernel
theorem dX11_couldBe_36 : decode cX11_couldBe 36 = .ok (.goto 4, 3) := by decide +kernel
theorem dX11_couldBe_39 : decode cX11_couldBe 39 = .ok (.iconst 0, 1) := by decide +kernel
theorem dX11_couldBe_40 : decode cX11_couldBe 40 = .ok (.ireturn, 1) := by decide +kernel
theorem dX11_ledOf_0 : decode cX11_ledOf 0 = .ok (.aload_n 0, 1) := by decide +kernel
theorem dX11_ledOf_1 : decode cX11_ledOf 1 = .ok (.getfield 256, 3) := by decide +kernel
theorem dX11_ledOf_4 : decode cX11_ledOf 4 = .ok (.istore_n 2, 1) := by decide +kernel
theorem dX11_ledOf_5 : decode cX11_ledOf 5 = .ok (.iload_n 2, 1) := by decide +kernel
theorem dX11_ledOf_6 : decode cX11_ledOf 6 = .ok (.bipush 60, 2) := by decide +kernel
theorem dX11_ledOf_8 : decode cX11_ledOf 8 = .ok (.if_icmp .ge 46, 3) := by decide +kernel
theorem dX11_ledOf_11 : decode cX11_ledOf 11 = .ok (.aload_n 0, 1) := by decide +kernel
theorem dX11_ledOf_12 : decode cX11_ledOf 12 = .ok (.iload_n 2, 1) := by decide +kernel
theorem dX11_ledOf_13 : decode cX11_ledOf 13 = .ok (.invokevirtual 262, 3) := by decide +kernel
theorem dX11_ledOf_16 : decode cX11_ledOf 16 = .ok (.ifCond .eq 38, 3) := by decide +kernel
theorem dX11_ledOf_19 : decode cX11_ledOf 19 = .ok (.aload_n 0, 1) := by decide +kernel
theorem dX11_ledOf_20 : decode cX11_ledOf 20 = .ok (.iload_n 1, 1) := by decide +kernel
theorem dX11_ledOf_21 : decode cX11_ledOf 21 = .ok (.iload_n 2, 1) := by decide +kernel
theorem dX11_ledOf_22 : decode cX11_ledOf 22 = .ok (.invokevirtual 220, 3) := by decide +kernel
theorem dX11_ledOf_25 : decode cX11_ledOf 25 = .ok (.istore_n 3, 1) := by decide +kernel
theorem dX11_ledOf_26 : decode cX11_ledOf 26 = .ok (.aload_n 0, 1) := by decide +kernel
theorem dX11_ledOf_27 : decode cX11_ledOf 27 = .ok (.iload_n 2, 1) := by decide +kernel
theorem dX11_ledOf_28 : decode cX11_ledOf 28 = .ok (.invokevirtual 268, 3) := by decide +kernel
theorem dX11_ledOf_31 : decode cX11_ledOf 31 = .ok (.iload_n 3, 1) := by decide +kernel
theorem dX11_ledOf_32 : decode cX11_ledOf 32 = .ok (.ldc 66, 2) := by decide +kernel
theorem dX11_ledOf_34 : decode cX11_ledOf 34 = .ok (.if_icmp .eq 14, 3) := by decide +kernel
theorem dX11_ledOf_37 : decode cX11_ledOf 37 = .ok (.aload_n 0, 1) := by decide +kernel
theorem dX11_ledOf_38 : decode cX11_ledOf 38 = .ok (.getfield 70, 3) := by decide +kernel
theorem dX11_ledOf_41 : decode cX11_ledOf 41 = .ok (.iload_n 3, 1) := by decide +kernel
theorem dX11_ledOf_42 : decode cX11_ledOf 42 = .ok (.baload, 1) := by decide +kernel
theorem dX11_ledOf_43 : decode cX11_ledOf 43 = .ok (.ifCond .eq 5, 3) := by decide +kernel
theorem dX11_ledOf_46 : decode cX11_ledOf 46 = .ok (.iload_n 2, 1) := by decide +kernel
theorem dX11_ledOf_47 : decode cX11_ledOf 47 = .ok (.ireturn, 1) := by decide +kernel
theorem dX11_ledOf_48 : decode cX11_ledOf 48 = .ok (.iinc 2 1, 3) := by decide +kernel
theorem dX11_ledOf_51 : decode cX11_ledOf 51 = .ok (.goto (-46), 3) := by decide +kernel
theorem dX11_ledOf_54 : decode cX11_ledOf 54 = .ok (.ldc 66, 2) := by decide +kernel
theorem dX11_ledOf_56 : decode cX11_ledOf 56 = .ok (.ireturn, 1) := by decide +kernel
theorem dX11_ledOff_0 : decode cX11_ledOff 0 = .ok (.iconst 0, 1) := by decide +kernel
theorem dX11_ledOff_1 : decode cX11_ledOff 1 = .ok (.istore_n 1, 1) := by decide +kernel
theorem dX11_ledOff_2 : decode cX11_ledOff 2 = .ok (.iconst 0, 1) := by decide +kernel
theorem dX11_ledOff_3 : decode cX11_ledOff 3 = .ok (.istore_n 2, 1) := by decide +kernel
theorem dX11_ledOff_4 : decode cX11_ledOff 4 = .ok (.iload_n 2, 1) := by decide +kernel
theorem dX11_ledOff_5 : decode cX11_ledOff 5 = .ok (.aload_n 0, 1) := by decide +kernel
theorem dX11_ledOff_6 : decode cX11_ledOff 6 = .ok (.getfield 98, 3) := by decide +kernel
theorem dX11_ledOff_9 : decode cX11_ledOff 9 = .ok (.if_icmp .ge 36, 3) := by decide +kernel
theorem dX11_ledOff_12 : decode cX11_ledOff 12 = .ok (.iload_n 1, 1) := by decide +kernel
theorem dX11_ledOff_13 : decode cX11_ledOff 13 = .ok (.aload_n 0, 1) := by decide +kernel
theorem dX11_ledOff_14 : decode cX11_ledOff 14 = .ok (.getfield 33, 3) := by decide +kernel
theorem dX11_ledOff_17 : decode cX11_ledOff 17 = .ok (.iload_n 2, 1) := by decide +kernel
theorem dX11_ledOff_18 : decode cX11_ledOff 18 = .ok (.baload, 1) := by decide +kernel
theorem dX11_ledOff_19 : decode cX11_ledOff 19 = .ok (.ifCond .eq 17, 3) := by decide +kernel
theorem dX11_ledOff_22 : decode cX11_ledOff 22 = .ok (.aload_n 0, 1) := by decide +kernel
theorem dX11_ledOff_23 : decode cX11_ledOff 23 = .ok (.iload_n 2, 1) := by decide +kernel
theorem dX11_ledOff_24 : decode cX11_ledOff 24 = .ok (.invokevirtual 271, 3) := by decide +kernel
theorem dX11_ledOff_27 : decode cX11_ledOff 27 = .ok (.ldc 66, 2) := by decide +kernel
theorem dX11_ledOff_29 : decode cX11_ledOff 29 = .ok (.if_icmp .eq 7, 3) := by decide +kernel
theorem dX11_ledOff_32 : decode cX11_ledOff 32 = .ok (.iconst 1, 1) := by decide +kernel
theorem dX11_ledOff_33 : decode cX11_ledOff 33 = .ok (.goto 4, 3) := by decide +kernel
theorem dX11_ledOff_36 : decode cX11_ledOff 36 = .ok (.iconst 0, 1) := by decide +kernel
theorem dX11_ledOff_37 : decode cX11_ledOff 37 = .ok (.iadd, 1) := by decide +kernel
theorem dX11_ledOff_38 : decode cX11_ledOff 38 = .ok (.istore_n 1, 1) := by decide +kernel
theorem dX11_ledOff_39 : decode cX11_ledOff 39 = .ok (.iinc 2 1, 3) := by decide +kernel
theorem dX11_ledOff_42 : decode cX11_ledOff 42 = .ok (.goto (-38), 3) := by decide +kernel
theorem dX11_ledOff_45 : decode cX11_ledOff 45 = .ok (.iload_n 1, 1) := by decide +kernel
theorem dX11_ledOff_46 : decode cX11_ledOff 46 = .ok (.ireturn, 1) := by decide +kernel
theorem dX11_led_0 : decode cX11_led 0 = .ok (.iconst 0, 1) := by decide +kernel
theorem dX11_led_1 : decode cX11_led 1 = .ok (.istore_n 2, 1) := by decide +kernel
theorem dX11_led_2 : decode cX11_led 2 = .ok (.iconst 0, 1) := by decide +kernel
theorem dX11_led_3 : decode cX11_led 3 = .ok (.istore_n 3, 1) := by decide +kernel
theorem dX11_led_4 : decode cX11_led 4 = .ok (.iload_n 3, 1) := by decide +kernel
theorem dX11_led_5 : decode cX11_led 5 = .ok (.aload_n 0, 1) := by decide +kernel
theorem dX11_led_6 : decode cX11_led 6 = .ok (.getfield 98, 3) := by decide +kernel
theorem dX11_led_9 : decode cX11_led 9 = .ok (.if_icmp .ge 38, 3) := by decide +kernel
theorem dX11_led_12 : decode cX11_led 12 = .ok (.iload_n 2, 1) := by decide +kernel
theorem dX11_led_13 : decode cX11_led 13 = .ok (.aload_n 0, 1) := by decide +kernel
theorem dX11_led_14 : decode cX11_led 14 = .ok (.getfield 33, 3) := by decide +kernel
theorem dX11_led_17 : decode cX11_led 17 = .ok (.iload_n 3, 1) := by decide +kernel
theorem dX11_led_18 : decode cX11_led 18 = .ok (.baload, 1) := by decide +kernel
theorem dX11_led_19 : decode cX11_led 19 = .ok (.ifCond .eq 19, 3) := by decide +kernel
theorem dX11_led_22 : decode cX11_led 22 = .ok (.aload_n 0, 1) := by decide +kernel
theorem dX11_led_23 : decode cX11_led 23 = .ok (.iload_n 3, 1) := by decide +kernel
theorem dX11_led_24 : decode cX11_led 24 = .ok (.invokevirtual 271, 3) := by decide +kernel
theorem dX11_led_27 : decode cX11_led 27 = .ok (.ldc 66, 2) := by decide +kernel
theorem dX11_led_29 : decode cX11_led 29 = .ok (.if_icmp .eq 9, 3) := by decide +kernel
theorem dX11_led_32 : decode cX11_led 32 = .ok (.iconst 1, 1) := by decide +kernel
theorem dX11_led_33 : decode cX11_led 33 = .ok (.iload_n 3, 1) := by decide +kernel
theorem dX11_led_34 : decode cX11_led 34 = .ok (.ishl, 1) := by decide +kernel
theorem dX11_led_35 : decode cX11_led 35 = .ok (.goto 4, 3) := by decide +kernel
theorem dX11_led_38 : decode cX11_led 38 = .ok (.iconst 0, 1) := by decide +kernel
theorem dX11_led_39 : decode cX11_led 39 = .ok (.ior, 1) := by decide +kernel
theorem dX11_led_40 : decode cX11_led 40 = .ok (.istore_n 2, 1) := by decide +kernel
theorem dX11_led_41 : decode cX11_led 41 = .ok (.iinc 3 1, 3) := by decide +kernel
theorem dX11_led_44 : decode cX11_led 44 = .ok (.goto (-40), 3) := by decide +kernel
theorem dX11_led_47 : decode cX11_led 47 = .ok (.iload_n 2, 1) := by decide +kernel
theorem dX11_led_48 : decode cX11_led 48 = .ok (.iload_n 1, 1) := by decide +kernel
theorem dX11_led_49 : decode cX11_led 49 = .ok (.invokestatic 235, 3) := by decide +kernel
theorem dX11_led_52 : decode cX11_led 52 = .ok (.ireturn, 1) := by decide +kernel
theorem dX11_ledAt_0 : decode cX11_ledAt 0 = .ok (.aload_n 0, 1) := by decide +kernel
theorem dX11_ledAt_1 : decode cX11_ledAt 1 = .ok (.iload_n 1, 1) := by decide +kernel
theorem dX11_ledAt_2 : decode cX11_ledAt 2 = .ok (.invokevirtual 155, 3) := by decide +kernel
theorem dX11_ledAt_5 : decode cX11_ledAt 5 = .ok (.ifCond .ne 6, 3) := by decide +kernel
theorem dX11_ledAt_8 : decode cX11_ledAt 8 = .ok (.ldc 114, 2) := by decide +kernel
theorem dX11_ledAt_10 : decode cX11_ledAt 10 = .ok (.ireturn, 1) := by decide +kernel
theorem dX11_ledAt_11 : decode cX11_ledAt 11 = .ok (.aload_n 0, 1) := by decide +kernel
theorem dX11_ledAt_12 : decode cX11_ledAt 12 = .ok (.getfield 33, 3) := by decide +kernel
theorem dX11_ledAt_15 : decode cX11_ledAt 15 = .ok (.iload_n 1, 1) := by decide +kernel
theorem dX11_ledAt_16 : decode cX11_ledAt 16 = .ok (.baload, 1) := by decide +kernel
theorem dX11_ledAt_17 : decode cX11_ledAt 17 = .ok (.ifCond .eq 11, 3) := by decide +kernel
theorem dX11_ledAt_20 : decode cX11_ledAt 20 = .ok (.aload_n 0, 1) := by decide +kernel
theorem dX11_ledAt_21 : decode cX11_ledAt 21 = .ok (.iload_n 1, 1) := by decide +kernel
theorem dX11_ledAt_22 : decode cX11_ledAt 22 = .ok (.invokevirtual 271, 3) := by decide +kernel
theorem dX11_ledAt_25 : decode cX11_ledAt 25 = .ok (.goto 5, 3) := by decide +kernel
theorem dX11_ledAt_28 : decode cX11_ledAt 28 = .ok (.ldc 154, 2) := by decide +kernel
theorem dX11_ledAt_30 : decode cX11_ledAt 30 = .ok (.ireturn, 1) := by decide +kernel
theorem dX11_ears_0 : decode cX11_ears 0 = .ok (.aload_n 0, 1) := by decide +kernel
theorem dX11_ears_1 : decode cX11_ears 1 = .ok (.iload_n 1, 1) := by decide +kernel
theorem dX11_ears_2 : decode cX11_ears 2 = .ok (.invokevirtual 110, 3) := by decide +kernel
theorem dX11_ears_5 : decode cX11_ears 5 = .ok (.ifCond .ne 6, 3) := by decide +kernel
theorem dX11_ears_8 : decode cX11_ears 8 = .ok (.ldc 114, 2) := by decide +kernel
theorem dX11_ears_10 : decode cX11_ears 10 = .ok (.ireturn, 1) := by decide +kernel
theorem dX11_ears_11 : decode cX11_ears 11 = .ok (.iload_n 2, 1) := by decide +kernel
theorem dX11_ears_12 : decode cX11_ears 12 = .ok (.i2l, 1) := by decide +kernel
theorem dX11_ears_13 : decode cX11_ears 13 = .ok (.lconst 0, 1) := by decide +kernel
theorem dX11_ears_14 : decode cX11_ears 14 = .ok (.ldc2_w 274, 3) := by decide +kernel
theorem dX11_ears_17 : decode cX11_ears 17 = .ok (.invokestatic 82, 3) := by decide +kernel
theorem dX11_ears_20 : decode cX11_ears 20 = .ok (.ifCond .ne 6, 3) := by decide +kernel
theorem dX11_ears_23 : decode cX11_ears 23 = .ok (.ldc 109, 2) := by decide +kernel
theorem dX11_ears_25 : decode cX11_ears 25 = .ok (.ireturn, 1) := by decide +kernel
theorem dX11_ears_26 : decode cX11_ears 26 = .ok (.aload_n 0, 1) := by decide +kernel
theorem dX11_ears_27 : decode cX11_ears 27 = .ok (.getfield 20, 3) := by decide +kernel
theorem dX11_ears_30 : decode cX11_ears 30 = .ok (.iload_n 1, 1) := by decide +kernel
theorem dX11_ears_31 : decode cX11_ears 31 = .ok (.iaload, 1) := by decide +kernel
theorem dX11_ears_32 : decode cX11_ears 32 = .ok (.istore_n 3, 1) := by decide +kernel
theorem dX11_ears_33 : decode cX11_ears 33 = .ok (.aload_n 0, 1) := by decide +kernel
theorem dX11_ears_34 : decode cX11_ears 34 = .ok (.getfield 20, 3) := by decide +kernel
theorem dX11_ears_37 : decode cX11_ears 37 = .ok (.iload_n 1, 1) := by decide +kernel
theorem dX11_ears_38 : decode cX11_ears 38 = .ok (.iload_n 2, 1) := by decide +kernel
theorem dX11_ears_39 : decode cX11_ears 39 = .ok (.iastore, 1) := by decide +kernel
theorem dX11_ears_40 : decode cX11_ears 40 = .ok (.iload_n 3, 1) := by decide +kernel
theorem dX11_ears_41 : decode cX11_ears 41 = .ok (.ireturn, 1) := by decide +kernel
theorem dX11_loud_0 : decode cX11_loud 0 = .ok (.aload_n 0, 1) := by decide +kernel
theorem dX11_loud_1 : decode cX11_loud 1 = .ok (.iload_n 1, 1) := by decide +kernel
theorem dX11_loud_2 : decode cX11_loud 2 = .ok (.iload_n 2, 1) := by decide +kernel
theorem dX11_loud_3 : decode cX11_loud 3 = .ok (.invokevirtual 130, 3) := by decide +kernel
theorem dX11_loud_6 : decode cX11_loud 6 = .ok (.istore_n 3, 1) := by decide +kernel
theorem dX11_loud_7 : decode cX11_loud 7 = .ok (.aload_n 0, 1) := by decide +kernel
theorem dX11_loud_8 : decode cX11_loud 8 = .ok (.iload_n 1, 1) := by decide +kernel
theorem dX11_loud_9 : decode cX11_loud 9 = .ok (.iload_n 2, 1) := by decide +kernel
theorem dX11_loud_10 : decode cX11_loud 10 = .ok (.invokevirtual 134, 3) := by decide +kernel
theorem dX11_loud_13 : decode cX11_loud 13 = .ok (.istore 4, 2) := by decide +kernel
theorem dX11_loud_15 : decode cX11_loud 15 = .ok (.iload_n 3, 1) := by decide +kernel
theorem dX11_loud_16 : decode cX11_loud 16 = .ok (.iconst 1, 1) := by decide +kernel
theorem dX11_loud_17 : decode cX11_loud 17 = .ok (.if_icmp .gt 9, 3) := by decide +kernel
theorem dX11_loud_20 : decode cX11_loud 20 = .ok (.iload 4, 2) := by decide +kernel
theorem dX11_loud_22 : decode cX11_loud 22 = .ok (.iconst 1, 1) := by decide +kernel
theorem dX11_loud_23 : decode cX11_loud 23 = .ok (.if_icmp .le 7, 3) := by decide +kernel
theorem dX11_loud_26 : decode cX11_loud 26 = .ok (.iconst 0, 1) := by decide +kernel
theorem dX11_loud_27 : decode cX11_loud 27 = .ok (.goto 27, 3) := by decide +kernel
theorem dX11_loud_30 : decode cX11_loud 30 = .ok (.iload_n 3, 1) := by decide +kernel
theorem dX11_loud_31 : decode cX11_loud 31 = .ok (.iload 4, 2) := by decide +kernel
theorem dX11_loud_33 : decode cX11_loud 33 = .ok (.iadd, 1) := by decide +kernel
theorem dX11_loud_34 : decode cX11_loud 34 = .ok (.ifCond .ne 7, 3) := by decide +kernel
theorem dX11_loud_37 : decode cX11_loud 37 = .ok (.iconst 4, 1) := by decide +kernel
theorem dX11_loud_38 : decode cX11_loud 38 = .ok (.goto 16, 3) := by decide +kernel
theorem dX11_loud_41 : decode cX11_loud 41 = .ok (.iload_n 3, 1) := by decide +kernel
theorem dX11_loud_42 : decode cX11_loud 42 = .ok (.iload 4, 2) := by decide +kernel
theorem dX11_loud_44 : decode cX11_loud 44 = .ok (.iadd, 1) := by decide +kernel
theorem dX11_loud_45 : decode cX11_loud 45 = .ok (.iconst 1, 1) := by decide +kernel
theorem dX11_loud_46 : decode cX11_loud 46 = .ok (.if_icmp .ne 7, 3) := by decide +kernel
theorem dX11_loud_49 : decode cX11_loud 49 = .ok (.iconst 2, 1) := by decide +kernel
theorem dX11_loud_50 : decode cX11_loud 50 = .ok (.goto 4, 3) := by decide +kernel
theorem dX11_loud_53 : decode cX11_loud 53 = .ok (.iconst 1, 1) := by decide +kernel
theorem dX11_loud_54 : decode cX11_loud 54 = .ok (.ireturn, 1) := by decide +kernel
theorem dX11_noiseOf_0 : decode cX11_noiseOf 0 = .ok (.iconst 0, 1) := by decide +kernel
theorem dX11_noiseOf_1 : decode cX11_noiseOf 1 = .ok (.istore_n 2, 1) := by decide +kernel
theorem dX11_noiseOf_2 : decode cX11_noiseOf 2 = .ok (.iconst 0, 1) := by decide +kernel
theorem dX11_noiseOf_3 : decode cX11_noiseOf 3 = .ok (.istore_n 3, 1) := by decide +kernel
theorem dX11_noiseOf_4 : decode cX11_noiseOf 4 = .ok (.iload_n 3, 1) := by decide +kernel
theorem dX11_noiseOf_5 : decode cX11_noiseOf 5 = .ok (.aload_n 0, 1) := by decide +kernel
theorem dX11_noiseOf_6 : decode cX11_noiseOf 6 = .ok (.getfield 98, 3) := by decide +kernel
theorem dX11_noiseOf_9 : decode cX11_noiseOf 9 = .ok (.if_icmp .ge 76, 3) := by decide +kernel
theorem dX11_noiseOf_12 : decode cX11_noiseOf 12 = .ok (.aload_n 0, 1) := by decide +kernel
theorem dX11_noiseOf_13 : decode cX11_noiseOf 13 = .ok (.getfield 27, 3) := by decide +kernel
theorem dX11_noiseOf_16 : decode cX11_noiseOf 16 = .ok (.iload_n 3, 1) := by decide +kernel
end
section
theorem dX11_noiseOf_17 : decode cX11_noiseOf 17 = .ok (.iaload, 1) := by decide +kernel
theorem dX11_noiseOf_18 : decode cX11_noiseOf 18 = .ok (.istore 4, 2) := by decide +kernel
theorem dX11_noiseOf_20 : decode cX11_noiseOf 20 = .ok (.iload 4, 2) := by decide +kernel
theorem dX11_noiseOf_22 : decode cX11_noiseOf 22 = .ok (.aload_n 0, 1) := by decide +kernel
theorem dX11_noiseOf_23 : decode cX11_noiseOf 23 = .ok (.getfield 30, 3) := by decide +kernel
theorem dX11_noiseOf_26 : decode cX11_noiseOf 26 = .ok (.iload_n 3, 1) := by decide +kernel
theorem dX11_noiseOf_27 : decode cX11_noiseOf 27 = .ok (.iaload, 1) := by decide +kernel
theorem dX11_noiseOf_28 : decode cX11_noiseOf 28 = .ok (.if_icmp .gt 51, 3) := by decide +kernel
theorem dX11_noiseOf_31 : decode cX11_noiseOf 31 = .ok (.aload_n 0, 1) := by decide +kernel
theorem dX11_noiseOf_32 : decode cX11_noiseOf 32 = .ok (.getfield 33, 3) := by decide +kernel
theorem dX11_noiseOf_35 : decode cX11_noiseOf 35 = .ok (.iload_n 3, 1) := by decide +kernel
theorem dX11_noiseOf_36 : decode cX11_noiseOf 36 = .ok (.baload, 1) := by decide +kernel
theorem dX11_noiseOf_37 : decode cX11_noiseOf 37 = .ok (.ifCond .eq 42, 3) := by decide +kernel
theorem dX11_noiseOf_40 : decode cX11_noiseOf 40 = .ok (.iload_n 2, 1) := by decide +kernel
theorem dX11_noiseOf_41 : decode cX11_noiseOf 41 = .ok (.aload_n 0, 1) := by decide +kernel
theorem dX11_noiseOf_42 : decode cX11_noiseOf 42 = .ok (.aload_n 0, 1) := by decide +kernel
theorem dX11_noiseOf_43 : decode cX11_noiseOf 43 = .ok (.getfield 36, 3) := by decide +kernel
theorem dX11_noiseOf_46 : decode cX11_noiseOf 46 = .ok (.bipush 60, 2) := by decide +kernel
theorem dX11_noiseOf_48 : decode cX11_noiseOf 48 = .ok (.iload_n 3, 1) := by decide +kernel
theorem dX11_noiseOf_49 : decode cX11_noiseOf 49 = .ok (.imul, 1) := by decide +kernel
theorem dX11_noiseOf_50 : decode cX11_noiseOf 50 = .ok (.iload 4, 2) := by decide +kernel
theorem dX11_noiseOf_52 : decode cX11_noiseOf 52 = .ok (.iadd, 1) := by decide +kernel
theorem dX11_noiseOf_53 : decode cX11_noiseOf 53 = .ok (.iaload, 1) := by decide +kernel
theorem dX11_noiseOf_54 : decode cX11_noiseOf 54 = .ok (.iload_n 1, 1) := by decide +kernel
theorem dX11_noiseOf_55 : decode cX11_noiseOf 55 = .ok (.invokevirtual 276, 3) := by decide +kernel
theorem dX11_noiseOf_58 : decode cX11_noiseOf 58 = .ok (.aload_n 0, 1) := by decide +kernel
theorem dX11_noiseOf_59 : decode cX11_noiseOf 59 = .ok (.getfield 24, 3) := by decide +kernel
theorem dX11_noiseOf_62 : decode cX11_noiseOf 62 = .ok (.bipush 8, 2) := by decide +kernel
theorem dX11_noiseOf_64 : decode cX11_noiseOf 64 = .ok (.iload_n 3, 1) := by decide +kernel
theorem dX11_noiseOf_65 : decode cX11_noiseOf 65 = .ok (.imul, 1) := by decide +kernel
theorem dX11_noiseOf_66 : decode cX11_noiseOf 66 = .ok (.bipush 6, 2) := by decide +kernel
theorem dX11_noiseOf_68 : decode cX11_noiseOf 68 = .ok (.iadd, 1) := by decide +kernel
theorem dX11_noiseOf_69 : decode cX11_noiseOf 69 = .ok (.iaload, 1) := by decide +kernel
theorem dX11_noiseOf_70 : decode cX11_noiseOf 70 = .ok (.imul, 1) := by decide +kernel
theorem dX11_noiseOf_71 : decode cX11_noiseOf 71 = .ok (.iadd, 1) := by decide +kernel
theorem dX11_noiseOf_72 : decode cX11_noiseOf 72 = .ok (.istore_n 2, 1) := by decide +kernel
theorem dX11_noiseOf_73 : decode cX11_noiseOf 73 = .ok (.iinc 4 1, 3) := by decide +kernel
theorem dX11_noiseOf_76 : decode cX11_noiseOf 76 = .ok (.goto (-56), 3) := by decide +kernel
theorem dX11_noiseOf_79 : decode cX11_noiseOf 79 = .ok (.iinc 3 1, 3) := by decide +kernel
theorem dX11_noiseOf_82 : decode cX11_noiseOf 82 = .ok (.goto (-78), 3) := by decide +kernel
theorem dX11_noiseOf_85 : decode cX11_noiseOf 85 = .ok (.iload_n 2, 1) := by decide +kernel
theorem dX11_noiseOf_86 : decode cX11_noiseOf 86 = .ok (.aload_n 0, 1) := by decide +kernel
theorem dX11_noiseOf_87 : decode cX11_noiseOf 87 = .ok (.getfield 20, 3) := by decide +kernel
theorem dX11_noiseOf_90 : decode cX11_noiseOf 90 = .ok (.iload_n 1, 1) := by decide +kernel
theorem dX11_noiseOf_91 : decode cX11_noiseOf 91 = .ok (.iaload, 1) := by decide +kernel
theorem dX11_noiseOf_92 : decode cX11_noiseOf 92 = .ok (.imul, 1) := by decide +kernel
theorem dX11_noiseOf_93 : decode cX11_noiseOf 93 = .ok (.ireturn, 1) := by decide +kernel
theorem dX11_noise_0 : decode cX11_noise 0 = .ok (.aload_n 0, 1) := by decide +kernel
theorem dX11_noise_1 : decode cX11_noise 1 = .ok (.iload_n 1, 1) := by decide +kernel
theorem dX11_noise_2 : decode cX11_noise 2 = .ok (.invokevirtual 110, 3) := by decide +kernel
theorem dX11_noise_5 : decode cX11_noise 5 = .ok (.ifCond .eq 11, 3) := by decide +kernel
theorem dX11_noise_8 : decode cX11_noise 8 = .ok (.aload_n 0, 1) := by decide +kernel
theorem dX11_noise_9 : decode cX11_noise 9 = .ok (.iload_n 1, 1) := by decide +kernel
theorem dX11_noise_10 : decode cX11_noise 10 = .ok (.invokevirtual 279, 3) := by decide +kernel
theorem dX11_noise_13 : decode cX11_noise 13 = .ok (.goto 5, 3) := by decide +kernel
theorem dX11_noise_16 : decode cX11_noise 16 = .ok (.ldc 114, 2) := by decide +kernel
theorem dX11_noise_18 : decode cX11_noise 18 = .ok (.ireturn, 1) := by decide +kernel
theorem dX11_worst_0 : decode cX11_worst 0 = .ok (.iconst 0, 1) := by decide +kernel
theorem dX11_worst_1 : decode cX11_worst 1 = .ok (.istore_n 2, 1) := by decide +kernel
theorem dX11_worst_2 : decode cX11_worst 2 = .ok (.iconst 1, 1) := by decide +kernel
theorem dX11_worst_3 : decode cX11_worst 3 = .ok (.istore_n 3, 1) := by decide +kernel
theorem dX11_worst_4 : decode cX11_worst 4 = .ok (.iload_n 3, 1) := by decide +kernel
theorem dX11_worst_5 : decode cX11_worst 5 = .ok (.aload_n 0, 1) := by decide +kernel
theorem dX11_worst_6 : decode cX11_worst 6 = .ok (.invokevirtual 101, 3) := by decide +kernel
theorem dX11_worst_9 : decode cX11_worst 9 = .ok (.if_icmp .ge 28, 3) := by decide +kernel
theorem dX11_worst_12 : decode cX11_worst 12 = .ok (.aload_n 0, 1) := by decide +kernel
theorem dX11_worst_13 : decode cX11_worst 13 = .ok (.iload_n 3, 1) := by decide +kernel
theorem dX11_worst_14 : decode cX11_worst 14 = .ok (.invokevirtual 279, 3) := by decide +kernel
theorem dX11_worst_17 : decode cX11_worst 17 = .ok (.aload_n 0, 1) := by decide +kernel
theorem dX11_worst_18 : decode cX11_worst 18 = .ok (.iload_n 2, 1) := by decide +kernel
theorem dX11_worst_19 : decode cX11_worst 19 = .ok (.invokevirtual 279, 3) := by decide +kernel
theorem dX11_worst_22 : decode cX11_worst 22 = .ok (.if_icmp .le 7, 3) := by decide +kernel
theorem dX11_worst_25 : decode cX11_worst 25 = .ok (.iload_n 3, 1) := by decide +kernel
theorem dX11_worst_26 : decode cX11_worst 26 = .ok (.goto 4, 3) := by decide +kernel
theorem dX11_worst_29 : decode cX11_worst 29 = .ok (.iload_n 2, 1) := by decide +kernel
theorem dX11_worst_30 : decode cX11_worst 30 = .ok (.istore_n 2, 1) := by decide +kernel
theorem dX11_worst_31 : decode cX11_worst 31 = .ok (.iinc 3 1, 3) := by decide +kernel
theorem dX11_worst_34 : decode cX11_worst 34 = .ok (.goto (-30), 3) := by decide +kernel
theorem dX11_worst_37 : decode cX11_worst 37 = .ok (.iload_n 1, 1) := by decide +kernel
theorem dX11_worst_38 : decode cX11_worst 38 = .ok (.ifCond .eq 7, 3) := by decide +kernel
theorem dX11_worst_41 : decode cX11_worst 41 = .ok (.iload_n 2, 1) := by decide +kernel
theorem dX11_worst_42 : decode cX11_worst 42 = .ok (.goto 8, 3) := by decide +kernel
theorem dX11_worst_45 : decode cX11_worst 45 = .ok (.aload_n 0, 1) := by decide +kernel
theorem dX11_worst_46 : decode cX11_worst 46 = .ok (.iload_n 2, 1) := by decide +kernel
theorem dX11_worst_47 : decode cX11_worst 47 = .ok (.invokevirtual 279, 3) := by decide +kernel
theorem dX11_worst_50 : decode cX11_worst 50 = .ok (.ireturn, 1) := by decide +kernel
theorem dX11_layQuietest_0 : decode cX11_layQuietest 0 = .ok (.aload_n 0, 1) := by decide +kernel
theorem dX11_layQuietest_1 : decode cX11_layQuietest 1 = .ok (.invokevirtual 208, 3) := by decide +kernel
theorem dX11_layQuietest_4 : decode cX11_layQuietest 4 = .ok (.iconst 0, 1) := by decide +kernel
theorem dX11_layQuietest_5 : decode cX11_layQuietest 5 = .ok (.istore_n 2, 1) := by decide +kernel
theorem dX11_layQuietest_6 : decode cX11_layQuietest 6 = .ok (.iload_n 2, 1) := by decide +kernel
theorem dX11_layQuietest_7 : decode cX11_layQuietest 7 = .ok (.aload_n 0, 1) := by decide +kernel
theorem dX11_layQuietest_8 : decode cX11_layQuietest 8 = .ok (.invokevirtual 101, 3) := by decide +kernel
theorem dX11_layQuietest_11 : decode cX11_layQuietest 11 = .ok (.if_icmp .ge 67, 3) := by decide +kernel
theorem dX11_layQuietest_14 : decode cX11_layQuietest 14 = .ok (.aload_n 0, 1) := by decide +kernel
theorem dX11_layQuietest_15 : decode cX11_layQuietest 15 = .ok (.getfield 57, 3) := by decide +kernel
theorem dX11_layQuietest_18 : decode cX11_layQuietest 18 = .ok (.iload_n 2, 1) := by decide +kernel
theorem dX11_layQuietest_19 : decode cX11_layQuietest 19 = .ok (.iconst 0, 1) := by decide +kernel
theorem dX11_layQuietest_20 : decode cX11_layQuietest 20 = .ok (.iastore, 1) := by decide +kernel
theorem dX11_layQuietest_21 : decode cX11_layQuietest 21 = .ok (.iconst 0, 1) := by decide +kernel
theorem dX11_layQuietest_22 : decode cX11_layQuietest 22 = .ok (.istore_n 3, 1) := by decide +kernel
theorem dX11_layQuietest_23 : decode cX11_layQuietest 23 = .ok (.iload_n 3, 1) := by decide +kernel
theorem dX11_layQuietest_24 : decode cX11_layQuietest 24 = .ok (.aload_n 0, 1) := by decide +kernel
theorem dX11_layQuietest_25 : decode cX11_layQuietest 25 = .ok (.invokevirtual 101, 3) := by decide +kernel
theorem dX11_layQuietest_28 : decode cX11_layQuietest 28 = .ok (.if_icmp .ge 44, 3) := by decide +kernel
theorem dX11_layQuietest_31 : decode cX11_layQuietest 31 = .ok (.aload_n 0, 1) := by decide +kernel
theorem dX11_layQuietest_32 : decode cX11_layQuietest 32 = .ok (.getfield 57, 3) := by decide +kernel
theorem dX11_layQuietest_35 : decode cX11_layQuietest 35 = .ok (.iload_n 2, 1) := by decide +kernel
theorem dX11_layQuietest_36 : decode cX11_layQuietest 36 = .ok (.dup2, 1) := by decide +kernel
theorem dX11_layQuietest_37 : decode cX11_layQuietest 37 = .ok (.iaload, 1) := by decide +kernel
theorem dX11_layQuietest_38 : decode cX11_layQuietest 38 = .ok (.aload_n 0, 1) := by decide +kernel
theorem dX11_layQuietest_39 : decode cX11_layQuietest 39 = .ok (.iload_n 2, 1) := by decide +kernel
theorem dX11_layQuietest_40 : decode cX11_layQuietest 40 = .ok (.iload_n 3, 1) := by decide +kernel
theorem dX11_layQuietest_41 : decode cX11_layQuietest 41 = .ok (.invokevirtual 276, 3) := by decide +kernel
theorem dX11_layQuietest_44 : decode cX11_layQuietest 44 = .ok (.aload_n 0, 1) := by decide +kernel
theorem dX11_layQuietest_45 : decode cX11_layQuietest 45 = .ok (.getfield 20, 3) := by decide +kernel
theorem dX11_layQuietest_48 : decode cX11_layQuietest 48 = .ok (.iload_n 3, 1) := by decide +kernel
theorem dX11_layQuietest_49 : decode cX11_layQuietest 49 = .ok (.iaload, 1) := by decide +kernel
theorem dX11_layQuietest_50 : decode cX11_layQuietest 50 = .ok (.imul, 1) := by decide +kernel
theorem dX11_layQuietest_51 : decode cX11_layQuietest 51 = .ok (.aload_n 0, 1) := by decide +kernel
theorem dX11_layQuietest_52 : decode cX11_layQuietest 52 = .ok (.getfield 24, 3) := by decide +kernel
theorem dX11_layQuietest_55 : decode cX11_layQuietest 55 = .ok (.bipush 8, 2) := by decide +kernel
theorem dX11_layQuietest_57 : decode cX11_layQuietest 57 = .ok (.iload_n 1, 1) := by decide +kernel
theorem dX11_layQuietest_58 : decode cX11_layQuietest 58 = .ok (.imul, 1) := by decide +kernel
theorem dX11_layQuietest_59 : decode cX11_layQuietest 59 = .ok (.bipush 6, 2) := by decide +kernel
theorem dX11_layQuietest_61 : decode cX11_layQuietest 61 = .ok (.iadd, 1) := by decide +kernel
theorem dX11_layQuietest_62 : decode cX11_layQuietest 62 = .ok (.iaload, 1) := by decide +kernel
theorem dX11_layQuietest_63 : decode cX11_layQuietest 63 = .ok (.imul, 1) := by decide +kernel
theorem dX11_layQuietest_64 : decode cX11_layQuietest 64 = .ok (.iadd, 1) := by decide +kernel
theorem dX11_layQuietest_65 : decode cX11_layQuietest 65 = .ok (.iastore, 1) := by decide +kernel
theorem dX11_layQuietest_66 : decode cX11_layQuietest 66 = .ok (.iinc 3 1, 3) := by decide +kernel
theorem dX11_layQuietest_69 : decode cX11_layQuietest 69 = .ok (.goto (-46), 3) := by decide +kernel
theorem dX11_layQuietest_72 : decode cX11_layQuietest 72 = .ok (.iinc 2 1, 3) := by decide +kernel
theorem dX11_layQuietest_75 : decode cX11_layQuietest 75 = .ok (.goto (-69), 3) := by decide +kernel
theorem dX11_layQuietest_78 : decode cX11_layQuietest 78 = .ok (.ldc 184, 2) := by decide +kernel
theorem dX11_layQuietest_80 : decode cX11_layQuietest 80 = .ok (.istore_n 2, 1) := by decide +kernel
theorem dX11_layQuietest_81 : decode cX11_layQuietest 81 = .ok (.iconst 0, 1) := by decide +kernel
theorem dX11_layQuietest_82 : decode cX11_layQuietest 82 = .ok (.istore_n 3, 1) := by decide +kernel
theorem dX11_layQuietest_83 : decode cX11_layQuietest 83 = .ok (.iconst 0, 1) := by decide +kernel
theorem dX11_layQuietest_84 : decode cX11_layQuietest 84 = .ok (.istore 4, 2) := by decide +kernel
theorem dX11_layQuietest_86 : decode cX11_layQuietest 86 = .ok (.aload_n 0, 1) := by decide +kernel
theorem dX11_layQuietest_87 : decode cX11_layQuietest 87 = .ok (.getfield 24, 3) := by decide +kernel
theorem dX11_layQuietest_90 : decode cX11_layQuietest 90 = .ok (.bipush 8, 2) := by decide +kernel
theorem dX11_layQuietest_92 : decode cX11_layQuietest 92 = .ok (.iload_n 1, 1) := by decide +kernel
theorem dX11_layQuietest_93 : decode cX11_layQuietest 93 = .ok (.imul, 1) := by decide +kernel
theorem dX11_layQuietest_94 : decode cX11_layQuietest 94 = .ok (.iconst 2, 1) := by decide +kernel
theorem dX11_layQuietest_95 : decode cX11_layQuietest 95 = .ok (.iadd, 1) := by decide +kernel
theorem dX11_layQuietest_96 : decode cX11_layQuietest 96 = .ok (.iaload, 1) := by decide +kernel
theorem dX11_layQuietest_97 : decode cX11_layQuietest 97 = .ok (.iconst 1, 1) := by decide +kernel
theorem dX11_layQuietest_98 : decode cX11_layQuietest 98 = .ok (.iadd, 1) := by decide +kernel
theorem dX11_layQuietest_99 : decode cX11_layQuietest 99 = .ok (.istore 5, 2) := by decide +kernel
theorem dX11_layQuietest_101 : decode cX11_layQuietest 101 = .ok (.iload 5, 2) := by decide +kernel
theorem dX11_layQuietest_103 : decode cX11_layQuietest 103 = .ok (.aload_n 0, 1) := by decide +kernel
theorem dX11_layQuietest_104 : decode cX11_layQuietest 104 = .ok (.getfield 24, 3) := by decide +kernel
theorem dX11_layQuietest_107 : decode cX11_layQuietest 107 = .ok (.bipush 8, 2) := by decide +kernel
theorem dX11_layQuietest_109 : decode cX11_layQuietest 109 = .ok (.iload_n 1, 1) := by decide +kernel
theorem dX11_layQuietest_110 : decode cX11_layQuietest 110 = .ok (.imul, 1) := by decide +kernel
theorem dX11_layQuietest_111 : decode cX11_layQuietest 111 = .ok (.iconst 3, 1) := by decide +kernel
theorem dX11_layQuietest_112 : decode cX11_layQuietest 112 = .ok (.iadd, 1) := by decide +kernel
theorem dX11_layQuietest_113 : decode cX11_layQuietest 113 = .ok (.iaload, 1) := by decide +kernel
theorem dX11_layQuietest_114 : decode cX11_layQuietest 114 = .ok (.if_icmp .gt 133, 3) := by decide +kernel
theorem dX11_layQuietest_117 : decode cX11_layQuietest 117 = .ok (.iload 5, 2) := by decide +kernel
theorem dX11_layQuietest_119 : decode cX11_layQuietest 119 = .ok (.aload_n 0, 1) := by decide +kernel
theorem dX11_layQuietest_120 : decode cX11_layQuietest 120 = .ok (.getfield 24, 3) := by decide +kernel
theorem dX11_layQuietest_123 : decode cX11_layQuietest 123 = .ok (.bipush 8, 2) := by decide +kernel
theorem dX11_layQuietest_125 : decode cX11_layQuietest 125 = .ok (.iload_n 1, 1) := by decide +kernel
theorem dX11_layQuietest_126 : decode cX11_layQuietest 126 = .ok (.imul, 1) := by decide +kernel
theorem dX11_layQuietest_127 : decode cX11_layQuietest 127 = .ok (.iconst 4, 1) := by decide +kernel
theorem dX11_layQuietest_128 : decode cX11_layQuietest 128 = .ok (.iadd, 1) := by decide +kernel
theorem dX11_layQuietest_129 : decode cX11_layQuietest 129 = .ok (.iaload, 1) := by decide +kernel
theorem dX11_layQuietest_130 : decode cX11_layQuietest 130 = .ok (.isub, 1) := by decide +kernel
theorem dX11_layQuietest_131 : decode cX11_layQuietest 131 = .ok (.aload_n 0, 1) := by decide +kernel
theorem dX11_layQuietest_132 : decode cX11_layQuietest 132 = .ok (.getfield 24, 3) := by decide +kernel
theorem dX11_layQuietest_135 : decode cX11_layQuietest 135 = .ok (.bipush 8, 2) := by decide +kernel
theorem dX11_layQuietest_137 : decode cX11_layQuietest 137 = .ok (.iload_n 1, 1) := by decide +kernel
theorem dX11_layQuietest_138 : decode cX11_layQuietest 138 = .ok (.imul, 1) := by decide +kernel
theorem dX11_layQuietest_139 : decode cX11_layQuietest 139 = .ok (.iconst 2, 1) := by decide +kernel
theorem dX11_layQuietest_140 : decode cX11_layQuietest 140 = .ok (.iadd, 1) := by decide +kernel
theorem dX11_layQuietest_141 : decode cX11_layQuietest 141 = .ok (.iaload, 1) := by decide +kernel
theorem dX11_layQuietest_142 : decode cX11_layQuietest 142 = .ok (.if_icmp .le 20, 3) := by decide +kernel
theorem dX11_layQuietest_145 : decode cX11_layQuietest 145 = .ok (.iload 5, 2) := by decide +kernel
theorem dX11_layQuietest_147 : decode cX11_layQuietest 147 = .ok (.aload_n 0, 1) := by decide +kernel
theorem dX11_layQuietest_148 : decode cX11_layQuietest 148 = .ok (.getfield 24, 3) := by decide +kernel
theorem dX11_layQuietest_151 : decode cX11_layQuietest 151 = .ok (.bipush 8, 2) := by decide +kernel
theorem dX11_layQuietest_153 : decode cX11_layQuietest 153 = .ok (.iload_n 1, 1) := by decide +kernel
theorem dX11_layQuietest_154 : decode cX11_layQuietest 154 = .ok (.imul, 1) := by decide +kernel
theorem dX11_layQuietest_155 : decode cX11_layQuietest 155 = .ok (.iconst 4, 1) := by decide +kernel
theorem dX11_layQuietest_156 : decode cX11_layQuietest 156 = .ok (.iadd, 1) := by decide +kernel
theorem dX11_layQuietest_157 : decode cX11_layQuietest 157 = .ok (.iaload, 1) := by decide +kernel
theorem dX11_layQuietest_158 : decode cX11_layQuietest 158 = .ok (.isub, 1) := by decide +kernel
theorem dX11_layQuietest_159 : decode cX11_layQuietest 159 = .ok (.goto 14, 3) := by decide +kernel
theorem dX11_layQuietest_162 : decode cX11_layQuietest 162 = .ok (.aload_n 0, 1) := by decide +kernel
theorem dX11_layQuietest_163 : decode cX11_layQuietest 163 = .ok (.getfield 24, 3) := by decide +kernel
theorem dX11_layQuietest_166 : decode cX11_layQuietest 166 = .ok (.bipush 8, 2) := by decide +kernel
theorem dX11_layQuietest_168 : decode cX11_layQuietest 168 = .ok (.iload_n 1, 1) := by decide +kernel
theorem dX11_layQuietest_169 : decode cX11_layQuietest 169 = .ok (.imul, 1) := by decide +kernel
theorem dX11_layQuietest_170 : decode cX11_layQuietest 170 = .ok (.iconst 2, 1) := by decide +kernel
theorem dX11_layQuietest_171 : decode cX11_layQuietest 171 = .ok (.iadd, 1) := by decide +kernel
theorem dX11_layQuietest_172 : decode cX11_layQuietest 172 = .ok (.iaload, 1) := by decide +kernel
theorem dX11_layQuietest_173 : decode cX11_layQuietest 173 = .ok (.istore 6, 2) := by decide +kernel
theorem dX11_layQuietest_175 : decode cX11_layQuietest 175 = .ok (.aload_n 0, 1) := by decide +kernel
theorem dX11_layQuietest_176 : decode cX11_layQuietest 176 = .ok (.iload_n 1, 1) := by decide +kernel
theorem dX11_layQuietest_177 : decode cX11_layQuietest 177 = .ok (.iload 5, 2) := by decide +kernel
theorem dX11_layQuietest_179 : decode cX11_layQuietest 179 = .ok (.iload 6, 2) := by decide +kernel
theorem dX11_layQuietest_181 : decode cX11_layQuietest 181 = .ok (.invokevirtual 197, 3) := by decide +kernel
theorem dX11_layQuietest_184 : decode cX11_layQuietest 184 = .ok (.iload 5, 2) := by decide +kernel
theorem dX11_layQuietest_186 : decode cX11_layQuietest 186 = .ok (.iconst 1, 1) := by decide +kernel
theorem dX11_layQuietest_187 : decode cX11_layQuietest 187 = .ok (.isub, 1) := by decide +kernel
theorem dX11_layQuietest_188 : decode cX11_layQuietest 188 = .ok (.istore 7, 2) := by decide +kernel
theorem dX11_layQuietest_190 : decode cX11_layQuietest 190 = .ok (.iload 7, 2) := by decide +kernel
theorem dX11_layQuietest_192 : decode cX11_layQuietest 192 = .ok (.iload 6, 2) := by decide +kernel
theorem dX11_layQuietest_194 : decode cX11_layQuietest 194 = .ok (.if_icmp .lt 47, 3) := by decide +kernel
theorem dX11_layQuietest_197 : decode cX11_layQuietest 197 = .ok (.aload_n 0, 1) := by decide +kernel
theorem dX11_layQuietest_198 : decode cX11_layQuietest 198 = .ok (.getfield 54, 3) := by decide +kernel
theorem dX11_layQuietest_201 : decode cX11_layQuietest 201 = .ok (.bipush 36, 2) := by decide +kernel
theorem dX11_layQuietest_203 : decode cX11_layQuietest 203 = .ok (.iload 7, 2) := by decide +kernel
theorem dX11_layQuietest_205 : decode cX11_layQuietest 205 = .ok (.imul, 1) := by decide +kernel
theorem dX11_layQuietest_206 : decode cX11_layQuietest 206 = .ok (.aload_n 0, 1) := by decide +kernel
theorem dX11_layQuietest_207 : decode cX11_layQuietest 207 = .ok (.getfield 24, 3) := by decide +kernel
theorem dX11_layQuietest_210 : decode cX11_layQuietest 210 = .ok (.bipush 8, 2) := by decide +kernel
theorem dX11_layQuietest_212 : decode cX11_layQuietest 212 = .ok (.iload_n 1, 1) := by decide +kernel
theorem dX11_layQuietest_213 : decode cX11_layQuietest 213 = .ok (.imul, 1) := by decide +kernel
theorem dX11_layQuietest_214 : decode cX11_layQuietest 214 = .ok (.iaload, 1) := by decide +kernel
theorem dX11_layQuietest_215 : decode cX11_layQuietest 215 = .ok (.iadd, 1) := by decide +kernel
theorem dX11_layQuietest_216 : decode cX11_layQuietest 216 = .ok (.iaload, 1) := by decide +kernel
theorem dX11_layQuietest_217 : decode cX11_layQuietest 217 = .ok (.istore 8, 2) := by decide +kernel
theorem dX11_layQuietest_219 : decode cX11_layQuietest 219 = .ok (.iload 8, 2) := by decide +kernel
theorem dX11_layQuietest_221 : decode cX11_layQuietest 221 = .ok (.iload_n 2, 1) := by decide +kernel
theorem dX11_layQuietest_222 : decode cX11_layQuietest 222 = .ok (.if_icmp .ge 13, 3) := by decide +kernel
theorem dX11_layQuietest_225 : decode cX11_layQuietest 225 = .ok (.iload 8, 2) := by decide +kernel
theorem dX11_layQuietest_227 : decode cX11_layQuietest 227 = .ok (.istore_n 2, 1) := by decide +kernel
theorem dX11_layQuietest_228 : decode cX11_layQuietest 228 = .ok (.iload 7, 2) := by decide +kernel
theorem dX11_layQuietest_230 : decode cX11_layQuietest 230 = .ok (.istore_n 3, 1) := by decide +kernel
theorem dX11_layQuietest_231 : decode cX11_layQuietest 231 = .ok (.iload 5, 2) := by decide +kernel
theorem dX11_layQuietest_233 : decode cX11_layQuietest 233 = .ok (.istore 4, 2) := by decide +kernel
theorem dX11_layQuietest_235 : decode cX11_layQuietest 235 = .ok (.iinc 7 (-1), 3) := by decide +kernel
theorem dX11_layQuietest_238 : decode cX11_layQuietest 238 = .ok (.goto (-48), 3) := by decide +kernel
theorem dX11_layQuietest_241 : decode cX11_layQuietest 241 = .ok (.iinc 5 1, 3) := by decide +kernel
theorem dX11_layQuietest_244 : decode cX11_layQuietest 244 = .ok (.goto (-143), 3) := by decide +kernel
theorem dX11_layQuietest_247 : decode cX11_layQuietest 247 = .ok (.iload_n 2, 1) := by decide +kernel
theorem dX11_layQuietest_248 : decode cX11_layQuietest 248 = .ok (.ldc 184, 2) := by decide +kernel
theorem dX11_layQuietest_250 : decode cX11_layQuietest 250 = .ok (.if_icmp .ne 6, 3) := by decide +kernel
theorem dX11_layQuietest_253 : decode cX11_layQuietest 253 = .ok (.ldc 66, 2) := by decide +kernel
theorem dX11_layQuietest_255 : decode cX11_layQuietest 255 = .ok (.ireturn, 1) := by decide +kernel
theorem dX11_layQuietest_256 : decode cX11_layQuietest 256 = .ok (.aload_n 0, 1) := by decide +kernel
theorem dX11_layQuietest_257 : decode cX11_layQuietest 257 = .ok (.iload_n 3, 1) := by decide +kernel
theorem dX11_layQuietest_258 : decode cX11_layQuietest 258 = .ok (.putfield 178, 3) := by decide +kernel
theorem dX11_layQuietest_261 : decode cX11_layQuietest 261 = .ok (.aload_n 0, 1) := by decide +kernel
theorem dX11_layQuietest_262 : decode cX11_layQuietest 262 = .ok (.iload 4, 2) := by decide +kernel
theorem dX11_layQuietest_264 : decode cX11_layQuietest 264 = .ok (.putfield 181, 3) := by decide +kernel
theorem dX11_layQuietest_267 : decode cX11_layQuietest 267 = .ok (.aload_n 0, 1) := by decide +kernel
theorem dX11_layQuietest_268 : decode cX11_layQuietest 268 = .ok (.iload_n 1, 1) := by decide +kernel
theorem dX11_layQuietest_269 : decode cX11_layQuietest 269 = .ok (.iload 4, 2) := by decide +kernel
theorem dX11_layQuietest_271 : decode cX11_layQuietest 271 = .ok (.iload_n 3, 1) := by decide +kernel
theorem dX11_layQuietest_272 : decode cX11_layQuietest 272 = .ok (.invokevirtual 197, 3) := by decide +kernel
theorem dX11_layQuietest_275 : decode cX11_layQuietest 275 = .ok (.aload_n 0, 1) := by decide +kernel
theorem dX11_layQuietest_276 : decode cX11_layQuietest 276 = .ok (.iload_n 1, 1) := by decide +kernel
theorem dX11_layQuietest_277 : decode cX11_layQuietest 277 = .ok (.invokevirtual 201, 3) := by decide +kernel
theorem dX11_layQuietest_280 : decode cX11_layQuietest 280 = .ok (.iload_n 2, 1) := by decide +kernel
theorem dX11_layQuietest_281 : decode cX11_layQuietest 281 = .ok (.ireturn, 1) := by decide +kernel
theorem dX11_quietest_0 : decode cX11_quietest 0 = .ok (.aload_n 0, 1) := by decide +kernel
theorem dX11_quietest_1 : decode cX11_quietest 1 = .ok (.iload_n 1, 1) := by decide +kernel
theorem dX11_quietest_2 : decode cX11_quietest 2 = .ok (.invokevirtual 205, 3) := by decide +kernel
theorem dX11_quietest_5 : decode cX11_quietest 5 = .ok (.istore_n 2, 1) := by decide +kernel
theorem dX11_quietest_6 : decode cX11_quietest 6 = .ok (.iload_n 2, 1) := by decide +kernel
theorem dX11_quietest_7 : decode cX11_quietest 7 = .ok (.ifCond .ge 7, 3) := by decide +kernel
theorem dX11_quietest_10 : decode cX11_quietest 10 = .ok (.iload_n 2, 1) := by decide +kernel
theorem dX11_quietest_11 : decode cX11_quietest 11 = .ok (.goto 8, 3) := by decide +kernel
theorem dX11_quietest_14 : decode cX11_quietest 14 = .ok (.aload_n 0, 1) := by decide +kernel
theorem dX11_quietest_15 : decode cX11_quietest 15 = .ok (.iload_n 1, 1) := by decide +kernel
theorem dX11_quietest_16 : decode cX11_quietest 16 = .ok (.invokevirtual 282, 3) := by decide +kernel
theorem dX11_quietest_19 : decode cX11_quietest 19 = .ok (.ireturn, 1) := by decide +kernel
theorem dX11_price_0 : decode cX11_price 0 = .ok (.aload_n 0, 1) := by decide +kernel
theorem dX11_price_1 : decode cX11_price 1 = .ok (.iload_n 1, 1) := by decide +kernel
theorem dX11_price_2 : decode cX11_price 2 = .ok (.invokevirtual 205, 3) := by decide +kernel
theorem dX11_price_5 : decode cX11_price 5 = .ok (.istore_n 2, 1) := by decide +kernel
theorem dX11_price_6 : decode cX11_price 6 = .ok (.iload_n 2, 1) := by decide +kernel
theorem dX11_price_7 : decode cX11_price 7 = .ok (.ifCond .ge 5, 3) := by decide +kernel
theorem dX11_price_10 : decode cX11_price 10 = .ok (.iload_n 2, 1) := by decide +kernel
theorem dX11_price_11 : decode cX11_price 11 = .ok (.ireturn, 1) := by decide +kernel
theorem dX11_price_12 : decode cX11_price 12 = .ok (.aload_n 0, 1) := by decide +kernel
theorem dX11_price_13 : decode cX11_price 13 = .ok (.iload_n 1, 1) := by decide +kernel
theorem dX11_price_14 : decode cX11_price 14 = .ok (.invokevirtual 282, 3) := by decide +kernel
theorem dX11_price_17 : decode cX11_price 17 = .ok (.ldc 66, 2) := by decide +kernel
theorem dX11_price_19 : decode cX11_price 19 = .ok (.if_icmp .ne 6, 3) := by decide +kernel
theorem dX11_price_22 : decode cX11_price 22 = .ok (.ldc 66, 2) := by decide +kernel
theorem dX11_price_24 : decode cX11_price 24 = .ok (.ireturn, 1) := by decide +kernel
theorem dX11_price_25 : decode cX11_price 25 = .ok (.aload_n 0, 1) := by decide +kernel
theorem dX11_price_26 : decode cX11_price 26 = .ok (.getfield 181, 3) := by decide +kernel
theorem dX11_price_29 : decode cX11_price 29 = .ok (.istore_n 3, 1) := by decide +kernel
theorem dX11_price_30 : decode cX11_price 30 = .ok (.aload_n 0, 1) := by decide +kernel
theorem dX11_price_31 : decode cX11_price 31 = .ok (.iload_n 1, 1) := by decide +kernel
theorem dX11_price_32 : decode cX11_price 32 = .ok (.invokevirtual 211, 3) := by decide +kernel
theorem dX11_price_35 : decode cX11_price 35 = .ok (.istore 4, 2) := by decide +kernel
theorem dX11_price_37 : decode cX11_price 37 = .ok (.iload_n 3, 1) := by decide +kernel
theorem dX11_price_38 : decode cX11_price 38 = .ok (.aload_n 0, 1) := by decide +kernel
theorem dX11_price_39 : decode cX11_price 39 = .ok (.getfield 181, 3) := by decide +kernel
theorem dX11_price_42 : decode cX11_price 42 = .ok (.isub, 1) := by decide +kernel
theorem dX11_price_43 : decode cX11_price 43 = .ok (.ireturn, 1) := by decide +kernel
theorem dX11_quietAt_0 : decode cX11_quietAt 0 = .ok (.aload_n 0, 1) := by decide +kernel
theorem dX11_quietAt_1 : decode cX11_quietAt 1 = .ok (.iload_n 1, 1) := by decide +kernel
theorem dX11_quietAt_2 : decode cX11_quietAt 2 = .ok (.invokevirtual 155, 3) := by decide +kernel
theorem dX11_quietAt_5 : decode cX11_quietAt 5 = .ok (.ifCond .ne 6, 3) := by decide +kernel
theorem dX11_quietAt_8 : decode cX11_quietAt 8 = .ok (.ldc 114, 2) := by decide +kernel
theorem dX11_quietAt_10 : decode cX11_quietAt 10 = .ok (.ireturn, 1) := by decide +kernel
theorem dX11_quietAt_11 : decode cX11_quietAt 11 = .ok (.iload_n 2, 1) := by decide +kernel
theorem dX11_quietAt_12 : decode cX11_quietAt 12 = .ok (.i2l, 1) := by decide +kernel
theorem dX11_quietAt_13 : decode cX11_quietAt 13 = .ok (.lconst 0, 1) := by decide +kernel
theorem dX11_quietAt_14 : decode cX11_quietAt 14 = .ok (.lconst 1, 1) := by decide +kernel
theorem dX11_quietAt_15 : decode cX11_quietAt 15 = .ok (.invokestatic 82, 3) := by decide +kernel
theorem dX11_quietAt_18 : decode cX11_quietAt 18 = .ok (.ifCond .ne 6, 3) := by decide +kernel
theorem dX11_quietAt_21 : decode cX11_quietAt 21 = .ok (.ldc 109, 2) := by decide +kernel
theorem dX11_quietAt_23 : decode cX11_quietAt 23 = .ok (.ireturn, 1) := by decide +kernel
theorem dX11_quietAt_24 : decode cX11_quietAt 24 = .ok (.aload_n 0, 1) := by decide +kernel
theorem dX11_quietAt_25 : decode cX11_quietAt 25 = .ok (.getfield 33, 3) := by decide +kernel
theorem dX11_quietAt_28 : decode cX11_quietAt 28 = .ok (.iload_n 1, 1) := by decide +kernel
theorem dX11_quietAt_29 : decode cX11_quietAt 29 = .ok (.baload, 1) := by decide +kernel
theorem dX11_quietAt_30 : decode cX11_quietAt 30 = .ok (.ifCond .eq 6, 3) := by decide +kernel
theorem dX11_quietAt_33 : decode cX11_quietAt 33 = .ok (.ldc 154, 2) := by decide +kernel
theorem dX11_quietAt_35 : decode cX11_quietAt 35 = .ok (.ireturn, 1) := by decide +kernel
theorem dX11_quietAt_36 : decode cX11_quietAt 36 = .ok (.aload_n 0, 1) := by decide +kernel
theorem dX11_quietAt_37 : decode cX11_quietAt 37 = .ok (.iload_n 1, 1) := by decide +kernel
theorem dX11_quietAt_38 : decode cX11_quietAt 38 = .ok (.invokevirtual 282, 3) := by decide +kernel
theorem dX11_quietAt_41 : decode cX11_quietAt 41 = .ok (.ldc 66, 2) := by decide +kernel
theorem dX11_quietAt_43 : decode cX11_quietAt 43 = .ok (.if_icmp .ne 8, 3) := by decide +kernel
theorem dX11_quietAt_46 : decode cX11_quietAt 46 = .ok (.ldc 66, 2) := by decide +kernel
theorem dX11_quietAt_48 : decode cX11_quietAt 48 = .ok (.goto 9, 3) := by decide +kernel
theorem dX11_quietAt_51 : decode cX11_quietAt 51 = .ok (.aload_n 0, 1) := by decide +kernel
theorem dX11_quietAt_52 : decode cX11_quietAt 52 = .ok (.iload_n 2, 1) := by decide +kernel
theorem dX11_quietAt_53 : decode cX11_quietAt 53 = .ok (.iload_n 3, 1) := by decide +kernel
theorem dX11_quietAt_54 : decode cX11_quietAt 54 = .ok (.invokevirtual 214, 3) := by decide +kernel
theorem dX11_quietAt_57 : decode cX11_quietAt 57 = .ok (.ireturn, 1) := by decide +kernel
theorem dX11_giveQuiet_0 : decode cX11_giveQuiet 0 = .ok (.aload_n 0, 1) := by decide +kernel
theorem dX11_giveQuiet_1 : decode cX11_giveQuiet 1 = .ok (.iload_n 1, 1) := by decide +kernel
theorem dX11_giveQuiet_2 : decode cX11_giveQuiet 2 = .ok (.invokevirtual 205, 3) := by decide +kernel
theorem dX11_giveQuiet_5 : decode cX11_giveQuiet 5 = .ok (.istore_n 2, 1) := by decide +kernel
theorem dX11_giveQuiet_6 : decode cX11_giveQuiet 6 = .ok (.iload_n 2, 1) := by decide +kernel
theorem dX11_giveQuiet_7 : decode cX11_giveQuiet 7 = .ok (.ifCond .ge 5, 3) := by decide +kernel
theorem dX11_giveQuiet_10 : decode cX11_giveQuiet 10 = .ok (.iload_n 2, 1) := by decide +kernel
theorem dX11_giveQuiet_11 : decode cX11_giveQuiet 11 = .ok (.ireturn, 1) := by decide +kernel
theorem dX11_giveQuiet_12 : decode cX11_giveQuiet 12 = .ok (.aload_n 0, 1) := by decide +kernel
theorem dX11_giveQuiet_13 : decode cX11_giveQuiet 13 = .ok (.iload_n 1, 1) := by decide +kernel
theorem dX11_giveQuiet_14 : decode cX11_giveQuiet 14 = .ok (.invokevirtual 282, 3) := by decide +kernel
theorem dX11_giveQuiet_17 : decode cX11_giveQuiet 17 = .ok (.ldc 66, 2) := by decide +kernel
theorem dX11_giveQuiet_19 : decode cX11_giveQuiet 19 = .ok (.if_icmp .ne 6, 3) := by decide +kernel
theorem dX11_giveQuiet_22 : decode cX11_giveQuiet 22 = .ok (.ldc 154, 2) := by decide +kernel
theorem dX11_giveQuiet_24 : decode cX11_giveQuiet 24 = .ok (.ireturn, 1) := by decide +kernel
theorem dX11_giveQuiet_25 : decode cX11_giveQuiet 25 = .ok (.aload_n 0, 1) := by decide +kernel
theorem dX11_giveQuiet_26 : decode cX11_giveQuiet 26 = .ok (.iload_n 1, 1) := by decide +kernel
theorem dX11_giveQuiet_27 : decode cX11_giveQuiet 27 = .ok (.invokevirtual 217, 3) := by decide +kernel
theorem dX11_giveQuiet_30 : decode cX11_giveQuiet 30 = .ok (.aload_n 0, 1) := by decide +kernel
theorem dX11_giveQuiet_31 : decode cX11_giveQuiet 31 = .ok (.getfield 181, 3) := by decide +kernel
theorem dX11_giveQuiet_34 : decode cX11_giveQuiet 34 = .ok (.ireturn, 1) := by decide +kernel
theorem dX11_count_0 : decode cX11_count 0 = .ok (.iconst 0, 1) := by decide +kernel
theorem dX11_count_1 : decode cX11_count 1 = .ok (.istore_n 2, 1) := by decide +kernel
theorem dX11_count_2 : decode cX11_count 2 = .ok (.iconst 0, 1) := by decide +kernel
theorem dX11_count_3 : decode cX11_count 3 = .ok (.istore_n 3, 1) := by decide +kernel
theorem dX11_count_4 : decode cX11_count 4 = .ok (.iload_n 3, 1) := by decide +kernel
theorem dX11_count_5 : decode cX11_count 5 = .ok (.aload_n 0, 1) := by decide +kernel
theorem dX11_count_6 : decode cX11_count 6 = .ok (.getfield 98, 3) := by decide +kernel
theorem dX11_count_9 : decode cX11_count 9 = .ok (.if_icmp .ge 38, 3) := by decide +kernel
theorem dX11_count_12 : decode cX11_count 12 = .ok (.iload_n 2, 1) := by decide +kernel
theorem dX11_count_13 : decode cX11_count 13 = .ok (.aload_n 0, 1) := by decide +kernel
theorem dX11_count_14 : decode cX11_count 14 = .ok (.getfield 33, 3) := by decide +kernel
theorem dX11_count_17 : decode cX11_count 17 = .ok (.iload_n 3, 1) := by decide +kernel
theorem dX11_count_18 : decode cX11_count 18 = .ok (.baload, 1) := by decide +kernel
theorem dX11_count_19 : decode cX11_count 19 = .ok (.ifCond .eq 19, 3) := by decide +kernel
theorem dX11_count_22 : decode cX11_count 22 = .ok (.aload_n 0, 1) := by decide +kernel
theorem dX11_count_23 : decode cX11_count 23 = .ok (.getfield 30, 3) := by decide +kernel
theorem dX11_count_26 : decode cX11_count 26 = .ok (.iload_n 3, 1) := by decide +kernel
theorem dX11_count_27 : decode cX11_count 27 = .ok (.iaload, 1) := by decide +kernel
theorem dX11_count_28 : decode cX11_count 28 = .ok (.aload_n 0, 1) := by decide +kernel
theorem dX11_count_29 : decode cX11_count 29 = .ok (.getfield 27, 3) := by decide +kernel
theorem dX11_count_32 : decode cX11_count 32 = .ok (.iload_n 3, 1) := by decide +kernel
theorem dX11_count_33 : decode cX11_count 33 = .ok (.iaload, 1) := by decide +kernel
theorem dX11_count_34 : decode cX11_count 34 = .ok (.isub, 1) := by decide +kernel
theorem dX11_count_35 : decode cX11_count 35 = .ok (.goto 4, 3) := by decide +kernel
theorem dX11_count_38 : decode cX11_count 38 = .ok (.iconst 0, 1) := by decide +kernel
theorem dX11_count_39 : decode cX11_count 39 = .ok (.iadd, 1) := by decide +kernel
theorem dX11_count_40 : decode cX11_count 40 = .ok (.istore_n 2, 1) := by decide +kernel
theorem dX11_count_41 : decode cX11_count 41 = .ok (.iinc 3 1, 3) := by decide +kernel
theorem dX11_count_44 : decode cX11_count 44 = .ok (.goto (-40), 3) := by decide +kernel
theorem dX11_count_47 : decode cX11_count 47 = .ok (.iload_n 1, 1) := by decide +kernel
theorem dX11_count_48 : decode cX11_count 48 = .ok (.tableswitch 70 0 5 #[40, 45, 50, 55, 60, 68], 40) := by decide +kernel
theorem dX11_count_88 : decode cX11_count 88 = .ok (.aload_n 0, 1) := by decide +kernel
theorem dX11_count_89 : decode cX11_count 89 = .ok (.invokevirtual 101, 3) := by decide +kernel
theorem dX11_count_92 : decode cX11_count 92 = .ok (.ireturn, 1) := by decide +kernel
theorem dX11_count_93 : decode cX11_count 93 = .ok (.aload_n 0, 1) := by decide +kernel
theorem dX11_count_94 : decode cX11_count 94 = .ok (.getfield 92, 3) := by decide +kernel
theorem dX11_count_97 : decode cX11_count 97 = .ok (.ireturn, 1) := by decide +kernel
theorem dX11_count_98 : decode cX11_count 98 = .ok (.aload_n 0, 1) := by decide +kernel
theorem dX11_count_99 : decode cX11_count 99 = .ok (.getfield 95, 3) := by decide +kernel
theorem dX11_count_102 : decode cX11_count 102 = .ok (.ireturn, 1) := by decide +kernel
theorem dX11_count_103 : decode cX11_count 103 = .ok (.aload_n 0, 1) := by decide +kernel
theorem dX11_count_104 : decode cX11_count 104 = .ok (.getfield 98, 3) := by decide +kernel
theorem dX11_count_107 : decode cX11_count 107 = .ok (.ireturn, 1) := by decide +kernel
theorem dX11_count_108 : decode cX11_count 108 = .ok (.aload_n 0, 1) := by decide +kernel
theorem dX11_count_109 : decode cX11_count 109 = .ok (.invokevirtual 223, 3) := by decide +kernel
theorem dX11_count_112 : decode cX11_count 112 = .ok (.invokestatic 226, 3) := by decide +kernel
theorem dX11_count_115 : decode cX11_count 115 = .ok (.ireturn, 1) := by decide +kernel
theorem dX11_count_116 : decode cX11_count 116 = .ok (.iload_n 2, 1) := by decide +kernel
theorem dX11_count_117 : decode cX11_count 117 = .ok (.ireturn, 1) := by decide +kernel
theorem dX11_count_118 : decode cX11_count 118 = .ok (.ldc 109, 2) := by decide +kernel
theorem dX11_count_120 : decode cX11_count 120 = .ok (.ireturn, 1) := by decide +kernel
theorem dJ6_bitCount_0f7a4_0 : decode cJ6_bitCount_0f7a4 0 = .ok (.iload_n 0, 1) := by decide +kernel
theorem dJ6_bitCount_0f7a4_1 : decode cJ6_bitCount_0f7a4 1 = .ok (.iload_n 0, 1) := by decide +kernel
theorem dJ6_bitCount_0f7a4_2 : decode cJ6_bitCount_0f7a4 2 = .ok (.iconst 1, 1) := by decide +kernel
theorem dJ6_bitCount_0f7a4_3 : decode cJ6_bitCount_0f7a4 3 = .ok (.iushr, 1) := by decide +kernel
theorem dJ6_bitCount_0f7a4_4 : decode cJ6_bitCount_0f7a4 4 = .ok (.ldc_w 265, 3) := by decide +kernel
theorem dJ6_bitCount_0f7a4_7 : decode cJ6_bitCount_0f7a4 7 = .ok (.iand, 1) := by decide +kernel
theorem dJ6_bitCount_0f7a4_8 : decode cJ6_bitCount_0f7a4 8 = .ok (.isub, 1) := by decide +kernel
theorem dJ6_bitCount_0f7a4_9 : decode cJ6_bitCount_0f7a4 9 = .ok (.istore_n 0, 1) := by decide +kernel
theorem dJ6_bitCount_0f7a4_10 : decode cJ6_bitCount_0f7a4 10 = .ok (.iload_n 0, 1) := by decide +kernel
theorem dJ6_bitCount_0f7a4_11 : decode cJ6_bitCount_0f7a4 11 = .ok (.ldc_w 266, 3) := by decide +kernel
theorem dJ6_bitCount_0f7a4_14 : decode cJ6_bitCount_0f7a4 14 = .ok (.iand, 1) := by decide +kernel
theorem dJ6_bitCount_0f7a4_15 : decode cJ6_bitCount_0f7a4 15 = .ok (.iload_n 0, 1) := by decide +kernel
theorem dJ6_bitCount_0f7a4_16 : decode cJ6_bitCount_0f7a4 16 = .ok (.iconst 2, 1) := by decide +kernel
theorem dJ6_bitCount_0f7a4_17 : decode cJ6_bitCount_0f7a4 17 = .ok (.iushr, 1) := by decide +kernel
theorem dJ6_bitCount_0f7a4_18 : decode cJ6_bitCount_0f7a4 18 = .ok (.ldc_w 266, 3) := by decide +kernel
theorem dJ6_bitCount_0f7a4_21 : decode cJ6_bitCount_0f7a4 21 = .ok (.iand, 1) := by decide +kernel
theorem dJ6_bitCount_0f7a4_22 : decode cJ6_bitCount_0f7a4 22 = .ok (.iadd, 1) := by decide +kernel
theorem dJ6_bitCount_0f7a4_23 : decode cJ6_bitCount_0f7a4 23 = .ok (.istore_n 0, 1) := by decide +kernel
theorem dJ6_bitCount_0f7a4_24 : decode cJ6_bitCount_0f7a4 24 = .ok (.iload_n 0, 1) := by decide +kernel
theorem dJ6_bitCount_0f7a4_25 : decode cJ6_bitCount_0f7a4 25 = .ok (.iload_n 0, 1) := by decide +kernel
theorem dJ6_bitCount_0f7a4_26 : decode cJ6_bitCount_0f7a4 26 = .ok (.iconst 4, 1) := by decide +kernel
theorem dJ6_bitCount_0f7a4_27 : decode cJ6_bitCount_0f7a4 27 = .ok (.iushr, 1) := by decide +kernel
theorem dJ6_bitCount_0f7a4_28 : decode cJ6_bitCount_0f7a4 28 = .ok (.iadd, 1) := by decide +kernel
theorem dJ6_bitCount_0f7a4_29 : decode cJ6_bitCount_0f7a4 29 = .ok (.ldc_w 267, 3) := by decide +kernel
theorem dJ6_bitCount_0f7a4_32 : decode cJ6_bitCount_0f7a4 32 = .ok (.iand, 1) := by decide +kernel
theorem dJ6_bitCount_0f7a4_33 : decode cJ6_bitCount_0f7a4 33 = .ok (.istore_n 0, 1) := by decide +kernel
theorem dJ6_bitCount_0f7a4_34 : decode cJ6_bitCount_0f7a4 34 = .ok (.iload_n 0, 1) := by decide +kernel
theorem dJ6_bitCount_0f7a4_35 : decode cJ6_bitCount_0f7a4 35 = .ok (.iload_n 0, 1) := by decide +kernel
theorem dJ6_bitCount_0f7a4_36 : decode cJ6_bitCount_0f7a4 36 = .ok (.bipush 8, 2) := by decide +kernel
theorem dJ6_bitCount_0f7a4_38 : decode cJ6_bitCount_0f7a4 38 = .ok (.iushr, 1) := by decide +kernel
theorem dJ6_bitCount_0f7a4_39 : decode cJ6_bitCount_0f7a4 39 = .ok (.iadd, 1) := by decide +kernel
theorem dJ6_bitCount_0f7a4_40 : decode cJ6_bitCount_0f7a4 40 = .ok (.istore_n 0, 1) := by decide +kernel
theorem dJ6_bitCount_0f7a4_41 : decode cJ6_bitCount_0f7a4 41 = .ok (.iload_n 0, 1) := by decide +kernel
theorem dJ6_bitCount_0f7a4_42 : decode cJ6_bitCount_0f7a4 42 = .ok (.iload_n 0, 1) := by decide +kernel
theorem dJ6_bitCount_0f7a4_43 : decode cJ6_bitCount_0f7a4 43 = .ok (.bipush 16, 2) := by decide +kernel
theorem dJ6_bitCount_0f7a4_45 : decode cJ6_bitCount_0f7a4 45 = .ok (.iushr, 1) := by decide +kernel
theorem dJ6_bitCount_0f7a4_46 : decode cJ6_bitCount_0f7a4 46 = .ok (.iadd, 1) := by decide +kernel
theorem dJ6_bitCount_0f7a4_47 : decode cJ6_bitCount_0f7a4 47 = .ok (.istore_n 0, 1) := by decide +kernel
theorem dJ6_bitCount_0f7a4_48 : decode cJ6_bitCount_0f7a4 48 = .ok (.iload_n 0, 1) := by decide +kernel
theorem dJ6_bitCount_0f7a4_49 : decode cJ6_bitCount_0f7a4 49 = .ok (.bipush 63, 2) := by decide +kernel
theorem dJ6_bitCount_0f7a4_51 : decode cJ6_bitCount_0f7a4 51 = .ok (.iand, 1) := by decide +kernel
theorem dJ6_bitCount_0f7a4_52 : decode cJ6_bitCount_0f7a4 52 = .ok (.ireturn, 1) := by decide +kernel
theorem dJ13_bitCount_95d88_0 : decode cJ13_bitCount_95d88 0 = .ok (.lload_n 0, 1) := by decide +kernel
theorem dJ13_bitCount_95d88_1 : decode cJ13_bitCount_95d88 1 = .ok (.lload_n 0, 1) := by decide +kernel
theorem dJ13_bitCount_95d88_2 : decode cJ13_bitCount_95d88 2 = .ok (.iconst 1, 1) := by decide +kernel
theorem dJ13_bitCount_95d88_3 : decode cJ13_bitCount_95d88 3 = .ok (.lushr, 1) := by decide +kernel
theorem dJ13_bitCount_95d88_4 : decode cJ13_bitCount_95d88 4 = .ok (.ldc2_w 314, 3) := by decide +kernel
theorem dJ13_bitCount_95d88_7 : decode cJ13_bitCount_95d88 7 = .ok (.land, 1) := by decide +kernel
theorem dJ13_bitCount_95d88_8 : decode cJ13_bitCount_95d88 8 = .ok (.lsub, 1) := by decide +kernel
theorem dJ13_bitCount_95d88_9 : decode cJ13_bitCount_95d88 9 = .ok (.lstore_n 0, 1) := by decide +kernel
theorem dJ13_bitCount_95d88_10 : decode cJ13_bitCount_95d88 10 = .ok (.lload_n 0, 1) := by decide +kernel
theorem dJ13_bitCount_95d88_11 : decode cJ13_bitCount_95d88 11 = .ok (.ldc2_w 316, 3) := by decide +kernel
theorem dJ13_bitCount_95d88_14 : decode cJ13_bitCount_95d88 14 = .ok (.land, 1) := by decide +kernel
theorem dJ13_bitCount_95d88_15 : decode cJ13_bitCount_95d88 15 = .ok (.lload_n 0, 1) := by decide +kernel
theorem dJ13_bitCount_95d88_16 : decode cJ13_bitCount_95d88 16 = .ok (.iconst 2, 1) := by decide +kernel
theorem dJ13_bitCount_95d88_17 : decode cJ13_bitCount_95d88 17 = .ok (.lushr, 1) := by decide +kernel
theorem dJ13_bitCount_95d88_18 : decode cJ13_bitCount_95d88 18 = .ok (.ldc2_w 316, 3) := by decide +kernel
theorem dJ13_bitCount_95d88_21 : decode cJ13_bitCount_95d88 21 = .ok (.land, 1) := by decide +kernel
theorem dJ13_bitCount_95d88_22 : decode cJ13_bitCount_95d88 22 = .ok (.ladd, 1) := by decide +kernel
theorem dJ13_bitCount_95d88_23 : decode cJ13_bitCount_95d88 23 = .ok (.lstore_n 0, 1) := by decide +kernel
theorem dJ13_bitCount_95d88_24 : decode cJ13_bitCount_95d88 24 = .ok (.lload_n 0, 1) := by decide +kernel
theorem dJ13_bitCount_95d88_25 : decode cJ13_bitCount_95d88 25 = .ok (.lload_n 0, 1) := by decide +kernel
theorem dJ13_bitCount_95d88_26 : decode cJ13_bitCount_95d88 26 = .ok (.iconst 4, 1) := by decide +kernel
theorem dJ13_bitCount_95d88_27 : decode cJ13_bitCount_95d88 27 = .ok (.lushr, 1) := by decide +kernel
theorem dJ13_bitCount_95d88_28 : decode cJ13_bitCount_95d88 28 = .ok (.ladd, 1) := by decide +kernel
theorem dJ13_bitCount_95d88_29 : decode cJ13_bitCount_95d88 29 = .ok (.ldc2_w 318, 3) := by decide +kernel
theorem dJ13_bitCount_95d88_32 : decode cJ13_bitCount_95d88 32 = .ok (.land, 1) := by decide +kernel
theorem dJ13_bitCount_95d88_33 : decode cJ13_bitCount_95d88 33 = .ok (.lstore_n 0, 1) := by decide +kernel
theorem dJ13_bitCount_95d88_34 : decode cJ13_bitCount_95d88 34 = .ok (.lload_n 0, 1) := by decide +kernel
theorem dJ13_bitCount_95d88_35 : decode cJ13_bitCount_95d88 35 = .ok (.lload_n 0, 1) := by decide +kernel
theorem dJ13_bitCount_95d88_36 : decode cJ13_bitCount_95d88 36 = .ok (.bipush 8, 2) := by decide +kernel
theorem dJ13_bitCount_95d88_38 : decode cJ13_bitCount_95d88 38 = .ok (.lushr, 1) := by decide +kernel
theorem dJ13_bitCount_95d88_39 : decode cJ13_bitCount_95d88 39 = .ok (.ladd, 1) := by decide +kernel
theorem dJ13_bitCount_95d88_40 : decode cJ13_bitCount_95d88 40 = .ok (.lstore_n 0, 1) := by decide +kernel
theorem dJ13_bitCount_95d88_41 : decode cJ13_bitCount_95d88 41 = .ok (.lload_n 0, 1) := by decide +kernel
theorem dJ13_bitCount_95d88_42 : decode cJ13_bitCount_95d88 42 = .ok (.lload_n 0, 1) := by decide +kernel
theorem dJ13_bitCount_95d88_43 : decode cJ13_bitCount_95d88 43 = .ok (.bipush 16, 2) := by decide +kernel
theorem dJ13_bitCount_95d88_45 : decode cJ13_bitCount_95d88 45 = .ok (.lushr, 1) := by decide +kernel
theorem dJ13_bitCount_95d88_46 : decode cJ13_bitCount_95d88 46 = .ok (.ladd, 1) := by decide +kernel
theorem dJ13_bitCount_95d88_47 : decode cJ13_bitCount_95d88 47 = .ok (.lstore_n 0, 1) := by decide +kernel
theorem dJ13_bitCount_95d88_48 : decode cJ13_bitCount_95d88 48 = .ok (.lload_n 0, 1) := by decide +kernel
theorem dJ13_bitCount_95d88_49 : decode cJ13_bitCount_95d88 49 = .ok (.lload_n 0, 1) := by decide +kernel
theorem dJ13_bitCount_95d88_50 : decode cJ13_bitCount_95d88 50 = .ok (.bipush 32, 2) := by decide +kernel
theorem dJ13_bitCount_95d88_52 : decode cJ13_bitCount_95d88 52 = .ok (.lushr, 1) := by decide +kernel
theorem dJ13_bitCount_95d88_53 : decode cJ13_bitCount_95d88 53 = .ok (.ladd, 1) := by decide +kernel
theorem dJ13_bitCount_95d88_54 : decode cJ13_bitCount_95d88 54 = .ok (.lstore_n 0, 1) := by decide +kernel
theorem dJ13_bitCount_95d88_55 : decode cJ13_bitCount_95d88 55 = .ok (.lload_n 0, 1) := by decide +kernel
theorem dJ13_bitCount_95d88_56 : decode cJ13_bitCount_95d88 56 = .ok (.l2i, 1) := by decide +kernel
theorem dJ13_bitCount_95d88_57 : decode cJ13_bitCount_95d88 57 = .ok (.bipush 127, 2) := by decide +kernel
theorem dJ13_bitCount_95d88_59 : decode cJ13_bitCount_95d88 59 = .ok (.iand, 1) := by decide +kernel
theorem dJ13_bitCount_95d88_60 : decode cJ13_bitCount_95d88 60 = .ok (.ireturn, 1) := by decide +kernel
theorem dJ9_abs_0f7a4_0 : decode cJ9_abs_0f7a4 0 = .ok (.iload_n 0, 1) := by decide +kernel
theorem dJ9_abs_0f7a4_1 : decode cJ9_abs_0f7a4 1 = .ok (.ifCond .ge 8, 3) := by decide +kernel
theorem dJ9_abs_0f7a4_4 : decode cJ9_abs_0f7a4 4 = .ok (.iload_n 0, 1) := by decide +kernel
theorem dJ9_abs_0f7a4_5 : decode cJ9_abs_0f7a4 5 = .ok (.ineg, 1) := by decide +kernel
theorem dJ9_abs_0f7a4_6 : decode cJ9_abs_0f7a4 6 = .ok (.goto 4, 3) := by decide +kernel
theorem dJ9_abs_0f7a4_9 : decode cJ9_abs_0f7a4 9 = .ok (.iload_n 0, 1) := by decide +kernel
theorem dJ9_abs_0f7a4_10 : decode cJ9_abs_0f7a4 10 = .ok (.ireturn, 1) := by decide +kernel
theorem dJ9_max_7cf53_0 : decode cJ9_max_7cf53 0 = .ok (.iload_n 0, 1) := by decide +kernel
theorem dJ9_max_7cf53_1 : decode cJ9_max_7cf53 1 = .ok (.iload_n 1, 1) := by decide +kernel
theorem dJ9_max_7cf53_2 : decode cJ9_max_7cf53 2 = .ok (.if_icmp .lt 7, 3) := by decide +kernel
theorem dJ9_max_7cf53_5 : decode cJ9_max_7cf53 5 = .ok (.iload_n 0, 1) := by decide +kernel
theorem dJ9_max_7cf53_6 : decode cJ9_max_7cf53 6 = .ok (.goto 4, 3) := by decide +kernel
theorem dJ9_max_7cf53_9 : decode cJ9_max_7cf53 9 = .ok (.iload_n 1, 1) := by decide +kernel
theorem dJ9_max_7cf53_10 : decode cJ9_max_7cf53 10 = .ok (.ireturn, 1) := by decide +kernel
theorem dJ9_min_7cf53_0 : decode cJ9_min_7cf53 0 = .ok (.iload_n 0, 1) := by decide +kernel
theorem dJ9_min_7cf53_1 : decode cJ9_min_7cf53 1 = .ok (.iload_n 1, 1) := by decide +kernel
theorem dJ9_min_7cf53_2 : decode cJ9_min_7cf53 2 = .ok (.if_icmp .gt 7, 3) := by decide +kernel
theorem dJ9_min_7cf53_5 : decode cJ9_min_7cf53 5 = .ok (.iload_n 0, 1) := by decide +kernel
theorem dJ9_min_7cf53_6 : decode cJ9_min_7cf53 6 = .ok (.goto 4, 3) := by decide +kernel
theorem dJ9_min_7cf53_9 : decode cJ9_min_7cf53 9 = .ok (.iload_n 1, 1) := by decide +kernel
theorem dJ9_min_7cf53_10 : decode cJ9_min_7cf53 10 = .ok (.ireturn, 1) := by decide +kernel
theorem dL_law_0 : decode cL_law 0 = .ok (.new 7, 3) := by decide +kernel
theorem dL_law_3 : decode cL_law 3 = .ok (.dup, 1) := by decide +kernel
theorem dL_law_4 : decode cL_law 4 = .ok (.invokespecial 9, 3) := by decide +kernel
theorem dL_law_7 : decode cL_law 7 = .ok (.astore_n 1, 1) := by decide +kernel
theorem dL_law_8 : decode cL_law 8 = .ok (.new 10, 3) := by decide +kernel
theorem dL_law_11 : decode cL_law 11 = .ok (.dup, 1) := by decide +kernel
theorem dL_law_12 : decode cL_law 12 = .ok (.invokespecial 12, 3) := by decide +kernel
theorem dL_law_15 : decode cL_law 15 = .ok (.astore_n 2, 1) := by decide +kernel
theorem dL_law_16 : decode cL_law 16 = .ok (.iconst 0, 1) := by decide +kernel
theorem dL_law_17 : decode cL_law 17 = .ok (.istore_n 3, 1) := by decide +kernel
theorem dL_law_18 : decode cL_law 18 = .ok (.iload_n 3, 1) := by decide +kernel
theorem dL_law_19 : decode cL_law 19 = .ok (.aload_n 0, 1) := by decide +kernel
theorem dL_law_20 : decode cL_law 20 = .ok (.arraylength, 1) := by decide +kernel
theorem dL_law_21 : decode cL_law 21 = .ok (.bipush 8, 2) := by decide +kernel
theorem dL_law_23 : decode cL_law 23 = .ok (.isub, 1) := by decide +kernel
theorem dL_law_24 : decode cL_law 24 = .ok (.if_icmp .gt 1211, 3) := by decide +kernel
theorem dL_law_27 : decode cL_law 27 = .ok (.aload_n 0, 1) := by decide +kernel
theorem dL_law_28 : decode cL_law 28 = .ok (.iload_n 3, 1) := by decide +kernel
theorem dL_law_29 : decode cL_law 29 = .ok (.iaload, 1) := by decide +kernel
theorem dL_law_30 : decode cL_law 30 = .ok (.bipush 63, 2) := by decide +kernel
theorem dL_law_32 : decode cL_law 32 = .ok (.iand, 1) := by decide +kernel
theorem dL_law_33 : decode cL_law 33 = .ok (.tableswitch 1196 0 32 #[147, 180, 223, 266, 299, 332, 365, 452, 485, 508, 551, 574, 597, 620, 653, 696, 719, 752, 775, 808, 831, 874, 897, 930, 943, 966, 989, 1022, 1045, 1084, 1107, 1130, 1173], 147) := by decide +kernel
theorem dL_law_180 : decode cL_law 180 = .ok (.aload_n 1, 1) := by decide +kernel
theorem dL_law_181 : decode cL_law 181 = .ok (.aload_n 0, 1) := by decide +kernel
theorem dL_law_182 : decode cL_law 182 = .ok (.iload_n 3, 1) := by decide +kernel
theorem dL_law_183 : decode cL_law 183 = .ok (.iconst 1, 1) := by decide +kernel
theorem dL_law_184 : decode cL_law 184 = .ok (.iadd, 1) := by decide +kernel
theorem dL_law_185 : decode cL_law 185 = .ok (.iaload, 1) := by decide +kernel
theorem dL_law_186 : decode cL_law 186 = .ok (.aload_n 0, 1) := by decide +kernel
theorem dL_law_187 : decode cL_law 187 = .ok (.iload_n 3, 1) := by decide +kernel
theorem dL_law_188 : decode cL_law 188 = .ok (.iconst 2, 1) := by decide +kernel
theorem dL_law_189 : decode cL_law 189 = .ok (.iadd, 1) := by decide +kernel
theorem dL_law_190 : decode cL_law 190 = .ok (.iaload, 1) := by decide +kernel
theorem dL_law_191 : decode cL_law 191 = .ok (.invokevirtual 13, 3) := by decide +kernel
theorem dL_law_194 : decode cL_law 194 = .ok (.aload_n 2, 1) := by decide +kernel
theorem dL_law_195 : decode cL_law 195 = .ok (.aload_n 0, 1) := by decide +kernel
theorem dL_law_196 : decode cL_law 196 = .ok (.iload_n 3, 1) := by decide +kernel
theorem dL_law_197 : decode cL_law 197 = .ok (.iconst 1, 1) := by decide +kernel
theorem dL_law_198 : decode cL_law 198 = .ok (.iadd, 1) := by decide +kernel
theorem dL_law_199 : decode cL_law 199 = .ok (.iaload, 1) := by decide +kernel
theorem dL_law_200 : decode cL_law 200 = .ok (.aload_n 0, 1) := by decide +kernel
theorem dL_law_201 : decode cL_law 201 = .ok (.iload_n 3, 1) := by decide +kernel
theorem dL_law_202 : decode cL_law 202 = .ok (.iconst 2, 1) := by decide +kernel
theorem dL_law_203 : decode cL_law 203 = .ok (.iadd, 1) := by decide +kernel
theorem dL_law_204 : decode cL_law 204 = .ok (.iaload, 1) := by decide +kernel
theorem dL_law_205 : decode cL_law 205 = .ok (.invokevirtual 17, 3) := by decide +kernel
theorem dL_law_208 : decode cL_law 208 = .ok (.if_icmp .eq 1021, 3) := by decide +kernel
theorem dL_law_211 : decode cL_law 211 = .ok (.iconst 0, 1) := by decide +kernel
theorem dL_law_212 : decode cL_law 212 = .ok (.ireturn, 1) := by decide +kernel
theorem dL_law_213 : decode cL_law 213 = .ok (.aload_n 1, 1) := by decide +kernel
theorem dL_law_214 : decode cL_law 214 = .ok (.aload_n 0, 1) := by decide +kernel
theorem dL_law_215 : decode cL_law 215 = .ok (.iload_n 3, 1) := by decide +kernel
theorem dL_law_216 : decode cL_law 216 = .ok (.iconst 1, 1) := by decide +kernel
theorem dL_law_217 : decode cL_law 217 = .ok (.iadd, 1) := by decide +kernel
theorem dL_law_218 : decode cL_law 218 = .ok (.iaload, 1) := by decide +kernel
theorem dL_law_219 : decode cL_law 219 = .ok (.aload_n 0, 1) := by decide +kernel
theorem dL_law_220 : decode cL_law 220 = .ok (.iload_n 3, 1) := by decide +kernel
theorem dL_law_221 : decode cL_law 221 = .ok (.iconst 2, 1) := by decide +kernel
theorem dL_law_222 : decode cL_law 222 = .ok (.iadd, 1) := by decide +kernel
theorem dL_law_223 : decode cL_law 223 = .ok (.iaload, 1) := by decide +kernel
theorem dL_law_224 : decode cL_law 224 = .ok (.aload_n 0, 1) := by decide +kernel
theorem dL_law_225 : decode cL_law 225 = .ok (.iload_n 3, 1) := by decide +kernel
theorem dL_law_226 : decode cL_law 226 = .ok (.iconst 3, 1) := by decide +kernel
theorem dL_law_227 : decode cL_law 227 = .ok (.iadd, 1) := by decide +kernel
theorem dL_law_228 : decode cL_law 228 = .ok (.iaload, 1) := by decide +kernel
theorem dL_law_229 : decode cL_law 229 = .ok (.invokevirtual 18, 3) := by decide +kernel
theorem dL_law_232 : decode cL_law 232 = .ok (.aload_n 2, 1) := by decide +kernel
theorem dL_law_233 : decode cL_law 233 = .ok (.aload_n 0, 1) := by decide +kernel
theorem dL_law_234 : decode cL_law 234 = .ok (.iload_n 3, 1) := by decide +kernel
theorem dL_law_235 : decode cL_law 235 = .ok (.iconst 1, 1) := by decide +kernel
theorem dL_law_236 : decode cL_law 236 = .ok (.iadd, 1) := by decide +kernel
theorem dL_law_237 : decode cL_law 237 = .ok (.iaload, 1) := by decide +kernel
theorem dL_law_238 : decode cL_law 238 = .ok (.aload_n 0, 1) := by decide +kernel
theorem dL_law_239 : decode cL_law 239 = .ok (.iload_n 3, 1) := by decide +kernel
theorem dL_law_240 : decode cL_law 240 = .ok (.iconst 2, 1) := by decide +kernel
theorem dL_law_241 : decode cL_law 241 = .ok (.iadd, 1) := by decide +kernel
theorem dL_law_242 : decode cL_law 242 = .ok (.iaload, 1) := by decide +kernel
theorem dL_law_243 : decode cL_law 243 = .ok (.aload_n 0, 1) := by decide +kernel
theorem dL_law_244 : decode cL_law 244 = .ok (.iload_n 3, 1) := by decide +kernel
theorem dL_law_245 : decode cL_law 245 = .ok (.iconst 3, 1) := by decide +kernel
theorem dL_law_246 : decode cL_law 246 = .ok (.iadd, 1) := by decide +kernel
theorem dL_law_247 : decode cL_law 247 = .ok (.iaload, 1) := by decide +kernel
theorem dL_law_248 : decode cL_law 248 = .ok (.invokevirtual 22, 3) := by decide +kernel
theorem dL_law_251 : decode cL_law 251 = .ok (.if_icmp .eq 978, 3) := by decide +kernel
theorem dL_law_254 : decode cL_law 254 = .ok (.iconst 0, 1) := by decide +kernel
theorem dL_law_255 : decode cL_law 255 = .ok (.ireturn, 1) := by decide +kernel
theorem dL_law_256 : decode cL_law 256 = .ok (.aload_n 1, 1) := by decide +kernel
theorem dL_law_257 : decode cL_law 257 = .ok (.aload_n 0, 1) := by decide +kernel
theorem dL_law_258 : decode cL_law 258 = .ok (.iload_n 3, 1) := by decide +kernel
theorem dL_law_259 : decode cL_law 259 = .ok (.iconst 1, 1) := by decide +kernel
theorem dL_law_260 : decode cL_law 260 = .ok (.iadd, 1) := by decide +kernel
theorem dL_law_261 : decode cL_law 261 = .ok (.iaload, 1) := by decide +kernel
theorem dL_law_262 : decode cL_law 262 = .ok (.aload_n 0, 1) := by decide +kernel
theorem dL_law_263 : decode cL_law 263 = .ok (.iload_n 3, 1) := by decide +kernel
theorem dL_law_264 : decode cL_law 264 = .ok (.iconst 2, 1) := by decide +kernel
theorem dL_law_265 : decode cL_law 265 = .ok (.iadd, 1) := by decide +kernel
theorem dL_law_266 : decode cL_law 266 = .ok (.iaload, 1) := by decide +kernel
theorem dL_law_267 : decode cL_law 267 = .ok (.aload_n 0, 1) := by decide +kernel
theorem dL_law_268 : decode cL_law 268 = .ok (.iload_n 3, 1) := by decide +kernel
theorem dL_law_269 : decode cL_law 269 = .ok (.iconst 3, 1) := by decide +kernel
theorem dL_law_270 : decode cL_law 270 = .ok (.iadd, 1) := by decide +kernel
theorem dL_law_271 : decode cL_law 271 = .ok (.iaload, 1) := by decide +kernel
theorem dL_law_272 : decode cL_law 272 = .ok (.invokevirtual 23, 3) := by decide +kernel
theorem dL_law_275 : decode cL_law 275 = .ok (.aload_n 2, 1) := by decide +kernel
theorem dL_law_276 : decode cL_law 276 = .ok (.aload_n 0, 1) := by decide +kernel
theorem dL_law_277 : decode cL_law 277 = .ok (.iload_n 3, 1) := by decide +kernel
theorem dL_law_278 : decode cL_law 278 = .ok (.iconst 1, 1) := by decide +kernel
theorem dL_law_279 : decode cL_law 279 = .ok (.iadd, 1) := by decide +kernel
theorem dL_law_280 : decode cL_law 280 = .ok (.iaload, 1) := by decide +kernel
theorem dL_law_281 : decode cL_law 281 = .ok (.aload_n 0, 1) := by decide +kernel
theorem dL_law_282 : decode cL_law 282 = .ok (.iload_n 3, 1) := by decide +kernel
theorem dL_law_283 : decode cL_law 283 = .ok (.iconst 2, 1) := by decide +kernel
theorem dL_law_284 : decode cL_law 284 = .ok (.iadd, 1) := by decide +kernel
theorem dL_law_285 : decode cL_law 285 = .ok (.iaload, 1) := by decide +kernel
theorem dL_law_286 : decode cL_law 286 = .ok (.aload_n 0, 1) := by decide +kernel
theorem dL_law_287 : decode cL_law 287 = .ok (.iload_n 3, 1) := by decide +kernel
theorem dL_law_288 : decode cL_law 288 = .ok (.iconst 3, 1) := by decide +kernel
theorem dL_law_289 : decode cL_law 289 = .ok (.iadd, 1) := by decide +kernel
theorem dL_law_290 : decode cL_law 290 = .ok (.iaload, 1) := by decide +kernel
theorem dL_law_291 : decode cL_law 291 = .ok (.invokevirtual 26, 3) := by decide +kernel
theorem dL_law_294 : decode cL_law 294 = .ok (.if_icmp .eq 935, 3) := by decide +kernel
theorem dL_law_297 : decode cL_law 297 = .ok (.iconst 0, 1) := by decide +kernel
theorem dL_law_298 : decode cL_law 298 = .ok (.ireturn, 1) := by decide +kernel
theorem dL_law_299 : decode cL_law 299 = .ok (.aload_n 1, 1) := by decide +kernel
theorem dL_law_300 : decode cL_law 300 = .ok (.aload_n 0, 1) := by decide +kernel
theorem dL_law_301 : decode cL_law 301 = .ok (.iload_n 3, 1) := by decide +kernel
theorem dL_law_302 : decode cL_law 302 = .ok (.iconst 1, 1) := by decide +kernel
theorem dL_law_303 : decode cL_law 303 = .ok (.iadd, 1) := by decide +kernel
theorem dL_law_304 : decode cL_law 304 = .ok (.iaload, 1) := by decide +kernel
theorem dL_law_305 : decode cL_law 305 = .ok (.aload_n 0, 1) := by decide +kernel
theorem dL_law_306 : decode cL_law 306 = .ok (.iload_n 3, 1) := by decide +kernel
theorem dL_law_307 : decode cL_law 307 = .ok (.iconst 2, 1) := by decide +kernel
theorem dL_law_308 : decode cL_law 308 = .ok (.iadd, 1) := by decide +kernel
theorem dL_law_309 : decode cL_law 309 = .ok (.iaload, 1) := by decide +kernel
theorem dL_law_310 : decode cL_law 310 = .ok (.invokevirtual 27, 3) := by decide +kernel
theorem dL_law_313 : decode cL_law 313 = .ok (.aload_n 2, 1) := by decide +kernel
theorem dL_law_314 : decode cL_law 314 = .ok (.aload_n 0, 1) := by decide +kernel
theorem dL_law_315 : decode cL_law 315 = .ok (.iload_n 3, 1) := by decide +kernel
theorem dL_law_316 : decode cL_law 316 = .ok (.iconst 1, 1) := by decide +kernel
theorem dL_law_317 : decode cL_law 317 = .ok (.iadd, 1) := by decide +kernel
theorem dL_law_318 : decode cL_law 318 = .ok (.iaload, 1) := by decide +kernel
theorem dL_law_319 : decode cL_law 319 = .ok (.aload_n 0, 1) := by decide +kernel
theorem dL_law_320 : decode cL_law 320 = .ok (.iload_n 3, 1) := by decide +kernel
theorem dL_law_321 : decode cL_law 321 = .ok (.iconst 2, 1) := by decide +kernel
theorem dL_law_322 : decode cL_law 322 = .ok (.iadd, 1) := by decide +kernel
theorem dL_law_323 : decode cL_law 323 = .ok (.iaload, 1) := by decide +kernel
theorem dL_law_324 : decode cL_law 324 = .ok (.invokevirtual 30, 3) := by decide +kernel
theorem dL_law_327 : decode cL_law 327 = .ok (.if_icmp .eq 902, 3) := by decide +kernel
theorem dL_law_330 : decode cL_law 330 = .ok (.iconst 0, 1) := by decide +kernel
theorem dL_law_331 : decode cL_law 331 = .ok (.ireturn, 1) := by decide +kernel
theorem dL_law_332 : decode cL_law 332 = .ok (.aload_n 1, 1) := by decide +kernel
theorem dL_law_333 : decode cL_law 333 = .ok (.aload_n 0, 1) := by decide +kernel
theorem dL_law_334 : decode cL_law 334 = .ok (.iload_n 3, 1) := by decide +kernel
theorem dL_law_335 : decode cL_law 335 = .ok (.iconst 1, 1) := by decide +kernel
theorem dL_law_336 : decode cL_law 336 = .ok (.iadd, 1) := by decide +kernel
theorem dL_law_337 : decode cL_law 337 = .ok (.iaload, 1) := by decide +kernel
theorem dL_law_338 : decode cL_law 338 = .ok (.aload_n 0, 1) := by decide +kernel
theorem dL_law_339 : decode cL_law 339 = .ok (.iload_n 3, 1) := by decide +kernel
theorem dL_law_340 : decode cL_law 340 = .ok (.iconst 2, 1) := by decide +kernel
theorem dL_law_341 : decode cL_law 341 = .ok (.iadd, 1) := by decide +kernel
theorem dL_law_342 : decode cL_law 342 = .ok (.iaload, 1) := by decide +kernel
theorem dL_law_343 : decode cL_law 343 = .ok (.invokevirtual 31, 3) := by decide +kernel
theorem dL_law_346 : decode cL_law 346 = .ok (.aload_n 2, 1) := by decide +kernel
theorem dL_law_347 : decode cL_law 347 = .ok (.aload_n 0, 1) := by decide +kernel
theorem dL_law_348 : decode cL_law 348 = .ok (.iload_n 3, 1) := by decide +kernel
theorem dL_law_349 : decode cL_law 349 = .ok (.iconst 1, 1) := by decide +kernel
theorem dL_law_350 : decode cL_law 350 = .ok (.iadd, 1) := by decide +kernel
theorem dL_law_351 : decode cL_law 351 = .ok (.iaload, 1) := by decide +kernel
theorem dL_law_352 : decode cL_law 352 = .ok (.aload_n 0, 1) := by decide +kernel
theorem dL_law_353 : decode cL_law 353 = .ok (.iload_n 3, 1) := by decide +kernel
theorem dL_law_354 : decode cL_law 354 = .ok (.iconst 2, 1) := by decide +kernel
theorem dL_law_355 : decode cL_law 355 = .ok (.iadd, 1) := by decide +kernel
theorem dL_law_356 : decode cL_law 356 = .ok (.iaload, 1) := by decide +kernel
theorem dL_law_357 : decode cL_law 357 = .ok (.invokevirtual 34, 3) := by decide +kernel
theorem dL_law_360 : decode cL_law 360 = .ok (.if_icmp .eq 869, 3) := by decide +kernel
theorem dL_law_363 : decode cL_law 363 = .ok (.iconst 0, 1) := by decide +kernel
theorem dL_law_364 : decode cL_law 364 = .ok (.ireturn, 1) := by decide +kernel
theorem dL_law_365 : decode cL_law 365 = .ok (.aload_n 1, 1) := by decide +kernel
theorem dL_law_366 : decode cL_law 366 = .ok (.aload_n 0, 1) := by decide +kernel
theorem dL_law_367 : decode cL_law 367 = .ok (.iload_n 3, 1) := by decide +kernel
theorem dL_law_368 : decode cL_law 368 = .ok (.iconst 1, 1) := by decide +kernel
theorem dL_law_369 : decode cL_law 369 = .ok (.iadd, 1) := by decide +kernel
theorem dL_law_370 : decode cL_law 370 = .ok (.iaload, 1) := by decide +kernel
theorem dL_law_371 : decode cL_law 371 = .ok (.aload_n 0, 1) := by decide +kernel
theorem dL_law_372 : decode cL_law 372 = .ok (.iload_n 3, 1) := by decide +kernel
theorem dL_law_373 : decode cL_law 373 = .ok (.iconst 2, 1) := by decide +kernel
theorem dL_law_374 : decode cL_law 374 = .ok (.iadd, 1) := by decide +kernel
theorem dL_law_375 : decode cL_law 375 = .ok (.iaload, 1) := by decide +kernel
theorem dL_law_376 : decode cL_law 376 = .ok (.invokevirtual 35, 3) := by decide +kernel
theorem dL_law_379 : decode cL_law 379 = .ok (.aload_n 2, 1) := by decide +kernel
theorem dL_law_380 : decode cL_law 380 = .ok (.aload_n 0, 1) := by decide +kernel
theorem dL_law_381 : decode cL_law 381 = .ok (.iload_n 3, 1) := by decide +kernel
theorem dL_law_382 : decode cL_law 382 = .ok (.iconst 1, 1) := by decide +kernel
theorem dL_law_383 : decode cL_law 383 = .ok (.iadd, 1) := by decide +kernel
theorem dL_law_384 : decode cL_law 384 = .ok (.iaload, 1) := by decide +kernel
theorem dL_law_385 : decode cL_law 385 = .ok (.aload_n 0, 1) := by decide +kernel
theorem dL_law_386 : decode cL_law 386 = .ok (.iload_n 3, 1) := by decide +kernel
theorem dL_law_387 : decode cL_law 387 = .ok (.iconst 2, 1) := by decide +kernel
theorem dL_law_388 : decode cL_law 388 = .ok (.iadd, 1) := by decide +kernel
theorem dL_law_389 : decode cL_law 389 = .ok (.iaload, 1) := by decide +kernel
theorem dL_law_390 : decode cL_law 390 = .ok (.invokevirtual 38, 3) := by decide +kernel
theorem dL_law_393 : decode cL_law 393 = .ok (.if_icmp .eq 836, 3) := by decide +kernel
theorem dL_law_396 : decode cL_law 396 = .ok (.iconst 0, 1) := by decide +kernel
theorem dL_law_397 : decode cL_law 397 = .ok (.ireturn, 1) := by decide +kernel
theorem dL_law_398 : decode cL_law 398 = .ok (.aload_n 1, 1) := by decide +kernel
theorem dL_law_399 : decode cL_law 399 = .ok (.aload_n 0, 1) := by decide +kernel
theorem dL_law_400 : decode cL_law 400 = .ok (.iload_n 3, 1) := by decide +kernel
theorem dL_law_401 : decode cL_law 401 = .ok (.iconst 1, 1) := by decide +kernel
theorem dL_law_402 : decode cL_law 402 = .ok (.iadd, 1) := by decide +kernel
theorem dL_law_403 : decode cL_law 403 = .ok (.iaload, 1) := by decide +kernel
theorem dL_law_404 : decode cL_law 404 = .ok (.aload_n 0, 1) := by decide +kernel
theorem dL_law_405 : decode cL_law 405 = .ok (.iload_n 3, 1) := by decide +kernel
theorem dL_law_406 : decode cL_law 406 = .ok (.iconst 2, 1) := by decide +kernel
theorem dL_law_407 : decode cL_law 407 = .ok (.iadd, 1) := by decide +kernel
theorem dL_law_408 : decode cL_law 408 = .ok (.iaload, 1) := by decide +kernel
theorem dL_law_409 : decode cL_law 409 = .ok (.aload_n 0, 1) := by decide +kernel
theorem dL_law_410 : decode cL_law 410 = .ok (.iload_n 3, 1) := by decide +kernel
theorem dL_law_411 : decode cL_law 411 = .ok (.iconst 3, 1) := by decide +kernel
theorem dL_law_412 : decode cL_law 412 = .ok (.iadd, 1) := by decide +kernel
theorem dL_law_413 : decode cL_law 413 = .ok (.iaload, 1) := by decide +kernel
theorem dL_law_414 : decode cL_law 414 = .ok (.aload_n 0, 1) := by decide +kernel
theorem dL_law_415 : decode cL_law 415 = .ok (.iload_n 3, 1) := by decide +kernel
theorem dL_law_416 : decode cL_law 416 = .ok (.iconst 4, 1) := by decide +kernel
theorem dL_law_417 : decode cL_law 417 = .ok (.iadd, 1) := by decide +kernel
theorem dL_law_418 : decode cL_law 418 = .ok (.iaload, 1) := by decide +kernel
theorem dL_law_419 : decode cL_law 419 = .ok (.aload_n 0, 1) := by decide +kernel
theorem dL_law_420 : decode cL_law 420 = .ok (.iload_n 3, 1) := by decide +kernel
theorem dL_law_421 : decode cL_law 421 = .ok (.iconst 5, 1) := by decide +kernel
theorem dL_law_422 : decode cL_law 422 = .ok (.iadd, 1) := by decide +kernel
theorem dL_law_423 : decode cL_law 423 = .ok (.iaload, 1) := by decide +kernel
theorem dL_law_424 : decode cL_law 424 = .ok (.aload_n 0, 1) := by decide +kernel
theorem dL_law_425 : decode cL_law 425 = .ok (.iload_n 3, 1) := by decide +kernel
theorem dL_law_426 : decode cL_law 426 = .ok (.bipush 6, 2) := by decide +kernel
theorem dL_law_428 : decode cL_law 428 = .ok (.iadd, 1) := by decide +kernel
theorem dL_law_429 : decode cL_law 429 = .ok (.iaload, 1) := by decide +kernel
theorem dL_law_430 : decode cL_law 430 = .ok (.aload_n 0, 1) := by decide +kernel
theorem dL_law_431 : decode cL_law 431 = .ok (.iload_n 3, 1) := by decide +kernel
theorem dL_law_432 : decode cL_law 432 = .ok (.bipush 7, 2) := by decide +kernel
theorem dL_law_434 : decode cL_law 434 = .ok (.iadd, 1) := by decide +kernel
theorem dL_law_435 : decode cL_law 435 = .ok (.iaload, 1) := by decide +kernel
theorem dL_law_436 : decode cL_law 436 = .ok (.invokevirtual 39, 3) := by decide +kernel
theorem dL_law_439 : decode cL_law 439 = .ok (.aload_n 2, 1) := by decide +kernel
theorem dL_law_440 : decode cL_law 440 = .ok (.aload_n 0, 1) := by decide +kernel
theorem dL_law_441 : decode cL_law 441 = .ok (.iload_n 3, 1) := by decide +kernel
theorem dL_law_442 : decode cL_law 442 = .ok (.iconst 1, 1) := by decide +kernel
theorem dL_law_443 : decode cL_law 443 = .ok (.iadd, 1) := by decide +kernel
theorem dL_law_444 : decode cL_law 444 = .ok (.iaload, 1) := by decide +kernel
theorem dL_law_445 : decode cL_law 445 = .ok (.aload_n 0, 1) := by decide +kernel
theorem dL_law_446 : decode cL_law 446 = .ok (.iload_n 3, 1) := by decide +kernel
theorem dL_law_447 : decode cL_law 447 = .ok (.iconst 2, 1) := by decide +kernel
theorem dL_law_448 : decode cL_law 448 = .ok (.iadd, 1) := by decide +kernel
theorem dL_law_449 : decode cL_law 449 = .ok (.iaload, 1) := by decide +kernel
theorem dL_law_450 : decode cL_law 450 = .ok (.aload_n 0, 1) := by decide +kernel
theorem dL_law_451 : decode cL_law 451 = .ok (.iload_n 3, 1) := by decide +kernel
theorem dL_law_452 : decode cL_law 452 = .ok (.iconst 3, 1) := by decide +kernel
theorem dL_law_453 : decode cL_law 453 = .ok (.iadd, 1) := by decide +kernel
theorem dL_law_454 : decode cL_law 454 = .ok (.iaload, 1) := by decide +kernel
theorem dL_law_455 : decode cL_law 455 = .ok (.aload_n 0, 1) := by decide +kernel
theorem dL_law_456 : decode cL_law 456 = .ok (.iload_n 3, 1) := by decide +kernel
theorem dL_law_457 : decode cL_law 457 = .ok (.iconst 4, 1) := by decide +kernel
theorem dL_law_458 : decode cL_law 458 = .ok (.iadd, 1) := by decide +kernel
theorem dL_law_459 : decode cL_law 459 = .ok (.iaload, 1) := by decide +kernel
theorem dL_law_460 : decode cL_law 460 = .ok (.aload_n 0, 1) := by decide +kernel
theorem dL_law_461 : decode cL_law 461 = .ok (.iload_n 3, 1) := by decide +kernel
theorem dL_law_462 : decode cL_law 462 = .ok (.iconst 5, 1) := by decide +kernel
theorem dL_law_463 : decode cL_law 463 = .ok (.iadd, 1) := by decide +kernel
theorem dL_law_464 : decode cL_law 464 = .ok (.iaload, 1) := by decide +kernel
theorem dL_law_465 : decode cL_law 465 = .ok (.aload_n 0, 1) := by decide +kernel
theorem dL_law_466 : decode cL_law 466 = .ok (.iload_n 3, 1) := by decide +kernel
theorem dL_law_467 : decode cL_law 467 = .ok (.bipush 6, 2) := by decide +kernel
theorem dL_law_469 : decode cL_law 469 = .ok (.iadd, 1) := by decide +kernel
theorem dL_law_470 : decode cL_law 470 = .ok (.iaload, 1) := by decide +kernel
theorem dL_law_471 : decode cL_law 471 = .ok (.aload_n 0, 1) := by decide +kernel
theorem dL_law_472 : decode cL_law 472 = .ok (.iload_n 3, 1) := by decide +kernel
theorem dL_law_473 : decode cL_law 473 = .ok (.bipush 7, 2) := by decide +kernel
theorem dL_law_475 : decode cL_law 475 = .ok (.iadd, 1) := by decide +kernel
theorem dL_law_476 : decode cL_law 476 = .ok (.iaload, 1) := by decide +kernel
theorem dL_law_477 : decode cL_law 477 = .ok (.invokevirtual 43, 3) := by decide +kernel
theorem dL_law_480 : decode cL_law 480 = .ok (.if_icmp .eq 749, 3) := by decide +kernel
theorem dL_law_483 : decode cL_law 483 = .ok (.iconst 0, 1) := by decide +kernel
theorem dL_law_484 : decode cL_law 484 = .ok (.ireturn, 1) := by decide +kernel
theorem dL_law_485 : decode cL_law 485 = .ok (.aload_n 1, 1) := by decide +kernel
theorem dL_law_486 : decode cL_law 486 = .ok (.aload_n 0, 1) := by decide +kernel
theorem dL_law_487 : decode cL_law 487 = .ok (.iload_n 3, 1) := by decide +kernel
theorem dL_law_488 : decode cL_law 488 = .ok (.iconst 1, 1) := by decide +kernel
theorem dL_law_489 : decode cL_law 489 = .ok (.iadd, 1) := by decide +kernel
theorem dL_law_490 : decode cL_law 490 = .ok (.iaload, 1) := by decide +kernel
theorem dL_law_491 : decode cL_law 491 = .ok (.aload_n 0, 1) := by decide +kernel
theorem dL_law_492 : decode cL_law 492 = .ok (.iload_n 3, 1) := by decide +kernel
theorem dL_law_493 : decode cL_law 493 = .ok (.iconst 2, 1) := by decide +kernel
theorem dL_law_494 : decode cL_law 494 = .ok (.iadd, 1) := by decide +kernel
theorem dL_law_495 : decode cL_law 495 = .ok (.iaload, 1) := by decide +kernel
theorem dL_law_496 : decode cL_law 496 = .ok (.invokevirtual 44, 3) := by decide +kernel
theorem dL_law_499 : decode cL_law 499 = .ok (.aload_n 2, 1) := by decide +kernel
theorem dL_law_500 : decode cL_law 500 = .ok (.aload_n 0, 1) := by decide +kernel
theorem dL_law_501 : decode cL_law 501 = .ok (.iload_n 3, 1) := by decide +kernel
theorem dL_law_502 : decode cL_law 502 = .ok (.iconst 1, 1) := by decide +kernel
theorem dL_law_503 : decode cL_law 503 = .ok (.iadd, 1) := by decide +kernel
theorem dL_law_504 : decode cL_law 504 = .ok (.iaload, 1) := by decide +kernel
theorem dL_law_505 : decode cL_law 505 = .ok (.aload_n 0, 1) := by decide +kernel
theorem dL_law_506 : decode cL_law 506 = .ok (.iload_n 3, 1) := by decide +kernel
theorem dL_law_507 : decode cL_law 507 = .ok (.iconst 2, 1) := by decide +kernel
theorem dL_law_508 : decode cL_law 508 = .ok (.iadd, 1) := by decide +kernel
theorem dL_law_509 : decode cL_law 509 = .ok (.iaload, 1) := by decide +kernel
theorem dL_law_510 : decode cL_law 510 = .ok (.invokevirtual 47, 3) := by decide +kernel
theorem dL_law_513 : decode cL_law 513 = .ok (.if_icmp .eq 716, 3) := by decide +kernel
theorem dL_law_516 : decode cL_law 516 = .ok (.iconst 0, 1) := by decide +kernel
theorem dL_law_517 : decode cL_law 517 = .ok (.ireturn, 1) := by decide +kernel
theorem dL_law_518 : decode cL_law 518 = .ok (.aload_n 1, 1) := by decide +kernel
theorem dL_law_519 : decode cL_law 519 = .ok (.aload_n 0, 1) := by decide +kernel
theorem dL_law_520 : decode cL_law 520 = .ok (.iload_n 3, 1) := by decide +kernel
theorem dL_law_521 : decode cL_law 521 = .ok (.iconst 1, 1) := by decide +kernel
theorem dL_law_522 : decode cL_law 522 = .ok (.iadd, 1) := by decide +kernel
theorem dL_law_523 : decode cL_law 523 = .ok (.iaload, 1) := by decide +kernel
theorem dL_law_524 : decode cL_law 524 = .ok (.invokevirtual 48, 3) := by decide +kernel
theorem dL_law_527 : decode cL_law 527 = .ok (.aload_n 2, 1) := by decide +kernel
theorem dL_law_528 : decode cL_law 528 = .ok (.aload_n 0, 1) := by decide +kernel
theorem dL_law_529 : decode cL_law 529 = .ok (.iload_n 3, 1) := by decide +kernel
theorem dL_law_530 : decode cL_law 530 = .ok (.iconst 1, 1) := by decide +kernel
theorem dL_law_531 : decode cL_law 531 = .ok (.iadd, 1) := by decide +kernel
theorem dL_law_532 : decode cL_law 532 = .ok (.iaload, 1) := by decide +kernel
theorem dL_law_533 : decode cL_law 533 = .ok (.invokevirtual 52, 3) := by decide +kernel
theorem dL_law_536 : decode cL_law 536 = .ok (.if_icmp .eq 693, 3) := by decide +kernel
theorem dL_law_539 : decode cL_law 539 = .ok (.iconst 0, 1) := by decide +kernel
theorem dL_law_540 : decode cL_law 540 = .ok (.ireturn, 1) := by decide +kernel
theorem dL_law_541 : decode cL_law 541 = .ok (.aload_n 1, 1) := by decide +kernel
theorem dL_law_542 : decode cL_law 542 = .ok (.aload_n 0, 1) := by decide +kernel
theorem dL_law_543 : decode cL_law 543 = .ok (.iload_n 3, 1) := by decide +kernel
theorem dL_law_544 : decode cL_law 544 = .ok (.iconst 1, 1) := by decide +kernel
theorem dL_law_545 : decode cL_law 545 = .ok (.iadd, 1) := by decide +kernel
theorem dL_law_546 : decode cL_law 546 = .ok (.iaload, 1) := by decide +kernel
theorem dL_law_547 : decode cL_law 547 = .ok (.aload_n 0, 1) := by decide +kernel
theorem dL_law_548 : decode cL_law 548 = .ok (.iload_n 3, 1) := by decide +kernel
theorem dL_law_549 : decode cL_law 549 = .ok (.iconst 2, 1) := by decide +kernel
theorem dL_law_550 : decode cL_law 550 = .ok (.iadd, 1) := by decide +kernel
theorem dL_law_551 : decode cL_law 551 = .ok (.iaload, 1) := by decide +kernel
theorem dL_law_552 : decode cL_law 552 = .ok (.aload_n 0, 1) := by decide +kernel
theorem dL_law_553 : decode cL_law 553 = .ok (.iload_n 3, 1) := by decide +kernel
theorem dL_law_554 : decode cL_law 554 = .ok (.iconst 3, 1) := by decide +kernel
theorem dL_law_555 : decode cL_law 555 = .ok (.iadd, 1) := by decide +kernel
theorem dL_law_556 : decode cL_law 556 = .ok (.iaload, 1) := by decide +kernel
theorem dL_law_557 : decode cL_law 557 = .ok (.invokevirtual 53, 3) := by decide +kernel
theorem dL_law_560 : decode cL_law 560 = .ok (.aload_n 2, 1) := by decide +kernel
theorem dL_law_561 : decode cL_law 561 = .ok (.aload_n 0, 1) := by decide +kernel
theorem dL_law_562 : decode cL_law 562 = .ok (.iload_n 3, 1) := by decide +kernel
theorem dL_law_563 : decode cL_law 563 = .ok (.iconst 1, 1) := by decide +kernel
theorem dL_law_564 : decode cL_law 564 = .ok (.iadd, 1) := by decide +kernel
theorem dL_law_565 : decode cL_law 565 = .ok (.iaload, 1) := by decide +kernel
theorem dL_law_566 : decode cL_law 566 = .ok (.aload_n 0, 1) := by decide +kernel
theorem dL_law_567 : decode cL_law 567 = .ok (.iload_n 3, 1) := by decide +kernel
theorem dL_law_568 : decode cL_law 568 = .ok (.iconst 2, 1) := by decide +kernel
theorem dL_law_569 : decode cL_law 569 = .ok (.iadd, 1) := by decide +kernel
theorem dL_law_570 : decode cL_law 570 = .ok (.iaload, 1) := by decide +kernel
theorem dL_law_571 : decode cL_law 571 = .ok (.aload_n 0, 1) := by decide +kernel
theorem dL_law_572 : decode cL_law 572 = .ok (.iload_n 3, 1) := by decide +kernel
theorem dL_law_573 : decode cL_law 573 = .ok (.iconst 3, 1) := by decide +kernel
theorem dL_law_574 : decode cL_law 574 = .ok (.iadd, 1) := by decide +kernel
theorem dL_law_575 : decode cL_law 575 = .ok (.iaload, 1) := by decide +kernel
theorem dL_law_576 : decode cL_law 576 = .ok (.invokevirtual 56, 3) := by decide +kernel
theorem dL_law_579 : decode cL_law 579 = .ok (.if_icmp .eq 650, 3) := by decide +kernel
theorem dL_law_582 : decode cL_law 582 = .ok (.iconst 0, 1) := by decide +kernel
theorem dL_law_583 : decode cL_law 583 = .ok (.ireturn, 1) := by decide +kernel
theorem dL_law_584 : decode cL_law 584 = .ok (.aload_n 1, 1) := by decide +kernel
theorem dL_law_585 : decode cL_law 585 = .ok (.aload_n 0, 1) := by decide +kernel
theorem dL_law_586 : decode cL_law 586 = .ok (.iload_n 3, 1) := by decide +kernel
theorem dL_law_587 : decode cL_law 587 = .ok (.iconst 1, 1) := by decide +kernel
theorem dL_law_588 : decode cL_law 588 = .ok (.iadd, 1) := by decide +kernel
theorem dL_law_589 : decode cL_law 589 = .ok (.iaload, 1) := by decide +kernel
theorem dL_law_590 : decode cL_law 590 = .ok (.invokevirtual 57, 3) := by decide +kernel
theorem dL_law_593 : decode cL_law 593 = .ok (.aload_n 2, 1) := by decide +kernel
theorem dL_law_594 : decode cL_law 594 = .ok (.aload_n 0, 1) := by decide +kernel
theorem dL_law_595 : decode cL_law 595 = .ok (.iload_n 3, 1) := by decide +kernel
theorem dL_law_596 : decode cL_law 596 = .ok (.iconst 1, 1) := by decide +kernel
theorem dL_law_597 : decode cL_law 597 = .ok (.iadd, 1) := by decide +kernel
theorem dL_law_598 : decode cL_law 598 = .ok (.iaload, 1) := by decide +kernel
theorem dL_law_599 : decode cL_law 599 = .ok (.invokevirtual 60, 3) := by decide +kernel
theorem dL_law_602 : decode cL_law 602 = .ok (.if_icmp .eq 627, 3) := by decide +kernel
theorem dL_law_605 : decode cL_law 605 = .ok (.iconst 0, 1) := by decide +kernel
theorem dL_law_606 : decode cL_law 606 = .ok (.ireturn, 1) := by decide +kernel
theorem dL_law_607 : decode cL_law 607 = .ok (.aload_n 1, 1) := by decide +kernel
theorem dL_law_608 : decode cL_law 608 = .ok (.aload_n 0, 1) := by decide +kernel
theorem dL_law_609 : decode cL_law 609 = .ok (.iload_n 3, 1) := by decide +kernel
theorem dL_law_610 : decode cL_law 610 = .ok (.iconst 1, 1) := by decide +kernel
theorem dL_law_611 : decode cL_law 611 = .ok (.iadd, 1) := by decide +kernel
end
section
theorem dL_law_612 : decode cL_law 612 = .ok (.iaload, 1) := by decide +kernel
theorem dL_law_613 : decode cL_law 613 = .ok (.invokevirtual 61, 3) := by decide +kernel
theorem dL_law_616 : decode cL_law 616 = .ok (.aload_n 2, 1) := by decide +kernel
theorem dL_law_617 : decode cL_law 617 = .ok (.aload_n 0, 1) := by decide +kernel
theorem dL_law_618 : decode cL_law 618 = .ok (.iload_n 3, 1) := by decide +kernel
theorem dL_law_619 : decode cL_law 619 = .ok (.iconst 1, 1) := by decide +kernel
theorem dL_law_620 : decode cL_law 620 = .ok (.iadd, 1) := by decide +kernel
theorem dL_law_621 : decode cL_law 621 = .ok (.iaload, 1) := by decide +kernel
theorem dL_law_622 : decode cL_law 622 = .ok (.invokevirtual 64, 3) := by decide +kernel
theorem dL_law_625 : decode cL_law 625 = .ok (.if_icmp .eq 604, 3) := by decide +kernel
theorem dL_law_628 : decode cL_law 628 = .ok (.iconst 0, 1) := by decide +kernel
theorem dL_law_629 : decode cL_law 629 = .ok (.ireturn, 1) := by decide +kernel
theorem dL_law_630 : decode cL_law 630 = .ok (.aload_n 1, 1) := by decide +kernel
theorem dL_law_631 : decode cL_law 631 = .ok (.aload_n 0, 1) := by decide +kernel
theorem dL_law_632 : decode cL_law 632 = .ok (.iload_n 3, 1) := by decide +kernel
theorem dL_law_633 : decode cL_law 633 = .ok (.iconst 1, 1) := by decide +kernel
theorem dL_law_634 : decode cL_law 634 = .ok (.iadd, 1) := by decide +kernel
theorem dL_law_635 : decode cL_law 635 = .ok (.iaload, 1) := by decide +kernel
theorem dL_law_636 : decode cL_law 636 = .ok (.invokevirtual 65, 3) := by decide +kernel
theorem dL_law_639 : decode cL_law 639 = .ok (.aload_n 2, 1) := by decide +kernel
theorem dL_law_640 : decode cL_law 640 = .ok (.aload_n 0, 1) := by decide +kernel
theorem dL_law_641 : decode cL_law 641 = .ok (.iload_n 3, 1) := by decide +kernel
theorem dL_law_642 : decode cL_law 642 = .ok (.iconst 1, 1) := by decide +kernel
theorem dL_law_643 : decode cL_law 643 = .ok (.iadd, 1) := by decide +kernel
theorem dL_law_644 : decode cL_law 644 = .ok (.iaload, 1) := by decide +kernel
theorem dL_law_645 : decode cL_law 645 = .ok (.invokevirtual 68, 3) := by decide +kernel
theorem dL_law_648 : decode cL_law 648 = .ok (.if_icmp .eq 581, 3) := by decide +kernel
theorem dL_law_651 : decode cL_law 651 = .ok (.iconst 0, 1) := by decide +kernel
theorem dL_law_652 : decode cL_law 652 = .ok (.ireturn, 1) := by decide +kernel
theorem dL_law_653 : decode cL_law 653 = .ok (.aload_n 1, 1) := by decide +kernel
theorem dL_law_654 : decode cL_law 654 = .ok (.aload_n 0, 1) := by decide +kernel
theorem dL_law_655 : decode cL_law 655 = .ok (.iload_n 3, 1) := by decide +kernel
theorem dL_law_656 : decode cL_law 656 = .ok (.iconst 1, 1) := by decide +kernel
theorem dL_law_657 : decode cL_law 657 = .ok (.iadd, 1) := by decide +kernel
theorem dL_law_658 : decode cL_law 658 = .ok (.iaload, 1) := by decide +kernel
theorem dL_law_659 : decode cL_law 659 = .ok (.aload_n 0, 1) := by decide +kernel
theorem dL_law_660 : decode cL_law 660 = .ok (.iload_n 3, 1) := by decide +kernel
theorem dL_law_661 : decode cL_law 661 = .ok (.iconst 2, 1) := by decide +kernel
theorem dL_law_662 : decode cL_law 662 = .ok (.iadd, 1) := by decide +kernel
theorem dL_law_663 : decode cL_law 663 = .ok (.iaload, 1) := by decide +kernel
theorem dL_law_664 : decode cL_law 664 = .ok (.invokevirtual 69, 3) := by decide +kernel
theorem dL_law_667 : decode cL_law 667 = .ok (.aload_n 2, 1) := by decide +kernel
theorem dL_law_668 : decode cL_law 668 = .ok (.aload_n 0, 1) := by decide +kernel
theorem dL_law_669 : decode cL_law 669 = .ok (.iload_n 3, 1) := by decide +kernel
theorem dL_law_670 : decode cL_law 670 = .ok (.iconst 1, 1) := by decide +kernel
theorem dL_law_671 : decode cL_law 671 = .ok (.iadd, 1) := by decide +kernel
theorem dL_law_672 : decode cL_law 672 = .ok (.iaload, 1) := by decide +kernel
theorem dL_law_673 : decode cL_law 673 = .ok (.aload_n 0, 1) := by decide +kernel
theorem dL_law_674 : decode cL_law 674 = .ok (.iload_n 3, 1) := by decide +kernel
theorem dL_law_675 : decode cL_law 675 = .ok (.iconst 2, 1) := by decide +kernel
theorem dL_law_676 : decode cL_law 676 = .ok (.iadd, 1) := by decide +kernel
theorem dL_law_677 : decode cL_law 677 = .ok (.iaload, 1) := by decide +kernel
theorem dL_law_678 : decode cL_law 678 = .ok (.invokevirtual 72, 3) := by decide +kernel
theorem dL_law_681 : decode cL_law 681 = .ok (.if_icmp .eq 548, 3) := by decide +kernel
theorem dL_law_684 : decode cL_law 684 = .ok (.iconst 0, 1) := by decide +kernel
theorem dL_law_685 : decode cL_law 685 = .ok (.ireturn, 1) := by decide +kernel
theorem dL_law_686 : decode cL_law 686 = .ok (.aload_n 1, 1) := by decide +kernel
theorem dL_law_687 : decode cL_law 687 = .ok (.aload_n 0, 1) := by decide +kernel
theorem dL_law_688 : decode cL_law 688 = .ok (.iload_n 3, 1) := by decide +kernel
theorem dL_law_689 : decode cL_law 689 = .ok (.iconst 1, 1) := by decide +kernel
theorem dL_law_690 : decode cL_law 690 = .ok (.iadd, 1) := by decide +kernel
theorem dL_law_691 : decode cL_law 691 = .ok (.iaload, 1) := by decide +kernel
theorem dL_law_692 : decode cL_law 692 = .ok (.aload_n 0, 1) := by decide +kernel
theorem dL_law_693 : decode cL_law 693 = .ok (.iload_n 3, 1) := by decide +kernel
theorem dL_law_694 : decode cL_law 694 = .ok (.iconst 2, 1) := by decide +kernel
theorem dL_law_695 : decode cL_law 695 = .ok (.iadd, 1) := by decide +kernel
theorem dL_law_696 : decode cL_law 696 = .ok (.iaload, 1) := by decide +kernel
theorem dL_law_697 : decode cL_law 697 = .ok (.aload_n 0, 1) := by decide +kernel
theorem dL_law_698 : decode cL_law 698 = .ok (.iload_n 3, 1) := by decide +kernel
theorem dL_law_699 : decode cL_law 699 = .ok (.iconst 3, 1) := by decide +kernel
theorem dL_law_700 : decode cL_law 700 = .ok (.iadd, 1) := by decide +kernel
theorem dL_law_701 : decode cL_law 701 = .ok (.iaload, 1) := by decide +kernel
theorem dL_law_702 : decode cL_law 702 = .ok (.invokevirtual 73, 3) := by decide +kernel
theorem dL_law_705 : decode cL_law 705 = .ok (.aload_n 2, 1) := by decide +kernel
theorem dL_law_706 : decode cL_law 706 = .ok (.aload_n 0, 1) := by decide +kernel
theorem dL_law_707 : decode cL_law 707 = .ok (.iload_n 3, 1) := by decide +kernel
theorem dL_law_708 : decode cL_law 708 = .ok (.iconst 1, 1) := by decide +kernel
theorem dL_law_709 : decode cL_law 709 = .ok (.iadd, 1) := by decide +kernel
theorem dL_law_710 : decode cL_law 710 = .ok (.iaload, 1) := by decide +kernel
theorem dL_law_711 : decode cL_law 711 = .ok (.aload_n 0, 1) := by decide +kernel
theorem dL_law_712 : decode cL_law 712 = .ok (.iload_n 3, 1) := by decide +kernel
theorem dL_law_713 : decode cL_law 713 = .ok (.iconst 2, 1) := by decide +kernel
theorem dL_law_714 : decode cL_law 714 = .ok (.iadd, 1) := by decide +kernel
theorem dL_law_715 : decode cL_law 715 = .ok (.iaload, 1) := by decide +kernel
theorem dL_law_716 : decode cL_law 716 = .ok (.aload_n 0, 1) := by decide +kernel
theorem dL_law_717 : decode cL_law 717 = .ok (.iload_n 3, 1) := by decide +kernel
theorem dL_law_718 : decode cL_law 718 = .ok (.iconst 3, 1) := by decide +kernel
theorem dL_law_719 : decode cL_law 719 = .ok (.iadd, 1) := by decide +kernel
theorem dL_law_720 : decode cL_law 720 = .ok (.iaload, 1) := by decide +kernel
theorem dL_law_721 : decode cL_law 721 = .ok (.invokevirtual 76, 3) := by decide +kernel
theorem dL_law_724 : decode cL_law 724 = .ok (.if_icmp .eq 505, 3) := by decide +kernel
theorem dL_law_727 : decode cL_law 727 = .ok (.iconst 0, 1) := by decide +kernel
theorem dL_law_728 : decode cL_law 728 = .ok (.ireturn, 1) := by decide +kernel
theorem dL_law_729 : decode cL_law 729 = .ok (.aload_n 1, 1) := by decide +kernel
theorem dL_law_730 : decode cL_law 730 = .ok (.aload_n 0, 1) := by decide +kernel
theorem dL_law_731 : decode cL_law 731 = .ok (.iload_n 3, 1) := by decide +kernel
theorem dL_law_732 : decode cL_law 732 = .ok (.iconst 1, 1) := by decide +kernel
theorem dL_law_733 : decode cL_law 733 = .ok (.iadd, 1) := by decide +kernel
theorem dL_law_734 : decode cL_law 734 = .ok (.iaload, 1) := by decide +kernel
theorem dL_law_735 : decode cL_law 735 = .ok (.invokevirtual 77, 3) := by decide +kernel
theorem dL_law_738 : decode cL_law 738 = .ok (.aload_n 2, 1) := by decide +kernel
theorem dL_law_739 : decode cL_law 739 = .ok (.aload_n 0, 1) := by decide +kernel
theorem dL_law_740 : decode cL_law 740 = .ok (.iload_n 3, 1) := by decide +kernel
theorem dL_law_741 : decode cL_law 741 = .ok (.iconst 1, 1) := by decide +kernel
theorem dL_law_742 : decode cL_law 742 = .ok (.iadd, 1) := by decide +kernel
theorem dL_law_743 : decode cL_law 743 = .ok (.iaload, 1) := by decide +kernel
theorem dL_law_744 : decode cL_law 744 = .ok (.invokevirtual 80, 3) := by decide +kernel
theorem dL_law_747 : decode cL_law 747 = .ok (.if_icmp .eq 482, 3) := by decide +kernel
theorem dL_law_750 : decode cL_law 750 = .ok (.iconst 0, 1) := by decide +kernel
theorem dL_law_751 : decode cL_law 751 = .ok (.ireturn, 1) := by decide +kernel
theorem dL_law_752 : decode cL_law 752 = .ok (.aload_n 1, 1) := by decide +kernel
theorem dL_law_753 : decode cL_law 753 = .ok (.aload_n 0, 1) := by decide +kernel
theorem dL_law_754 : decode cL_law 754 = .ok (.iload_n 3, 1) := by decide +kernel
theorem dL_law_755 : decode cL_law 755 = .ok (.iconst 1, 1) := by decide +kernel
theorem dL_law_756 : decode cL_law 756 = .ok (.iadd, 1) := by decide +kernel
theorem dL_law_757 : decode cL_law 757 = .ok (.iaload, 1) := by decide +kernel
theorem dL_law_758 : decode cL_law 758 = .ok (.aload_n 0, 1) := by decide +kernel
theorem dL_law_759 : decode cL_law 759 = .ok (.iload_n 3, 1) := by decide +kernel
theorem dL_law_760 : decode cL_law 760 = .ok (.iconst 2, 1) := by decide +kernel
theorem dL_law_761 : decode cL_law 761 = .ok (.iadd, 1) := by decide +kernel
theorem dL_law_762 : decode cL_law 762 = .ok (.iaload, 1) := by decide +kernel
theorem dL_law_763 : decode cL_law 763 = .ok (.invokevirtual 81, 3) := by decide +kernel
theorem dL_law_766 : decode cL_law 766 = .ok (.aload_n 2, 1) := by decide +kernel
theorem dL_law_767 : decode cL_law 767 = .ok (.aload_n 0, 1) := by decide +kernel
theorem dL_law_768 : decode cL_law 768 = .ok (.iload_n 3, 1) := by decide +kernel
theorem dL_law_769 : decode cL_law 769 = .ok (.iconst 1, 1) := by decide +kernel
theorem dL_law_770 : decode cL_law 770 = .ok (.iadd, 1) := by decide +kernel
theorem dL_law_771 : decode cL_law 771 = .ok (.iaload, 1) := by decide +kernel
theorem dL_law_772 : decode cL_law 772 = .ok (.aload_n 0, 1) := by decide +kernel
theorem dL_law_773 : decode cL_law 773 = .ok (.iload_n 3, 1) := by decide +kernel
theorem dL_law_774 : decode cL_law 774 = .ok (.iconst 2, 1) := by decide +kernel
theorem dL_law_775 : decode cL_law 775 = .ok (.iadd, 1) := by decide +kernel
theorem dL_law_776 : decode cL_law 776 = .ok (.iaload, 1) := by decide +kernel
theorem dL_law_777 : decode cL_law 777 = .ok (.invokevirtual 84, 3) := by decide +kernel
theorem dL_law_780 : decode cL_law 780 = .ok (.if_icmp .eq 449, 3) := by decide +kernel
theorem dL_law_783 : decode cL_law 783 = .ok (.iconst 0, 1) := by decide +kernel
theorem dL_law_784 : decode cL_law 784 = .ok (.ireturn, 1) := by decide +kernel
theorem dL_law_785 : decode cL_law 785 = .ok (.aload_n 1, 1) := by decide +kernel
theorem dL_law_786 : decode cL_law 786 = .ok (.aload_n 0, 1) := by decide +kernel
theorem dL_law_787 : decode cL_law 787 = .ok (.iload_n 3, 1) := by decide +kernel
theorem dL_law_788 : decode cL_law 788 = .ok (.iconst 1, 1) := by decide +kernel
theorem dL_law_789 : decode cL_law 789 = .ok (.iadd, 1) := by decide +kernel
theorem dL_law_790 : decode cL_law 790 = .ok (.iaload, 1) := by decide +kernel
theorem dL_law_791 : decode cL_law 791 = .ok (.invokevirtual 85, 3) := by decide +kernel
theorem dL_law_794 : decode cL_law 794 = .ok (.aload_n 2, 1) := by decide +kernel
theorem dL_law_795 : decode cL_law 795 = .ok (.aload_n 0, 1) := by decide +kernel
theorem dL_law_796 : decode cL_law 796 = .ok (.iload_n 3, 1) := by decide +kernel
theorem dL_law_797 : decode cL_law 797 = .ok (.iconst 1, 1) := by decide +kernel
theorem dL_law_798 : decode cL_law 798 = .ok (.iadd, 1) := by decide +kernel
theorem dL_law_799 : decode cL_law 799 = .ok (.iaload, 1) := by decide +kernel
theorem dL_law_800 : decode cL_law 800 = .ok (.invokevirtual 88, 3) := by decide +kernel
theorem dL_law_803 : decode cL_law 803 = .ok (.if_icmp .eq 426, 3) := by decide +kernel
theorem dL_law_806 : decode cL_law 806 = .ok (.iconst 0, 1) := by decide +kernel
theorem dL_law_807 : decode cL_law 807 = .ok (.ireturn, 1) := by decide +kernel
theorem dL_law_808 : decode cL_law 808 = .ok (.aload_n 1, 1) := by decide +kernel
theorem dL_law_809 : decode cL_law 809 = .ok (.aload_n 0, 1) := by decide +kernel
theorem dL_law_810 : decode cL_law 810 = .ok (.iload_n 3, 1) := by decide +kernel
theorem dL_law_811 : decode cL_law 811 = .ok (.iconst 1, 1) := by decide +kernel
theorem dL_law_812 : decode cL_law 812 = .ok (.iadd, 1) := by decide +kernel
theorem dL_law_813 : decode cL_law 813 = .ok (.iaload, 1) := by decide +kernel
theorem dL_law_814 : decode cL_law 814 = .ok (.aload_n 0, 1) := by decide +kernel
theorem dL_law_815 : decode cL_law 815 = .ok (.iload_n 3, 1) := by decide +kernel
theorem dL_law_816 : decode cL_law 816 = .ok (.iconst 2, 1) := by decide +kernel
theorem dL_law_817 : decode cL_law 817 = .ok (.iadd, 1) := by decide +kernel
theorem dL_law_818 : decode cL_law 818 = .ok (.iaload, 1) := by decide +kernel
theorem dL_law_819 : decode cL_law 819 = .ok (.invokevirtual 89, 3) := by decide +kernel
theorem dL_law_822 : decode cL_law 822 = .ok (.aload_n 2, 1) := by decide +kernel
theorem dL_law_823 : decode cL_law 823 = .ok (.aload_n 0, 1) := by decide +kernel
theorem dL_law_824 : decode cL_law 824 = .ok (.iload_n 3, 1) := by decide +kernel
theorem dL_law_825 : decode cL_law 825 = .ok (.iconst 1, 1) := by decide +kernel
theorem dL_law_826 : decode cL_law 826 = .ok (.iadd, 1) := by decide +kernel
theorem dL_law_827 : decode cL_law 827 = .ok (.iaload, 1) := by decide +kernel
theorem dL_law_828 : decode cL_law 828 = .ok (.aload_n 0, 1) := by decide +kernel
theorem dL_law_829 : decode cL_law 829 = .ok (.iload_n 3, 1) := by decide +kernel
theorem dL_law_830 : decode cL_law 830 = .ok (.iconst 2, 1) := by decide +kernel
theorem dL_law_831 : decode cL_law 831 = .ok (.iadd, 1) := by decide +kernel
theorem dL_law_832 : decode cL_law 832 = .ok (.iaload, 1) := by decide +kernel
theorem dL_law_833 : decode cL_law 833 = .ok (.invokevirtual 92, 3) := by decide +kernel
theorem dL_law_836 : decode cL_law 836 = .ok (.if_icmp .eq 393, 3) := by decide +kernel
theorem dL_law_839 : decode cL_law 839 = .ok (.iconst 0, 1) := by decide +kernel
theorem dL_law_840 : decode cL_law 840 = .ok (.ireturn, 1) := by decide +kernel
theorem dL_law_841 : decode cL_law 841 = .ok (.aload_n 1, 1) := by decide +kernel
theorem dL_law_842 : decode cL_law 842 = .ok (.aload_n 0, 1) := by decide +kernel
theorem dL_law_843 : decode cL_law 843 = .ok (.iload_n 3, 1) := by decide +kernel
theorem dL_law_844 : decode cL_law 844 = .ok (.iconst 1, 1) := by decide +kernel
theorem dL_law_845 : decode cL_law 845 = .ok (.iadd, 1) := by decide +kernel
theorem dL_law_846 : decode cL_law 846 = .ok (.iaload, 1) := by decide +kernel
theorem dL_law_847 : decode cL_law 847 = .ok (.invokevirtual 93, 3) := by decide +kernel
theorem dL_law_850 : decode cL_law 850 = .ok (.aload_n 2, 1) := by decide +kernel
theorem dL_law_851 : decode cL_law 851 = .ok (.aload_n 0, 1) := by decide +kernel
theorem dL_law_852 : decode cL_law 852 = .ok (.iload_n 3, 1) := by decide +kernel
theorem dL_law_853 : decode cL_law 853 = .ok (.iconst 1, 1) := by decide +kernel
theorem dL_law_854 : decode cL_law 854 = .ok (.iadd, 1) := by decide +kernel
theorem dL_law_855 : decode cL_law 855 = .ok (.iaload, 1) := by decide +kernel
theorem dL_law_856 : decode cL_law 856 = .ok (.invokevirtual 96, 3) := by decide +kernel
theorem dL_law_859 : decode cL_law 859 = .ok (.if_icmp .eq 370, 3) := by decide +kernel
theorem dL_law_862 : decode cL_law 862 = .ok (.iconst 0, 1) := by decide +kernel
theorem dL_law_863 : decode cL_law 863 = .ok (.ireturn, 1) := by decide +kernel
theorem dL_law_864 : decode cL_law 864 = .ok (.aload_n 1, 1) := by decide +kernel
theorem dL_law_865 : decode cL_law 865 = .ok (.aload_n 0, 1) := by decide +kernel
theorem dL_law_866 : decode cL_law 866 = .ok (.iload_n 3, 1) := by decide +kernel
theorem dL_law_867 : decode cL_law 867 = .ok (.iconst 1, 1) := by decide +kernel
theorem dL_law_868 : decode cL_law 868 = .ok (.iadd, 1) := by decide +kernel
theorem dL_law_869 : decode cL_law 869 = .ok (.iaload, 1) := by decide +kernel
theorem dL_law_870 : decode cL_law 870 = .ok (.aload_n 0, 1) := by decide +kernel
theorem dL_law_871 : decode cL_law 871 = .ok (.iload_n 3, 1) := by decide +kernel
theorem dL_law_872 : decode cL_law 872 = .ok (.iconst 2, 1) := by decide +kernel
theorem dL_law_873 : decode cL_law 873 = .ok (.iadd, 1) := by decide +kernel
theorem dL_law_874 : decode cL_law 874 = .ok (.iaload, 1) := by decide +kernel
theorem dL_law_875 : decode cL_law 875 = .ok (.aload_n 0, 1) := by decide +kernel
theorem dL_law_876 : decode cL_law 876 = .ok (.iload_n 3, 1) := by decide +kernel
theorem dL_law_877 : decode cL_law 877 = .ok (.iconst 3, 1) := by decide +kernel
theorem dL_law_878 : decode cL_law 878 = .ok (.iadd, 1) := by decide +kernel
theorem dL_law_879 : decode cL_law 879 = .ok (.iaload, 1) := by decide +kernel
theorem dL_law_880 : decode cL_law 880 = .ok (.invokevirtual 97, 3) := by decide +kernel
theorem dL_law_883 : decode cL_law 883 = .ok (.aload_n 2, 1) := by decide +kernel
theorem dL_law_884 : decode cL_law 884 = .ok (.aload_n 0, 1) := by decide +kernel
theorem dL_law_885 : decode cL_law 885 = .ok (.iload_n 3, 1) := by decide +kernel
theorem dL_law_886 : decode cL_law 886 = .ok (.iconst 1, 1) := by decide +kernel
theorem dL_law_887 : decode cL_law 887 = .ok (.iadd, 1) := by decide +kernel
theorem dL_law_888 : decode cL_law 888 = .ok (.iaload, 1) := by decide +kernel
theorem dL_law_889 : decode cL_law 889 = .ok (.aload_n 0, 1) := by decide +kernel
theorem dL_law_890 : decode cL_law 890 = .ok (.iload_n 3, 1) := by decide +kernel
theorem dL_law_891 : decode cL_law 891 = .ok (.iconst 2, 1) := by decide +kernel
theorem dL_law_892 : decode cL_law 892 = .ok (.iadd, 1) := by decide +kernel
theorem dL_law_893 : decode cL_law 893 = .ok (.iaload, 1) := by decide +kernel
theorem dL_law_894 : decode cL_law 894 = .ok (.aload_n 0, 1) := by decide +kernel
theorem dL_law_895 : decode cL_law 895 = .ok (.iload_n 3, 1) := by decide +kernel
theorem dL_law_896 : decode cL_law 896 = .ok (.iconst 3, 1) := by decide +kernel
theorem dL_law_897 : decode cL_law 897 = .ok (.iadd, 1) := by decide +kernel
theorem dL_law_898 : decode cL_law 898 = .ok (.iaload, 1) := by decide +kernel
theorem dL_law_899 : decode cL_law 899 = .ok (.invokevirtual 100, 3) := by decide +kernel
theorem dL_law_902 : decode cL_law 902 = .ok (.if_icmp .eq 327, 3) := by decide +kernel
theorem dL_law_905 : decode cL_law 905 = .ok (.iconst 0, 1) := by decide +kernel
theorem dL_law_906 : decode cL_law 906 = .ok (.ireturn, 1) := by decide +kernel
theorem dL_law_907 : decode cL_law 907 = .ok (.aload_n 1, 1) := by decide +kernel
theorem dL_law_908 : decode cL_law 908 = .ok (.aload_n 0, 1) := by decide +kernel
theorem dL_law_909 : decode cL_law 909 = .ok (.iload_n 3, 1) := by decide +kernel
theorem dL_law_910 : decode cL_law 910 = .ok (.iconst 1, 1) := by decide +kernel
theorem dL_law_911 : decode cL_law 911 = .ok (.iadd, 1) := by decide +kernel
theorem dL_law_912 : decode cL_law 912 = .ok (.iaload, 1) := by decide +kernel
theorem dL_law_913 : decode cL_law 913 = .ok (.invokevirtual 101, 3) := by decide +kernel
theorem dL_law_916 : decode cL_law 916 = .ok (.aload_n 2, 1) := by decide +kernel
theorem dL_law_917 : decode cL_law 917 = .ok (.aload_n 0, 1) := by decide +kernel
theorem dL_law_918 : decode cL_law 918 = .ok (.iload_n 3, 1) := by decide +kernel
theorem dL_law_919 : decode cL_law 919 = .ok (.iconst 1, 1) := by decide +kernel
theorem dL_law_920 : decode cL_law 920 = .ok (.iadd, 1) := by decide +kernel
theorem dL_law_921 : decode cL_law 921 = .ok (.iaload, 1) := by decide +kernel
theorem dL_law_922 : decode cL_law 922 = .ok (.invokevirtual 104, 3) := by decide +kernel
theorem dL_law_925 : decode cL_law 925 = .ok (.if_icmp .eq 304, 3) := by decide +kernel
theorem dL_law_928 : decode cL_law 928 = .ok (.iconst 0, 1) := by decide +kernel
theorem dL_law_929 : decode cL_law 929 = .ok (.ireturn, 1) := by decide +kernel
theorem dL_law_930 : decode cL_law 930 = .ok (.aload_n 1, 1) := by decide +kernel
theorem dL_law_931 : decode cL_law 931 = .ok (.aload_n 0, 1) := by decide +kernel
theorem dL_law_932 : decode cL_law 932 = .ok (.iload_n 3, 1) := by decide +kernel
theorem dL_law_933 : decode cL_law 933 = .ok (.iconst 1, 1) := by decide +kernel
theorem dL_law_934 : decode cL_law 934 = .ok (.iadd, 1) := by decide +kernel
theorem dL_law_935 : decode cL_law 935 = .ok (.iaload, 1) := by decide +kernel
theorem dL_law_936 : decode cL_law 936 = .ok (.aload_n 0, 1) := by decide +kernel
theorem dL_law_937 : decode cL_law 937 = .ok (.iload_n 3, 1) := by decide +kernel
theorem dL_law_938 : decode cL_law 938 = .ok (.iconst 2, 1) := by decide +kernel
theorem dL_law_939 : decode cL_law 939 = .ok (.iadd, 1) := by decide +kernel
theorem dL_law_940 : decode cL_law 940 = .ok (.iaload, 1) := by decide +kernel
theorem dL_law_941 : decode cL_law 941 = .ok (.invokevirtual 105, 3) := by decide +kernel
theorem dL_law_944 : decode cL_law 944 = .ok (.aload_n 2, 1) := by decide +kernel
theorem dL_law_945 : decode cL_law 945 = .ok (.aload_n 0, 1) := by decide +kernel
theorem dL_law_946 : decode cL_law 946 = .ok (.iload_n 3, 1) := by decide +kernel
theorem dL_law_947 : decode cL_law 947 = .ok (.iconst 1, 1) := by decide +kernel
theorem dL_law_948 : decode cL_law 948 = .ok (.iadd, 1) := by decide +kernel
theorem dL_law_949 : decode cL_law 949 = .ok (.iaload, 1) := by decide +kernel
theorem dL_law_950 : decode cL_law 950 = .ok (.aload_n 0, 1) := by decide +kernel
theorem dL_law_951 : decode cL_law 951 = .ok (.iload_n 3, 1) := by decide +kernel
theorem dL_law_952 : decode cL_law 952 = .ok (.iconst 2, 1) := by decide +kernel
theorem dL_law_953 : decode cL_law 953 = .ok (.iadd, 1) := by decide +kernel
theorem dL_law_954 : decode cL_law 954 = .ok (.iaload, 1) := by decide +kernel
theorem dL_law_955 : decode cL_law 955 = .ok (.invokevirtual 108, 3) := by decide +kernel
theorem dL_law_958 : decode cL_law 958 = .ok (.if_icmp .eq 271, 3) := by decide +kernel
theorem dL_law_961 : decode cL_law 961 = .ok (.iconst 0, 1) := by decide +kernel
theorem dL_law_962 : decode cL_law 962 = .ok (.ireturn, 1) := by decide +kernel
theorem dL_law_963 : decode cL_law 963 = .ok (.aload_n 1, 1) := by decide +kernel
theorem dL_law_964 : decode cL_law 964 = .ok (.invokevirtual 109, 3) := by decide +kernel
theorem dL_law_967 : decode cL_law 967 = .ok (.aload_n 2, 1) := by decide +kernel
theorem dL_law_968 : decode cL_law 968 = .ok (.invokevirtual 113, 3) := by decide +kernel
theorem dL_law_971 : decode cL_law 971 = .ok (.if_icmp .eq 258, 3) := by decide +kernel
theorem dL_law_974 : decode cL_law 974 = .ok (.iconst 0, 1) := by decide +kernel
theorem dL_law_975 : decode cL_law 975 = .ok (.ireturn, 1) := by decide +kernel
theorem dL_law_976 : decode cL_law 976 = .ok (.aload_n 1, 1) := by decide +kernel
theorem dL_law_977 : decode cL_law 977 = .ok (.aload_n 0, 1) := by decide +kernel
theorem dL_law_978 : decode cL_law 978 = .ok (.iload_n 3, 1) := by decide +kernel
theorem dL_law_979 : decode cL_law 979 = .ok (.iconst 1, 1) := by decide +kernel
theorem dL_law_980 : decode cL_law 980 = .ok (.iadd, 1) := by decide +kernel
theorem dL_law_981 : decode cL_law 981 = .ok (.iaload, 1) := by decide +kernel
theorem dL_law_982 : decode cL_law 982 = .ok (.invokevirtual 114, 3) := by decide +kernel
theorem dL_law_985 : decode cL_law 985 = .ok (.aload_n 2, 1) := by decide +kernel
theorem dL_law_986 : decode cL_law 986 = .ok (.aload_n 0, 1) := by decide +kernel
theorem dL_law_987 : decode cL_law 987 = .ok (.iload_n 3, 1) := by decide +kernel
theorem dL_law_988 : decode cL_law 988 = .ok (.iconst 1, 1) := by decide +kernel
theorem dL_law_989 : decode cL_law 989 = .ok (.iadd, 1) := by decide +kernel
theorem dL_law_990 : decode cL_law 990 = .ok (.iaload, 1) := by decide +kernel
theorem dL_law_991 : decode cL_law 991 = .ok (.invokevirtual 117, 3) := by decide +kernel
theorem dL_law_994 : decode cL_law 994 = .ok (.if_icmp .eq 235, 3) := by decide +kernel
theorem dL_law_997 : decode cL_law 997 = .ok (.iconst 0, 1) := by decide +kernel
theorem dL_law_998 : decode cL_law 998 = .ok (.ireturn, 1) := by decide +kernel
theorem dL_law_999 : decode cL_law 999 = .ok (.aload_n 1, 1) := by decide +kernel
theorem dL_law_1000 : decode cL_law 1000 = .ok (.aload_n 0, 1) := by decide +kernel
theorem dL_law_1001 : decode cL_law 1001 = .ok (.iload_n 3, 1) := by decide +kernel
theorem dL_law_1002 : decode cL_law 1002 = .ok (.iconst 1, 1) := by decide +kernel
theorem dL_law_1003 : decode cL_law 1003 = .ok (.iadd, 1) := by decide +kernel
theorem dL_law_1004 : decode cL_law 1004 = .ok (.iaload, 1) := by decide +kernel
theorem dL_law_1005 : decode cL_law 1005 = .ok (.invokevirtual 118, 3) := by decide +kernel
theorem dL_law_1008 : decode cL_law 1008 = .ok (.aload_n 2, 1) := by decide +kernel
theorem dL_law_1009 : decode cL_law 1009 = .ok (.aload_n 0, 1) := by decide +kernel
theorem dL_law_1010 : decode cL_law 1010 = .ok (.iload_n 3, 1) := by decide +kernel
theorem dL_law_1011 : decode cL_law 1011 = .ok (.iconst 1, 1) := by decide +kernel
theorem dL_law_1012 : decode cL_law 1012 = .ok (.iadd, 1) := by decide +kernel
theorem dL_law_1013 : decode cL_law 1013 = .ok (.iaload, 1) := by decide +kernel
theorem dL_law_1014 : decode cL_law 1014 = .ok (.invokevirtual 121, 3) := by decide +kernel
theorem dL_law_1017 : decode cL_law 1017 = .ok (.if_icmp .eq 212, 3) := by decide +kernel
theorem dL_law_1020 : decode cL_law 1020 = .ok (.iconst 0, 1) := by decide +kernel
theorem dL_law_1021 : decode cL_law 1021 = .ok (.ireturn, 1) := by decide +kernel
theorem dL_law_1022 : decode cL_law 1022 = .ok (.aload_n 1, 1) := by decide +kernel
theorem dL_law_1023 : decode cL_law 1023 = .ok (.aload_n 0, 1) := by decide +kernel
theorem dL_law_1024 : decode cL_law 1024 = .ok (.iload_n 3, 1) := by decide +kernel
theorem dL_law_1025 : decode cL_law 1025 = .ok (.iconst 1, 1) := by decide +kernel
theorem dL_law_1026 : decode cL_law 1026 = .ok (.iadd, 1) := by decide +kernel
theorem dL_law_1027 : decode cL_law 1027 = .ok (.iaload, 1) := by decide +kernel
theorem dL_law_1028 : decode cL_law 1028 = .ok (.aload_n 0, 1) := by decide +kernel
theorem dL_law_1029 : decode cL_law 1029 = .ok (.iload_n 3, 1) := by decide +kernel
theorem dL_law_1030 : decode cL_law 1030 = .ok (.iconst 2, 1) := by decide +kernel
theorem dL_law_1031 : decode cL_law 1031 = .ok (.iadd, 1) := by decide +kernel
theorem dL_law_1032 : decode cL_law 1032 = .ok (.iaload, 1) := by decide +kernel
theorem dL_law_1033 : decode cL_law 1033 = .ok (.invokevirtual 122, 3) := by decide +kernel
theorem dL_law_1036 : decode cL_law 1036 = .ok (.aload_n 2, 1) := by decide +kernel
theorem dL_law_1037 : decode cL_law 1037 = .ok (.aload_n 0, 1) := by decide +kernel
theorem dL_law_1038 : decode cL_law 1038 = .ok (.iload_n 3, 1) := by decide +kernel
theorem dL_law_1039 : decode cL_law 1039 = .ok (.iconst 1, 1) := by decide +kernel
theorem dL_law_1040 : decode cL_law 1040 = .ok (.iadd, 1) := by decide +kernel
theorem dL_law_1041 : decode cL_law 1041 = .ok (.iaload, 1) := by decide +kernel
theorem dL_law_1042 : decode cL_law 1042 = .ok (.aload_n 0, 1) := by decide +kernel
theorem dL_law_1043 : decode cL_law 1043 = .ok (.iload_n 3, 1) := by decide +kernel
theorem dL_law_1044 : decode cL_law 1044 = .ok (.iconst 2, 1) := by decide +kernel
theorem dL_law_1045 : decode cL_law 1045 = .ok (.iadd, 1) := by decide +kernel
theorem dL_law_1046 : decode cL_law 1046 = .ok (.iaload, 1) := by decide +kernel
theorem dL_law_1047 : decode cL_law 1047 = .ok (.invokevirtual 125, 3) := by decide +kernel
theorem dL_law_1050 : decode cL_law 1050 = .ok (.if_icmp .eq 179, 3) := by decide +kernel
theorem dL_law_1053 : decode cL_law 1053 = .ok (.iconst 0, 1) := by decide +kernel
theorem dL_law_1054 : decode cL_law 1054 = .ok (.ireturn, 1) := by decide +kernel
theorem dL_law_1055 : decode cL_law 1055 = .ok (.aload_n 1, 1) := by decide +kernel
theorem dL_law_1056 : decode cL_law 1056 = .ok (.aload_n 0, 1) := by decide +kernel
theorem dL_law_1057 : decode cL_law 1057 = .ok (.iload_n 3, 1) := by decide +kernel
theorem dL_law_1058 : decode cL_law 1058 = .ok (.iconst 1, 1) := by decide +kernel
theorem dL_law_1059 : decode cL_law 1059 = .ok (.iadd, 1) := by decide +kernel
theorem dL_law_1060 : decode cL_law 1060 = .ok (.iaload, 1) := by decide +kernel
theorem dL_law_1061 : decode cL_law 1061 = .ok (.invokevirtual 126, 3) := by decide +kernel
theorem dL_law_1064 : decode cL_law 1064 = .ok (.aload_n 2, 1) := by decide +kernel
theorem dL_law_1065 : decode cL_law 1065 = .ok (.aload_n 0, 1) := by decide +kernel
theorem dL_law_1066 : decode cL_law 1066 = .ok (.iload_n 3, 1) := by decide +kernel
theorem dL_law_1067 : decode cL_law 1067 = .ok (.iconst 1, 1) := by decide +kernel
theorem dL_law_1068 : decode cL_law 1068 = .ok (.iadd, 1) := by decide +kernel
theorem dL_law_1069 : decode cL_law 1069 = .ok (.iaload, 1) := by decide +kernel
theorem dL_law_1070 : decode cL_law 1070 = .ok (.invokevirtual 129, 3) := by decide +kernel
theorem dL_law_1073 : decode cL_law 1073 = .ok (.if_icmp .eq 156, 3) := by decide +kernel
theorem dL_law_1076 : decode cL_law 1076 = .ok (.iconst 0, 1) := by decide +kernel
theorem dL_law_1077 : decode cL_law 1077 = .ok (.ireturn, 1) := by decide +kernel
theorem dL_law_1078 : decode cL_law 1078 = .ok (.aload_n 1, 1) := by decide +kernel
theorem dL_law_1079 : decode cL_law 1079 = .ok (.aload_n 0, 1) := by decide +kernel
theorem dL_law_1080 : decode cL_law 1080 = .ok (.iload_n 3, 1) := by decide +kernel
theorem dL_law_1081 : decode cL_law 1081 = .ok (.iconst 1, 1) := by decide +kernel
theorem dL_law_1082 : decode cL_law 1082 = .ok (.iadd, 1) := by decide +kernel
theorem dL_law_1083 : decode cL_law 1083 = .ok (.iaload, 1) := by decide +kernel
theorem dL_law_1084 : decode cL_law 1084 = .ok (.ifCond .eq 7, 3) := by decide +kernel
theorem dL_law_1087 : decode cL_law 1087 = .ok (.iconst 1, 1) := by decide +kernel
theorem dL_law_1088 : decode cL_law 1088 = .ok (.goto 4, 3) := by decide +kernel
theorem dL_law_1091 : decode cL_law 1091 = .ok (.iconst 0, 1) := by decide +kernel
theorem dL_law_1092 : decode cL_law 1092 = .ok (.invokevirtual 130, 3) := by decide +kernel
theorem dL_law_1095 : decode cL_law 1095 = .ok (.aload_n 2, 1) := by decide +kernel
theorem dL_law_1096 : decode cL_law 1096 = .ok (.aload_n 0, 1) := by decide +kernel
theorem dL_law_1097 : decode cL_law 1097 = .ok (.iload_n 3, 1) := by decide +kernel
theorem dL_law_1098 : decode cL_law 1098 = .ok (.iconst 1, 1) := by decide +kernel
theorem dL_law_1099 : decode cL_law 1099 = .ok (.iadd, 1) := by decide +kernel
theorem dL_law_1100 : decode cL_law 1100 = .ok (.iaload, 1) := by decide +kernel
theorem dL_law_1101 : decode cL_law 1101 = .ok (.ifCond .eq 7, 3) := by decide +kernel
theorem dL_law_1104 : decode cL_law 1104 = .ok (.iconst 1, 1) := by decide +kernel
theorem dL_law_1105 : decode cL_law 1105 = .ok (.goto 4, 3) := by decide +kernel
theorem dL_law_1108 : decode cL_law 1108 = .ok (.iconst 0, 1) := by decide +kernel
theorem dL_law_1109 : decode cL_law 1109 = .ok (.invokevirtual 134, 3) := by decide +kernel
theorem dL_law_1112 : decode cL_law 1112 = .ok (.if_icmp .eq 117, 3) := by decide +kernel
theorem dL_law_1115 : decode cL_law 1115 = .ok (.iconst 0, 1) := by decide +kernel
theorem dL_law_1116 : decode cL_law 1116 = .ok (.ireturn, 1) := by decide +kernel
theorem dL_law_1117 : decode cL_law 1117 = .ok (.aload_n 1, 1) := by decide +kernel
theorem dL_law_1118 : decode cL_law 1118 = .ok (.aload_n 0, 1) := by decide +kernel
theorem dL_law_1119 : decode cL_law 1119 = .ok (.iload_n 3, 1) := by decide +kernel
theorem dL_law_1120 : decode cL_law 1120 = .ok (.iconst 1, 1) := by decide +kernel
theorem dL_law_1121 : decode cL_law 1121 = .ok (.iadd, 1) := by decide +kernel
theorem dL_law_1122 : decode cL_law 1122 = .ok (.iaload, 1) := by decide +kernel
theorem dL_law_1123 : decode cL_law 1123 = .ok (.invokevirtual 135, 3) := by decide +kernel
theorem dL_law_1126 : decode cL_law 1126 = .ok (.aload_n 2, 1) := by decide +kernel
theorem dL_law_1127 : decode cL_law 1127 = .ok (.aload_n 0, 1) := by decide +kernel
theorem dL_law_1128 : decode cL_law 1128 = .ok (.iload_n 3, 1) := by decide +kernel
theorem dL_law_1129 : decode cL_law 1129 = .ok (.iconst 1, 1) := by decide +kernel
theorem dL_law_1130 : decode cL_law 1130 = .ok (.iadd, 1) := by decide +kernel
theorem dL_law_1131 : decode cL_law 1131 = .ok (.iaload, 1) := by decide +kernel
theorem dL_law_1132 : decode cL_law 1132 = .ok (.invokevirtual 138, 3) := by decide +kernel
theorem dL_law_1135 : decode cL_law 1135 = .ok (.if_icmp .eq 94, 3) := by decide +kernel
theorem dL_law_1138 : decode cL_law 1138 = .ok (.iconst 0, 1) := by decide +kernel
theorem dL_law_1139 : decode cL_law 1139 = .ok (.ireturn, 1) := by decide +kernel
theorem dL_law_1140 : decode cL_law 1140 = .ok (.aload_n 1, 1) := by decide +kernel
theorem dL_law_1141 : decode cL_law 1141 = .ok (.aload_n 0, 1) := by decide +kernel
theorem dL_law_1142 : decode cL_law 1142 = .ok (.iload_n 3, 1) := by decide +kernel
theorem dL_law_1143 : decode cL_law 1143 = .ok (.iconst 1, 1) := by decide +kernel
theorem dL_law_1144 : decode cL_law 1144 = .ok (.iadd, 1) := by decide +kernel
theorem dL_law_1145 : decode cL_law 1145 = .ok (.iaload, 1) := by decide +kernel
theorem dL_law_1146 : decode cL_law 1146 = .ok (.invokevirtual 139, 3) := by decide +kernel
theorem dL_law_1149 : decode cL_law 1149 = .ok (.aload_n 2, 1) := by decide +kernel
theorem dL_law_1150 : decode cL_law 1150 = .ok (.aload_n 0, 1) := by decide +kernel
theorem dL_law_1151 : decode cL_law 1151 = .ok (.iload_n 3, 1) := by decide +kernel
theorem dL_law_1152 : decode cL_law 1152 = .ok (.iconst 1, 1) := by decide +kernel
theorem dL_law_1153 : decode cL_law 1153 = .ok (.iadd, 1) := by decide +kernel
theorem dL_law_1154 : decode cL_law 1154 = .ok (.iaload, 1) := by decide +kernel
theorem dL_law_1155 : decode cL_law 1155 = .ok (.invokevirtual 142, 3) := by decide +kernel
theorem dL_law_1158 : decode cL_law 1158 = .ok (.if_icmp .eq 71, 3) := by decide +kernel
theorem dL_law_1161 : decode cL_law 1161 = .ok (.iconst 0, 1) := by decide +kernel
theorem dL_law_1162 : decode cL_law 1162 = .ok (.ireturn, 1) := by decide +kernel
theorem dL_law_1163 : decode cL_law 1163 = .ok (.aload_n 1, 1) := by decide +kernel
theorem dL_law_1164 : decode cL_law 1164 = .ok (.aload_n 0, 1) := by decide +kernel
theorem dL_law_1165 : decode cL_law 1165 = .ok (.iload_n 3, 1) := by decide +kernel
theorem dL_law_1166 : decode cL_law 1166 = .ok (.iconst 1, 1) := by decide +kernel
theorem dL_law_1167 : decode cL_law 1167 = .ok (.iadd, 1) := by decide +kernel
theorem dL_law_1168 : decode cL_law 1168 = .ok (.iaload, 1) := by decide +kernel
theorem dL_law_1169 : decode cL_law 1169 = .ok (.aload_n 0, 1) := by decide +kernel
theorem dL_law_1170 : decode cL_law 1170 = .ok (.iload_n 3, 1) := by decide +kernel
theorem dL_law_1171 : decode cL_law 1171 = .ok (.iconst 2, 1) := by decide +kernel
theorem dL_law_1172 : decode cL_law 1172 = .ok (.iadd, 1) := by decide +kernel
theorem dL_law_1173 : decode cL_law 1173 = .ok (.iaload, 1) := by decide +kernel
theorem dL_law_1174 : decode cL_law 1174 = .ok (.aload_n 0, 1) := by decide +kernel
theorem dL_law_1175 : decode cL_law 1175 = .ok (.iload_n 3, 1) := by decide +kernel
theorem dL_law_1176 : decode cL_law 1176 = .ok (.iconst 3, 1) := by decide +kernel
theorem dL_law_1177 : decode cL_law 1177 = .ok (.iadd, 1) := by decide +kernel
theorem dL_law_1178 : decode cL_law 1178 = .ok (.iaload, 1) := by decide +kernel
theorem dL_law_1179 : decode cL_law 1179 = .ok (.invokevirtual 143, 3) := by decide +kernel
theorem dL_law_1182 : decode cL_law 1182 = .ok (.aload_n 2, 1) := by decide +kernel
theorem dL_law_1183 : decode cL_law 1183 = .ok (.aload_n 0, 1) := by decide +kernel
theorem dL_law_1184 : decode cL_law 1184 = .ok (.iload_n 3, 1) := by decide +kernel
theorem dL_law_1185 : decode cL_law 1185 = .ok (.iconst 1, 1) := by decide +kernel
theorem dL_law_1186 : decode cL_law 1186 = .ok (.iadd, 1) := by decide +kernel
theorem dL_law_1187 : decode cL_law 1187 = .ok (.iaload, 1) := by decide +kernel
theorem dL_law_1188 : decode cL_law 1188 = .ok (.aload_n 0, 1) := by decide +kernel
theorem dL_law_1189 : decode cL_law 1189 = .ok (.iload_n 3, 1) := by decide +kernel
theorem dL_law_1190 : decode cL_law 1190 = .ok (.iconst 2, 1) := by decide +kernel
theorem dL_law_1191 : decode cL_law 1191 = .ok (.iadd, 1) := by decide +kernel
theorem dL_law_1192 : decode cL_law 1192 = .ok (.iaload, 1) := by decide +kernel
theorem dL_law_1193 : decode cL_law 1193 = .ok (.aload_n 0, 1) := by decide +kernel
theorem dL_law_1194 : decode cL_law 1194 = .ok (.iload_n 3, 1) := by decide +kernel
theorem dL_law_1195 : decode cL_law 1195 = .ok (.iconst 3, 1) := by decide +kernel
theorem dL_law_1196 : decode cL_law 1196 = .ok (.iadd, 1) := by decide +kernel
theorem dL_law_1197 : decode cL_law 1197 = .ok (.iaload, 1) := by decide +kernel
theorem dL_law_1198 : decode cL_law 1198 = .ok (.invokevirtual 146, 3) := by decide +kernel
theorem dL_law_1201 : decode cL_law 1201 = .ok (.if_icmp .eq 28, 3) := by decide +kernel
theorem dL_law_1204 : decode cL_law 1204 = .ok (.iconst 0, 1) := by decide +kernel
theorem dL_law_1205 : decode cL_law 1205 = .ok (.ireturn, 1) := by decide +kernel
theorem dL_law_1206 : decode cL_law 1206 = .ok (.aload_n 1, 1) := by decide +kernel
theorem dL_law_1207 : decode cL_law 1207 = .ok (.aload_n 0, 1) := by decide +kernel
theorem dL_law_1208 : decode cL_law 1208 = .ok (.iload_n 3, 1) := by decide +kernel
theorem dL_law_1209 : decode cL_law 1209 = .ok (.iconst 1, 1) := by decide +kernel
theorem dL_law_1210 : decode cL_law 1210 = .ok (.iadd, 1) := by decide +kernel
theorem dL_law_1211 : decode cL_law 1211 = .ok (.iaload, 1) := by decide +kernel
theorem dL_law_1212 : decode cL_law 1212 = .ok (.invokevirtual 147, 3) := by decide +kernel
theorem dL_law_1215 : decode cL_law 1215 = .ok (.aload_n 2, 1) := by decide +kernel
theorem dL_law_1216 : decode cL_law 1216 = .ok (.aload_n 0, 1) := by decide +kernel
theorem dL_law_1217 : decode cL_law 1217 = .ok (.iload_n 3, 1) := by decide +kernel
theorem dL_law_1218 : decode cL_law 1218 = .ok (.iconst 1, 1) := by decide +kernel
theorem dL_law_1219 : decode cL_law 1219 = .ok (.iadd, 1) := by decide +kernel
theorem dL_law_1220 : decode cL_law 1220 = .ok (.iaload, 1) := by decide +kernel
theorem dL_law_1221 : decode cL_law 1221 = .ok (.invokevirtual 150, 3) := by decide +kernel
theorem dL_law_1224 : decode cL_law 1224 = .ok (.if_icmp .eq 5, 3) := by decide +kernel
theorem dL_law_1227 : decode cL_law 1227 = .ok (.iconst 0, 1) := by decide +kernel
theorem dL_law_1228 : decode cL_law 1228 = .ok (.ireturn, 1) := by decide +kernel
theorem dL_law_1229 : decode cL_law 1229 = .ok (.iinc 3 8, 3) := by decide +kernel
theorem dL_law_1232 : decode cL_law 1232 = .ok (.goto (-1214), 3) := by decide +kernel
theorem dL_law_1235 : decode cL_law 1235 = .ok (.iconst 1, 1) := by decide +kernel
theorem dL_law_1236 : decode cL_law 1236 = .ok (.ireturn, 1) := by decide +kernel
end
section
/-! THE WORLD: one memory of ints and one of longs, by offset and place; the shape of the cells is fixed -/
abbrev Mem : Type := (Nat → Nat → Int32) × (Nat → Nat → Int64)
def upI (S : Mem) (o k : Nat) (x : Int32) : Mem := (fun q => if q = o then upd (S.1 o) k x else S.1 q, S.2)
def upJ (S : Mem) (o k : Nat) (x : Int64) : Mem := (S.1, fun q => if q = o then vp_updL (S.2 o) k x else S.2 q)
def shp : List (Nat × List Nat) := [(10, [3, 10, 52, 54, 62, 96, 99, 103]), (8, [0, 0, 0, 0, 0, 0, 1, 1, 1, 4, 5, 6, 7, 8, 9]), (12, [36]), (12, [36]), (13, [36]), (13, [60]), (13, [60]), (13, [60]), (2, [0, 11]), (15, [10, 14, 18, 22, 26, 30, 34, 38, 42, 46]), (0, [0, 0, 0, 0, 0, 0, 0, 0, 13]), (9, [0, 0, 14, 15]), (12, [31]), (12, [30]), (0, [0, 0, 0, 0, 0, 0, 0, 0, 17]), (9, [0, 0, 18, 19]), (12, [31]), (12, [30]), (0, [0, 0, 0, 0, 0, 0, 0, 0, 21]), (9, [0, 0, 22, 23]), (12, [31]), (12, [30]), (0, [0, 0, 0, 0, 0, 0, 0, 0, 25]), (9, [0, 0, 26, 27]), (12, [31]), (12, [30]), (0, [0, 0, 0, 0, 0, 0, 0, 0, 29]), (9, [0, 0, 30, 31]), (12, [31]), (12, [30]), (0, [0, 0, 0, 0, 0, 0, 0, 0, 33]), (9, [0, 0, 34, 35]), (12, [31]), (12, [30]), (0, [0, 0, 0, 0, 0, 0, 0, 0, 37]), (9, [0, 0, 38, 39]), (12, [31]), (12, [30]), (0, [0, 0, 0, 0, 0, 0, 0, 0, 41]), (9, [0, 0, 42, 43]), (12, [31]), (12, [30]), (0, [0, 0, 0, 0, 0, 0, 0, 0, 45]), (9, [0, 0, 46, 47]), (12, [31]), (12, [30]), (0, [0, 0, 0, 0, 0, 0, 0, 0, 49]), (9, [0, 0, 50, 51]), (12, [31]), (12, [30]), (5, [3, 10, 53]), (12, [36]), (6, [3, 10, 55, 56, 61, 0, 0]), (13, [60]), (17, [55, 56, 57, 58]), (13, [60]), (13, [60]), (13, [60]), (13, [60]), (13, [60]), (3, [3, 54, 52, 63, 64, 0, 0, 0]), (12, [36]), (16, [63, 64, 65, 66, 67, 68, 69, 70, 71, 72, 73, 74, 75, 76, 77, 78, 79, 80, 81, 82, 83, 84, 85, 86, 87, 88, 89, 90, 91, 92, 93]), (12, [36]), (12, [36]), (12, [36]), (12, [36]), (12, [36]), (12, [36]), (12, [36]), (12, [36]), (12, [36]), (12, [36]), (12, [36]), (12, [36]), (12, [36]), (12, [36]), (12, [36]), (12, [36]), (12, [36]), (12, [36]), (12, [36]), (12, [36]), (12, [36]), (12, [36]), (12, [36]), (12, [36]), (12, [36]), (12, [36]), (12, [36]), (12, [36]), (12, [36]), (12, [36]), (12, [36]), (1, [10, 54, 0, 97, 98]), (12, [10]), (12, [10]), (4, [10, 54, 0, 0, 100, 101, 102]), (12, [5]), (12, [5]), (12, [10]), (7, [3, 10, 0, 0, 0, 0, 104]), (13, [60]), (11, [0, 0, 0, 0, 0, 0, 106, 107, 108, 0, 109, 110, 111, 112, 113, 114, 115, 116, 117, 0, 0, 118, 119, 120, 121, 122, 0, 0, 0, 0, 123, 124]), (14, [2160]), (14, [2340]), (12, [36]), (12, [80]), (12, [10]), (12, [10]), (14, [10]), (12, [600]), (12, [2160]), (12, [10800]), (14, [2160]), (12, [2160]), (12, [60]), (12, [2160]), (12, [36]), (12, [5]), (12, [5]), (14, [36]), (14, [36])]
def slV (b : Nat) (S : Mem) (o k : Nat) : Nat → Value
  | 0 => .int (S.1 o k)
  | 1 => .long (S.2 o k)
  | n + 2 => .ref (b + n)
def mkC (cA : Nat → ClassId) (b : Nat) (S : Mem) (o : Nat) (q : Nat × List Nat) : va_E :=
  if q.1 < 12 then .inr (q.1, q.2.mapIdx (slV b S o))
  else if q.1 = 12 then .inl (cA 12, (q.2.getD 0 0, .inl (S.1 o)))
  else if q.1 = 13 then .inl (cA 13, (q.2.getD 0 0, .inr (.inl (S.2 o))))
  else if q.1 = 14 then .inl (cA 14, (q.2.getD 0 0, .inl (S.1 o)))
  else .inl (cA q.1, (q.2.length, .inr (.inr (.inr (.inr (fun j => (q.2[j]?).map (fun t => b + t)))))))
def cellOf (cA : Nat → ClassId) (b : Nat) (S : Mem) (o : Nat) : va_E := mkC cA b S o (shp.getD o (0, []))
def loF : Bool → Nat | true => 0 | false => 1
def hiF : Bool → Nat | true => 123 | false => 8
def inU (u : Bool) (o : Nat) : Bool := Nat.ble (loF u) o && Nat.blt o (hiF u)
def tysF (cA : Nat → ClassId) : Bool → List (ClassId × FieldType)
  | true => [(cA 12, .int), (cA 13, .long), (cA 14, .boolean), (cA 15, .object "SmallFlyers$Ask"), (cA 16, .array .int), (cA 17, .array .long)]
  | false => [(cA 12, .int), (cA 13, .long)]
def wsOf (cA : Nat → ClassId) (b : Nat) (u : Bool) (S : Mem) : va_W := (List.range (hiF u - loF u)).map (fun k => (b + (loF u + k), cellOf cA b S (loF u + k)))
def Ar (b : Nat) (u : Bool) : Nat → Prop := fun q => b + loF u ≤ q
theorem inU_spec {u : Bool} {o : Nat} (h : inU u o = true) : loF u ≤ o ∧ o < hiF u := by
  simp only [inU, Bool.and_eq_true, Nat.ble_eq, Nat.blt_eq] at h
  exact h
theorem wsOf_get {cA : Nat → ClassId} {b : Nat} {u : Bool} {S : Mem} {o : Nat} (h : inU u o = true) : (wsOf cA b u S)[o - loF u]? = some (b + o, cellOf cA b S o) := by
  obtain ⟨h1, h2⟩ := inU_spec h
  have h3 : o - loF u < hiF u - loF u := by omega
  simp only [wsOf, List.getElem?_map, List.getElem?_range h3, Option.map_some]
  rw [show loF u + (o - loF u) = o by omega]
theorem wsOf_at {cA : Nat → ClassId} {b : Nat} {u : Bool} {S : Mem} {k : Nat} {q : Nat × va_E} (h : (wsOf cA b u S)[k]? = some q) : k < hiF u - loF u ∧ q = (b + (loF u + k), cellOf cA b S (loF u + k)) := by
  by_cases hk : k < hiF u - loF u
  · simp only [wsOf, List.getElem?_map, List.getElem?_range hk, Option.map_some, Option.some.injEq] at h
    exact ⟨hk, h.symm⟩
  · rw [List.getElem?_eq_none (by simp [wsOf]; omega)] at h
    cases h
theorem slV_congr {b : Nat} {S S' : Mem} {o : Nat} (h1 : S.1 o = S'.1 o) (h2 : S.2 o = S'.2 o) : slV b S o = slV b S' o := by
  funext k n
  match n with
  | 0 => show Value.int _ = Value.int _; rw [h1]
  | 1 => show Value.long _ = Value.long _; rw [h2]
  | n + 2 => rfl
theorem cell_congr {cA : Nat → ClassId} {b : Nat} {S S' : Mem} {o : Nat} (h1 : S.1 o = S'.1 o) (h2 : S.2 o = S'.2 o) : cellOf cA b S o = cellOf cA b S' o := by
  unfold cellOf mkC
  rw [slV_congr h1 h2, h1, h2]
theorem wsOf_set {cA : Nat → ClassId} {b : Nat} {u : Bool} {S S' : Mem} {o : Nat} {e : va_E} (h : inU u o = true) (he : e = cellOf cA b S' o) (hn : ∀ q, q ≠ o → cellOf cA b S' q = cellOf cA b S q) : (wsOf cA b u S).set (o - loF u) (b + o, e) = wsOf cA b u S' := by
  obtain ⟨h1, h2⟩ := inU_spec h
  apply List.ext_getElem?
  intro i
  by_cases hi : i < hiF u - loF u
  · rw [List.getElem?_set]
    by_cases e1 : o - loF u = i
    · subst e1
      simp only [wsOf, List.getElem?_map, List.getElem?_range hi, Option.map_some, List.length_map, List.length_range, hi, if_true]
      rw [show loF u + (o - loF u) = o by omega, he]
    · simp only [e1, if_false, wsOf, List.getElem?_map, List.getElem?_range hi, Option.map_some]
      rw [hn _ (by omega)]
  · rw [List.getElem?_eq_none (by simp [wsOf]; omega), List.getElem?_eq_none (by simp [wsOf]; omega)]
theorem wsOf_D {cA : Nat → ClassId} {b : Nat} {u : Bool} {S : Mem} : va_D (Ar b u) (wsOf cA b u S) := by
  refine ⟨fun i j x y hx hy hxy => ?_, fun k q hk => ?_⟩
  · obtain ⟨-, rfl⟩ := wsOf_at hx
    obtain ⟨-, rfl⟩ := wsOf_at hy
    dsimp only at hxy
    omega
  · obtain ⟨-, rfl⟩ := wsOf_at hk
    show b + loF u ≤ b + (loF u + k)
    omega
theorem upI_1 {S : Mem} {o k : Nat} {x : Int32} : (upI S o k x).1 o = upd (S.1 o) k x := if_pos rfl
theorem upI_n {S : Mem} {o k q : Nat} {x : Int32} (h : q ≠ o) : (upI S o k x).1 q = S.1 q := if_neg h
theorem upI_2 {S : Mem} {o k : Nat} {x : Int32} : (upI S o k x).2 = S.2 := rfl
theorem upJ_2 {S : Mem} {o k : Nat} {x : Int64} : (upJ S o k x).2 o = vp_updL (S.2 o) k x := if_pos rfl
theorem upJ_n {S : Mem} {o k q : Nat} {x : Int64} (h : q ≠ o) : (upJ S o k x).2 q = S.2 q := if_neg h
theorem upJ_1 {S : Mem} {o k : Nat} {x : Int64} : (upJ S o k x).1 = S.1 := rfl
theorem upI_cell {cA : Nat → ClassId} {b : Nat} {S : Mem} {o k : Nat} {x : Int32} : ∀ q, q ≠ o → cellOf cA b (upI S o k x) q = cellOf cA b S q := fun _ h => cell_congr (upI_n h) rfl
theorem upJ_cell {cA : Nat → ClassId} {b : Nat} {S : Mem} {o k : Nat} {x : Int64} : ∀ q, q ≠ o → cellOf cA b (upJ S o k x) q = cellOf cA b S q := fun _ h => cell_congr rfl (upJ_n h)
/-- what shape a cell has -/
def shIs (o ci : Nat) (l : List Nat) : Prop := shp.getD o (0, []) = (ci, l)
theorem cellO {cA : Nat → ClassId} {b : Nat} {S : Mem} {o ci : Nat} {l : List Nat} (h : shIs o ci l) (hc : ci < 12) : cellOf cA b S o = .inr (ci, l.mapIdx (slV b S o)) := by
  unfold cellOf
  rw [show shp.getD o (0, []) = (ci, l) from h]
  exact if_pos hc
theorem cellI {cA : Nat → ClassId} {b : Nat} {S : Mem} {o n : Nat} (h : shIs o 12 [n]) : cellOf cA b S o = .inl (cA 12, (n, .inl (S.1 o))) := by
  unfold cellOf
  rw [show shp.getD o (0, []) = (12, [n]) from h]
  rfl
theorem cellJ {cA : Nat → ClassId} {b : Nat} {S : Mem} {o n : Nat} (h : shIs o 13 [n]) : cellOf cA b S o = .inl (cA 13, (n, .inr (.inl (S.2 o)))) := by
  unfold cellOf
  rw [show shp.getD o (0, []) = (13, [n]) from h]
  rfl
theorem cellZ {cA : Nat → ClassId} {b : Nat} {S : Mem} {o n : Nat} (h : shIs o 14 [n]) : cellOf cA b S o = .inl (cA 14, (n, .inl (S.1 o))) := by
  unfold cellOf
  rw [show shp.getD o (0, []) = (14, [n]) from h]
  rfl
theorem cellR {cA : Nat → ClassId} {b : Nat} {S : Mem} {o ci : Nat} {l : List Nat} (h : shIs o ci l) (hc : 15 ≤ ci) : cellOf cA b S o = .inl (cA ci, (l.length, .inr (.inr (.inr (.inr (fun j => (l[j]?).map (fun t => b + t))))))) := by
  unfold cellOf
  rw [show shp.getD o (0, []) = (ci, l) from h]
  unfold mkC
  rw [if_neg (by dsimp only; omega), if_neg (by dsimp only; omega), if_neg (by dsimp only; omega), if_neg (by dsimp only; omega)]
/-- a put into a slot -/
theorem mapIdx_setI {b : Nat} {S : Mem} {o k : Nat} {x : Int32} {l : List Nat} (hk : l[k]? = some 0) : (l.mapIdx (slV b S o)).set k (.int x) = l.mapIdx (slV b (upI S o k x) o) := by
  apply List.ext_getElem?
  intro i
  have hkl : k < l.length := (List.getElem?_eq_some_iff.mp hk).1
  rw [List.getElem?_set, List.getElem?_mapIdx, List.getElem?_mapIdx]
  by_cases e1 : k = i
  · subst e1
    simp only [List.length_mapIdx, hkl, if_true, hk, Option.map_some]
    show some (Value.int x) = some (Value.int _)
    rw [upI_1]; simp [upd]
  · simp only [e1, if_false]
    congr 1
    funext n
    match n with
    | 0 => show Value.int _ = Value.int _; rw [upI_1]; simp [upd, Ne.symm e1]
    | 1 => rfl
    | n + 2 => rfl
theorem mapIdx_setJ {b : Nat} {S : Mem} {o k : Nat} {x : Int64} {l : List Nat} (hk : l[k]? = some 1) : (l.mapIdx (slV b S o)).set k (.long x) = l.mapIdx (slV b (upJ S o k x) o) := by
  apply List.ext_getElem?
  intro i
  have hkl : k < l.length := (List.getElem?_eq_some_iff.mp hk).1
  rw [List.getElem?_set, List.getElem?_mapIdx, List.getElem?_mapIdx]
  by_cases e1 : k = i
  · subst e1
    simp only [List.length_mapIdx, hkl, if_true, hk, Option.map_some]
    show some (Value.long x) = some (Value.long _)
    rw [upJ_2]; simp [vp_updL]
  · simp only [e1, if_false]
    congr 1
    funext n
    match n with
    | 0 => rfl
    | 1 => show Value.long _ = Value.long _; rw [upJ_2]; simp [vp_updL, Ne.symm e1]
    | n + 2 => rfl
end
section
/-! THE ROWS over that world: a contract is a run of a function of the memory -/
def nm {α β : Type} (a : α) (k : α → β) : β := k a
def cal {α β : Type} (o : Option (α × Mem)) (k : α → Mem → Option β) : Option β := match o with
  | none => none
  | some q => k q.1 q.2
def inB (x : Int32) (n : Nat) : Bool := decide (¬ (x < 0 ∨ n ≤ x.toNatClampNeg))
theorem inB_in {x : Int32} {n : Nat} (h : inB x n = true) : vp_in x n := by
  have h1 : ¬ (x < 0 ∨ n ≤ x.toNatClampNeg) := of_decide_eq_true h
  exact h1
theorem inB_lt {x : Int32} {n : Nat} (h : inB x n = true) : x.toNatClampNeg < n := Nat.not_le.mp fun q => inB_in h (Or.inr q)
theorem cal_some {α β : Type} {o : Option (α × Mem)} {k : α → Mem → Option β} {r : β} (h : cal o k = some r) : ∃ q, o = some q ∧ k q.1 q.2 = some r := by
  cases o with
  | none => cases h
  | some q => exact ⟨q, rfl, h⟩
def tb : List Cond := lw_tbl.filter goodWord
theorem tb_in {w : Cond} (h : w ∈ lw_tbl) (g : goodWord w = true) : w ∈ tb := List.mem_filter.mpr ⟨h, g⟩
def nests : List (String × Nat × MethodName × String) := [(RX8, 95, yX10_isMinute, RX10), (RX2, 17, yX0_init, RX10), (RX0, 9, yX9_init, RX10), (RX8, 103, yX10_holds, RX10), (RX6, 82, yX10_isIn, RX10), (RX6, 138, yX10_holds, RX10), (RX3, 105, yX10_holds, RX10), (RX1, 55, yX10_isIn, RX10), (RX4, 47, yX10_isIn, RX10), (RX7, 70, yX10_holds, RX10)]
def Nst (U : State) : Prop := ∀ q ∈ nests, va_Nw (.methodLinkNest q.1 q.2.1 q.2.2.1 q.2.2.2) U
theorem Nst.warm {s U : State} (hW : s.WarmedH U.vm) (h : Nst s) : Nst U := fun q hq => va_Nw.warmM hW (h q hq)
theorem Nst.same {s U : State} (hW : s.vm = U.vm) (h : Nst s) : Nst U := fun q hq => va_Nw.same rfl hW (h q hq)
def Cx (p : Program) (s : State) (m : MethodId) (args : Array Value) (meth : Method) (c : Code) (D : va_G) (cA : Nat → ClassId) (u : Bool) (own : String) (cc : ByteArray) (nL : Nat) (ret : Option FieldType) : Prop :=
  p.tables.exec = Jvm.exec ∧ c.code = cc ∧ meth.sig.returnType = ret ∧ c.maxLocals = nL ∧ s.vm.findClass own = some m.cls ∧ (∀ w ∈ tb, w.before args s = true) ∧ va_K D vwCl (tysF cA u) s ∧ meth.locks = false ∧ Nst s
def Hd (D : va_G) (cA : Nat → ClassId) (b : Nat) (u : Bool) (s : State) (H : Heap) (locs : List Loc) (S : Mem) : Prop :=
  va_P D vwCl (wsOf cA b u S) H ∧ va_S (Ar b u) s.heap H locs
def Wo (D : va_G) (cA : Nat → ClassId) (b : Nat) (u : Bool) (S : Mem) (U : State) : Prop := va_P D vwCl (wsOf cA b u S) U.heap ∧ va_K D vwCl (tysF cA u) U ∧ Nst U
def Qe (D : va_G) (cA : Nat → ClassId) (b : Nat) (u : Bool) (S' : Mem) (rv : Option Value) : Array Value → State → Outcome → State → Prop := fun _ st o t => o = .returned rv ∧ va_P D vwCl (wsOf cA b u S') t.heap ∧ va_F (Ar b u) st t
def rmOf (d : Nat) : Room := { frames := d, cells := 0, slots := 0, locals := 48 * d }
def Ct (l : Launch) (y : MethodName) (cc : ByteArray) (nL : Nat) (ret : Option FieldType) (d : Nat) (D : va_G) (cA : Nat → ClassId) (b : Nat) (u : Bool) (av : List Value) (S S' : Mem) (rv : Option Value) : Prop :=
  Met l y (.code y cc nL ret :: tb) (rmOf d) (va_Pc av (Wo D cA b u S)) (Qe D cA b u S' rv) 0 0 (Ar b u)
theorem good_tb : ∀ w ∈ tb, goodWord w = true := fun _ h => (List.mem_filter.mp h).2
theorem good_in : ∀ w ∈ tb, w ∈ tb ∧ ((w.onTables && w.keeps) = true ∨ ∃ ty, w = .arrayClass ty) := fun w h => ⟨h, good_of_word (good_tb w h)⟩
theorem good_all {y : MethodName} {cc : ByteArray} {nL : Nat} {ret : Option FieldType} (h : Cond.code y cc nL ret ∈ tb) : GoodIn tb (.code y cc nL ret :: tb) := by
  intro w hw
  rcases List.mem_cons.mp hw with rfl | hw
  · exact good_in _ h
  · exact good_in _ hw
def FL (own : String) (idx ci k : Nat) : Prop := ∃ (C : String) (T : u_T) (N : Nat), vwCl[ci]? = some (C, T, N) ∧ k < N ∧ Cond.fieldLink own idx (T k).1 (T k).2.1 (T k).2.2.1 ∈ tb ∧ ∀ w ∈ u_ws C T N, w ∈ tb
def FP (own : String) (idx ci k : Nat) (ty : FieldType) : Prop := ∃ (C : String) (T : u_T) (N : Nat) (ty0 : Nat → FieldType), vwCl[ci]? = some (C, T, N) ∧ k < N ∧ Cond.fieldLink own idx (T k).1 (T k).2.1 (T k).2.2.1 ∈ tb ∧ (∀ w ∈ u_ws C T N, w ∈ tb) ∧ (∀ k, k < N → parseFieldDescriptor (T k).2.2.1 = some (ty0 k)) ∧ (∀ a, a < N → ∀ b, b < N → a ≠ b → (T a).2.1 ≠ (T b).2.1) ∧ (T k).2.2.2 = false ∧ parseFieldDescriptor (T k).2.2.1 = some ty
theorem ci_lt {ci : Nat} {q : vw_C} (h : vwCl[ci]? = some q) : ci < 12 := (List.getElem?_eq_some_iff.mp h).1
section XR
variable {p : Program} {l : Launch} {e : Env} {R : Room} {s : State} {m : MethodId} {args : Array Value} {below : List Frame} {meth : Method} {c : Code} {H : Heap} {locs : List Loc} {cells slots : Nat} {Q : State → Prop}
variable {D : va_G} {cA : Nat → ClassId} {b : Nat} {u : Bool} {own : String} {cc : ByteArray} {nL : Nat} {ret : Option FieldType} {S : Mem} {pc : Nat} {ls : Array Slot} {rest : List Value}
theorem x_geti (C : Cx p s m args meth c D cA u own cc nL ret) (hH : Hd D cA b u s H locs S) {idx ci k o : Nat} {sl : List Nat} (f : FL own idx ci k) (hs : shIs o ci sl) (hk : sl[k]? = some 0) (hu : inU u o = true) (hd : decode cc pc = .ok (.getfield idx, 3))
    (kk : W p l e R s m args below meth c H locs cells slots Q (F0 m (pc + 3) ls (.int (S.1 o k) :: rest))) : W p l e R s m args below meth c H locs cells slots Q (F0 m pc ls (.ref (b + o) :: rest)) := by
  obtain ⟨hx, hb, -, -, hown, hts, hK, -, -⟩ := C
  obtain ⟨Cn, T, N, h1, h2, h3, h4⟩ := f
  have he := wsOf_get (cA := cA) (b := b) (S := S) hu
  rw [cellO hs (ci_lt h1)] at he
  exact va_get hx hb hts h4 hown hK hH.1 (o - loF u) he h1 k h2 (hts _ h3) (fun _ h => h) (by rw [List.getElem?_mapIdx, hk]; rfl) hd kk
theorem x_getj (C : Cx p s m args meth c D cA u own cc nL ret) (hH : Hd D cA b u s H locs S) {idx ci k o : Nat} {sl : List Nat} (f : FL own idx ci k) (hs : shIs o ci sl) (hk : sl[k]? = some 1) (hu : inU u o = true) (hd : decode cc pc = .ok (.getfield idx, 3))
    (kk : W p l e R s m args below meth c H locs cells slots Q (F0 m (pc + 3) ls (.long (S.2 o k) :: rest))) : W p l e R s m args below meth c H locs cells slots Q (F0 m pc ls (.ref (b + o) :: rest)) := by
  obtain ⟨hx, hb, -, -, hown, hts, hK, -, -⟩ := C
  obtain ⟨Cn, T, N, h1, h2, h3, h4⟩ := f
  have he := wsOf_get (cA := cA) (b := b) (S := S) hu
  rw [cellO hs (ci_lt h1)] at he
  exact va_get hx hb hts h4 hown hK hH.1 (o - loF u) he h1 k h2 (hts _ h3) (fun _ h => h) (by rw [List.getElem?_mapIdx, hk]; rfl) hd kk
theorem x_getr (C : Cx p s m args meth c D cA u own cc nL ret) (hH : Hd D cA b u s H locs S) {idx ci k o t : Nat} {sl : List Nat} (f : FL own idx ci k) (hs : shIs o ci sl) (hk : sl[k]? = some (t + 2)) (hu : inU u o = true) (hd : decode cc pc = .ok (.getfield idx, 3))
    (kk : W p l e R s m args below meth c H locs cells slots Q (F0 m (pc + 3) ls (.ref (b + t) :: rest))) : W p l e R s m args below meth c H locs cells slots Q (F0 m pc ls (.ref (b + o) :: rest)) := by
  obtain ⟨hx, hb, -, -, hown, hts, hK, -, -⟩ := C
  obtain ⟨Cn, T, N, h1, h2, h3, h4⟩ := f
  have he := wsOf_get (cA := cA) (b := b) (S := S) hu
  rw [cellO hs (ci_lt h1)] at he
  exact va_get hx hb hts h4 hown hK hH.1 (o - loF u) he h1 k h2 (hts _ h3) (fun _ h => h) (by rw [List.getElem?_mapIdx, hk]; rfl) hd kk
theorem x_puti {α : Type} {K : Mem → Option α} {r : α} (C : Cx p s m args meth c D cA u own cc nL ret) (hH : Hd D cA b u s H locs S) {idx ci k o : Nat} {x : Int32} {sl : List Nat} (f : FP own idx ci k .int) (hs : shIs o ci sl) (hk : sl[k]? = some 0) (hu : inU u o = true) (hd : decode cc pc = .ok (.putfield idx, 3)) (h : nm (upI S o k x) K = some r)
    (kk : ∀ (S1 : Mem) (H1 : Heap) (locs1 : List Loc), K S1 = some r → Hd D cA b u s H1 locs1 S1 → W p l e R s m args below meth c H1 locs1 cells slots Q (F0 m (pc + 3) ls rest)) : W p l e R s m args below meth c H locs cells slots Q (F0 m pc ls (.int x :: .ref (b + o) :: rest)) := by
  obtain ⟨hx, hb, -, -, hown, hts, hK, -, -⟩ := C
  obtain ⟨Cn, T, N, ty0, h1, h2, h3, h4, h5, h6, h7, h8⟩ := f
  have he := wsOf_get (cA := cA) (b := b) (S := S) hu
  rw [cellO hs (ci_lt h1)] at he
  refine va_put hx hb hts h4 ty0 h5 h6 hown hK hH.1 wsOf_D hH.2 (o - loF u) he h1 k h2 (hts _ h3) (fun _ h => h) h7 h8 rfl rfl (by rw [List.length_mapIdx]; exact (List.getElem?_eq_some_iff.mp hk).1) hd (fun H1 locs1 hP hD hS => kk (upI S o k x) H1 locs1 h ⟨?_, hS⟩)
  rw [wsOf_set (S' := upI S o k x) hu (by rw [cellO hs (ci_lt h1), mapIdx_setI hk]) upI_cell] at hP
  exact hP
theorem x_putz {α : Type} {K : Mem → Option α} {r : α} (C : Cx p s m args meth c D cA u own cc nL ret) (hH : Hd D cA b u s H locs S) {idx ci k o : Nat} {x : Int32} {sl : List Nat} (f : FP own idx ci k .boolean) (hs : shIs o ci sl) (hk : sl[k]? = some 0) (hu : inU u o = true) (hd : decode cc pc = .ok (.putfield idx, 3)) (hz : x = 0 ∨ x = 1) (h : nm (upI S o k x) K = some r)
    (kk : ∀ (S1 : Mem) (H1 : Heap) (locs1 : List Loc), K S1 = some r → Hd D cA b u s H1 locs1 S1 → W p l e R s m args below meth c H1 locs1 cells slots Q (F0 m (pc + 3) ls rest)) : W p l e R s m args below meth c H locs cells slots Q (F0 m pc ls (.int x :: .ref (b + o) :: rest)) := by
  obtain ⟨hx, hb, -, -, hown, hts, hK, -, -⟩ := C
  obtain ⟨Cn, T, N, ty0, h1, h2, h3, h4, h5, h6, h7, h8⟩ := f
  have he := wsOf_get (cA := cA) (b := b) (S := S) hu
  rw [cellO hs (ci_lt h1)] at he
  refine va_put hx hb hts h4 ty0 h5 h6 hown hK hH.1 wsOf_D hH.2 (o - loF u) he h1 k h2 (hts _ h3) (fun _ h => h) h7 h8 (by rcases hz with rfl | rfl <;> rfl) (by rcases hz with rfl | rfl <;> rfl) (by rw [List.length_mapIdx]; exact (List.getElem?_eq_some_iff.mp hk).1) hd (fun H1 locs1 hP hD hS => kk (upI S o k x) H1 locs1 h ⟨?_, hS⟩)
  rw [wsOf_set (S' := upI S o k x) hu (by rw [cellO hs (ci_lt h1), mapIdx_setI hk]) upI_cell] at hP
  exact hP
theorem x_putj {α : Type} {K : Mem → Option α} {r : α} (C : Cx p s m args meth c D cA u own cc nL ret) (hH : Hd D cA b u s H locs S) {idx ci k o : Nat} {x : Int64} {sl : List Nat} (f : FP own idx ci k .long) (hs : shIs o ci sl) (hk : sl[k]? = some 1) (hu : inU u o = true) (hd : decode cc pc = .ok (.putfield idx, 3)) (h : nm (upJ S o k x) K = some r)
    (kk : ∀ (S1 : Mem) (H1 : Heap) (locs1 : List Loc), K S1 = some r → Hd D cA b u s H1 locs1 S1 → W p l e R s m args below meth c H1 locs1 cells slots Q (F0 m (pc + 3) ls rest)) : W p l e R s m args below meth c H locs cells slots Q (F0 m pc ls (.long x :: .ref (b + o) :: rest)) := by
  obtain ⟨hx, hb, -, -, hown, hts, hK, -, -⟩ := C
  obtain ⟨Cn, T, N, ty0, h1, h2, h3, h4, h5, h6, h7, h8⟩ := f
  have he := wsOf_get (cA := cA) (b := b) (S := S) hu
  rw [cellO hs (ci_lt h1)] at he
  refine va_put hx hb hts h4 ty0 h5 h6 hown hK hH.1 wsOf_D hH.2 (o - loF u) he h1 k h2 (hts _ h3) (fun _ h => h) h7 h8 rfl rfl (by rw [List.length_mapIdx]; exact (List.getElem?_eq_some_iff.mp hk).1) hd (fun H1 locs1 hP hD hS => kk (upJ S o k x) H1 locs1 h ⟨?_, hS⟩)
  rw [wsOf_set (S' := upJ S o k x) hu (by rw [cellO hs (ci_lt h1), mapIdx_setJ hk]) upJ_cell] at hP
  exact hP
theorem ty12 (u : Bool) : (tysF cA u)[0]? = some (cA 12, .int) := by cases u <;> rfl
theorem ty13 (u : Bool) : (tysF cA u)[1]? = some (cA 13, .long) := by cases u <;> rfl
theorem x_iald {α : Type} {K : Option α} {r : α} (C : Cx p s m args meth c D cA u own cc nL ret) (hH : Hd D cA b u s H locs S) {n o : Nat} {i : Int32} (hs : shIs o 12 [n]) (hu : inU u o = true) (hd : decode cc pc = .ok (.iaload, 1)) (h : (if inB i n = true then K else none) = some r)
    (kk : K = some r → W p l e R s m args below meth c H locs cells slots Q (F0 m (pc + 1) ls (.int (S.1 o i.toNatClampNeg) :: rest))) : W p l e R s m args below meth c H locs cells slots Q (F0 m pc ls (.int i :: .ref (b + o) :: rest)) := by
  obtain ⟨hx, hb, -, -, hown, hts, hK, -, -⟩ := C
  have he := wsOf_get (cA := cA) (b := b) (S := S) hu
  rw [cellI hs] at he
  by_cases hi : inB i n = true
  · rw [if_pos hi] at h
    exact va_iald hx hb hK hH.1 (o - loF u) 0 he (ty12 u) (inB_in hi) hd (kk h)
  · rw [if_neg hi] at h; cases h
theorem x_lald {α : Type} {K : Option α} {r : α} (C : Cx p s m args meth c D cA u own cc nL ret) (hH : Hd D cA b u s H locs S) {n o : Nat} {i : Int32} (hs : shIs o 13 [n]) (hu : inU u o = true) (hd : decode cc pc = .ok (.laload, 1)) (h : (if inB i n = true then K else none) = some r)
    (kk : K = some r → W p l e R s m args below meth c H locs cells slots Q (F0 m (pc + 1) ls (.long (S.2 o i.toNatClampNeg) :: rest))) : W p l e R s m args below meth c H locs cells slots Q (F0 m pc ls (.int i :: .ref (b + o) :: rest)) := by
  obtain ⟨hx, hb, -, -, hown, hts, hK, -, -⟩ := C
  have he := wsOf_get (cA := cA) (b := b) (S := S) hu
  rw [cellJ hs] at he
  by_cases hi : inB i n = true
  · rw [if_pos hi] at h
    exact va_lald hx hb hK hH.1 (o - loF u) 1 he (ty13 u) (inB_in hi) hd (kk h)
  · rw [if_neg hi] at h; cases h
theorem x_zald {α : Type} {K : Option α} {r : α} (C : Cx p s m args meth c D cA true own cc nL ret) (hH : Hd D cA b true s H locs S) {n o : Nat} {i : Int32} (hs : shIs o 14 [n]) (hu : inU true o = true) (hd : decode cc pc = .ok (.baload, 1)) (h : (if inB i n = true then K else none) = some r)
    (kk : K = some r → W p l e R s m args below meth c H locs cells slots Q (F0 m (pc + 1) ls (.int (S.1 o i.toNatClampNeg) :: rest))) : W p l e R s m args below meth c H locs cells slots Q (F0 m pc ls (.int i :: .ref (b + o) :: rest)) := by
  obtain ⟨hx, hb, -, -, hown, hts, hK, -, -⟩ := C
  have he := wsOf_get (cA := cA) (b := b) (S := S) hu
  rw [cellZ hs] at he
  by_cases hi : inB i n = true
  · rw [if_pos hi] at h
    exact va_zald hx hb hK hH.1 (o - loF true) 2 he rfl (inB_in hi) hd (kk h)
  · rw [if_neg hi] at h; cases h
theorem x_iast {α : Type} {K : Mem → Option α} {r : α} (C : Cx p s m args meth c D cA u own cc nL ret) (hH : Hd D cA b u s H locs S) {n o : Nat} {i x : Int32} (hs : shIs o 12 [n]) (hu : inU u o = true) (hd : decode cc pc = .ok (.iastore, 1)) (h : (if inB i n = true then nm (upI S o i.toNatClampNeg x) K else none) = some r)
    (kk : ∀ (S1 : Mem) (H1 : Heap) (locs1 : List Loc), K S1 = some r → Hd D cA b u s H1 locs1 S1 → W p l e R s m args below meth c H1 locs1 cells slots Q (F0 m (pc + 1) ls rest)) : W p l e R s m args below meth c H locs cells slots Q (F0 m pc ls (.int x :: .int i :: .ref (b + o) :: rest)) := by
  obtain ⟨hx, hb, -, -, hown, hts, hK, -, -⟩ := C
  have he := wsOf_get (cA := cA) (b := b) (S := S) hu
  rw [cellI hs] at he
  by_cases hi : inB i n = true
  · rw [if_pos hi] at h
    refine va_iast hx hb hK hH.1 wsOf_D hH.2 (o - loF u) 0 he (ty12 u) (inB_in hi) hd (fun H1 locs1 hP hD hS => kk (upI S o i.toNatClampNeg x) H1 locs1 h ⟨?_, hS⟩)
    rw [wsOf_set (S' := upI S o i.toNatClampNeg x) hu (by rw [cellI hs, upI_1]) upI_cell] at hP
    exact hP
  · rw [if_neg hi] at h; cases h
theorem x_zast {α : Type} {K : Mem → Option α} {r : α} (C : Cx p s m args meth c D cA true own cc nL ret) (hH : Hd D cA b true s H locs S) {n o : Nat} {i x : Int32} (hs : shIs o 14 [n]) (hu : inU true o = true) (hd : decode cc pc = .ok (.bastore, 1)) (h : (if inB i n = true then nm (upI S o i.toNatClampNeg (vp_nar .boolean x)) K else none) = some r)
    (kk : ∀ (S1 : Mem) (H1 : Heap) (locs1 : List Loc), K S1 = some r → Hd D cA b true s H1 locs1 S1 → W p l e R s m args below meth c H1 locs1 cells slots Q (F0 m (pc + 1) ls rest)) : W p l e R s m args below meth c H locs cells slots Q (F0 m pc ls (.int x :: .int i :: .ref (b + o) :: rest)) := by
  obtain ⟨hx, hb, -, -, hown, hts, hK, -, -⟩ := C
  have he := wsOf_get (cA := cA) (b := b) (S := S) hu
  rw [cellZ hs] at he
  by_cases hi : inB i n = true
  · rw [if_pos hi] at h
    refine va_zast hx hb hK hH.1 wsOf_D hH.2 (o - loF true) 2 he rfl (inB_in hi) hd (fun H1 locs1 hP hD hS => kk (upI S o i.toNatClampNeg (vp_nar .boolean x)) H1 locs1 h ⟨?_, hS⟩)
    rw [wsOf_set (S' := upI S o i.toNatClampNeg (vp_nar .boolean x)) hu (by rw [cellZ hs, upI_1]) upI_cell] at hP
    exact hP
  · rw [if_neg hi] at h; cases h
theorem x_last {α : Type} {K : Mem → Option α} {r : α} (C : Cx p s m args meth c D cA u own cc nL ret) (hH : Hd D cA b u s H locs S) {n o : Nat} {i : Int32} {x : Int64} (hs : shIs o 13 [n]) (hu : inU u o = true) (hd : decode cc pc = .ok (.lastore, 1)) (h : (if inB i n = true then nm (upJ S o i.toNatClampNeg x) K else none) = some r)
    (kk : ∀ (S1 : Mem) (H1 : Heap) (locs1 : List Loc), K S1 = some r → Hd D cA b u s H1 locs1 S1 → W p l e R s m args below meth c H1 locs1 cells slots Q (F0 m (pc + 1) ls rest)) : W p l e R s m args below meth c H locs cells slots Q (F0 m pc ls (.long x :: .int i :: .ref (b + o) :: rest)) := by
  obtain ⟨hx, hb, -, -, hown, hts, hK, -, -⟩ := C
  have he := wsOf_get (cA := cA) (b := b) (S := S) hu
  rw [cellJ hs] at he
  by_cases hi : inB i n = true
  · rw [if_pos hi] at h
    refine va_last hx hb hK hH.1 wsOf_D hH.2 (o - loF u) 1 he (ty13 u) (inB_in hi) hd (fun H1 locs1 hP hD hS => kk (upJ S o i.toNatClampNeg x) H1 locs1 h ⟨?_, hS⟩)
    rw [wsOf_set (S' := upJ S o i.toNatClampNeg x) hu (by rw [cellJ hs, upJ_2]) upJ_cell] at hP
    exact hP
  · rw [if_neg hi] at h; cases h
end XR
end
section
/-! calls, entries, returns, branches, names -/
def oA (n : Nat) : Nat := 10 + 4 * n
def oW (n : Nat) : Nat := 11 + 4 * n
def oC (n : Nat) : Nat := 12 + 4 * n
def oT (n : Nat) : Nat := 13 + 4 * n
def oB (i : Nat) : Nat := 55 + i
def oK (i : Nat) : Nat := 63 + i
def MV (C : String) (y : MethodName) (cc : ByteArray) (nL : Nat) (ret : Option FieldType) (n : Nat) : Prop :=
  (y.cls = C ∧ y.cls ≠ "java/lang/invoke/MethodHandle" ∧ y.cls ≠ "java/lang/invoke/VarHandle" ∧ (parseMethodDescriptor y.desc).map (fun d => d.parameters.length) = some n) ∧ Cond.instanceMethod y ∈ tb ∧ Cond.selects C y y ∈ tb ∧ Cond.initialized C ∈ tb ∧ Cond.code y cc nL ret ∈ tb ∧ nL ≤ 24
def MS (y : MethodName) (cc : ByteArray) (nL : Nat) (ret : Option FieldType) (n : Nat) : Prop :=
  (y.cls ≠ "java/lang/invoke/MethodHandle" ∧ y.cls ≠ "java/lang/invoke/VarHandle" ∧ (parseMethodDescriptor y.desc).map (fun d => d.parameters.length) = some n) ∧ Cond.static y ∈ tb ∧ Cond.initialized y.cls ∈ tb ∧ Cond.code y cc nL ret ∈ tb ∧ nL ≤ 24
theorem Wo.blind {D : va_G} {cA : Nat → ClassId} {b : Nat} {u : Bool} {S : Mem} {av : List Value} : FrameBlind (va_Pc av (Wo D cA b u S)) := by
  intro a U g mk q
  obtain ⟨q0, qP, qK, qN⟩ := q
  exact ⟨q0, qP, va_K.moved (u := U) (U := U.calling g mk a) (Vm.Alike.refl U.vm) qK, qN.same rfl⟩
section XC
variable {p : Program} {l : Launch} {e : Env} {s : State} {m : MethodId} {args : Array Value} {below : List Frame} {meth : Method} {c : Code} {H : Heap} {locs : List Loc} {Q : State → Prop} {dd : Nat}
variable {D : va_G} {cA : Nat → ClassId} {b : Nat} {u : Bool} {own : String} {cc : ByteArray} {nL : Nat} {ret : Option FieldType} {S : Mem} {pc : Nat} {ls : Array Slot} {rest st0 : List Value}
theorem x_pre (C : Cx p s m args meth c D cA u own cc nL ret) (hH : Hd D cA b u s H locs S) (av : List Value) : ∀ U : State, U.heap = H → s.WarmedH U.vm → va_Pc av (Wo D cA b u S) av.toArray U := by
  intro U hU hW
  obtain ⟨-, -, -, -, -, -, hK, -, hN⟩ := C
  exact ⟨rfl, by rw [hU]; exact hH.1, va_K.moved hW.alike hK, hN.warm hW⟩
theorem x_goon {S' : Mem} {rv : Option Value} {a : Array Value} (hr : va_Run p l e (rmOf dd) s m args below meth c H locs 0 0 0 0 (F0 m pc ls st0) rest (Qe D cA b u S' rv a) (Ar b u)) (hH : Hd D cA b u s H locs S)
    (kk : ∀ (H1 : Heap) (locs1 : List Loc), Hd D cA b u s H1 locs1 S' → W p l e (rmOf dd) s m args below meth c H1 locs1 0 0 Q (F0 m (pc + 3) ls (rv.toList ++ rest))) : W p l e (rmOf dd) s m args below meth c H locs 0 0 Q (F0 m pc ls st0) := by
  intro T hT X
  obtain ⟨v, st₀, t, T', L, h0, X', hL, e1, e2, ⟨hv, hp, hz, hk⟩, st⟩ := hr T hT X
  cases hv
  rw [h0] at hz hk
  have hS := hH.2
  obtain ⟨t2, a1, b1⟩ := kk T'.heap (locs ++ L) ⟨by rw [e1]; exact hp, Nat.le_trans hS.1 (by rw [e1]; exact hz), fun q h1 h2 => by rw [e1, hk q (Nat.lt_of_lt_of_le h1 hS.1) h2]; exact hS.2.1 q h1 h2, fun q hq => by
      rcases List.mem_append.mp hq with h | h
      · exact hS.2.2 q h
      · exact hL q h⟩ T' rfl X'
  exact ⟨t2, st t2 a1, b1⟩
theorem x_room {d n : Nat} (hd : d + 1 ≤ dd) (hn : n ≤ 24) : (rmOf d).frames + 1 ≤ (rmOf dd).frames ∧ 8 + (n + 11) + (rmOf d).locals ≤ (rmOf dd).locals := by
  refine ⟨hd, ?_⟩
  show 8 + (n + 11) + 48 * d ≤ 48 * dd
  omega
theorem x_cv {S' : Mem} {rv : Option Value} (C : Cx p s m args meth c D cA u own cc nL ret) (hH : Hd D cA b u s H locs S) (hls : ls.size = nL) {y : MethodName} {cc' : ByteArray} {nL' n d idx o ci N : Nat} {ret' : Option FieldType} {As : List Value} {Cn : String} {T : u_T} {sl : List Nat}
    (hM : Ct l y cc' nL' ret' d D cA b u (.ref (b + o) :: As) S S' rv) (mv : MV Cn y cc' nL' ret' n) (hl : Cond.methodLink own idx y ∈ tb) (hs : shIs o ci sl) (hcl : vwCl[ci]? = some (Cn, T, N)) (hu : inU u o = true) (hn : As.length = n) (hst : st0 = As.reverse ++ .ref (b + o) :: rest) (hr : (rest.map fun v => v.category).sum ≤ 8) (hd : decode cc pc = .ok (.invokevirtual idx, 3)) (hdd : d + 1 ≤ dd)
    (kk : ∀ (H1 : Heap) (locs1 : List Loc), Hd D cA b u s H1 locs1 S' → W p l e (rmOf dd) s m args below meth c H1 locs1 0 0 Q (F0 m (pc + 3) ls (rv.toList ++ rest))) : W p l e (rmOf dd) s m args below meth c H locs 0 0 Q (F0 m pc ls st0) := by
  obtain ⟨hx, hb, -, hml, hown, hts, hK, -, -⟩ := id C
  obtain ⟨mv1, mv2, mv3, mv4, mv5, mv6⟩ := mv
  have he := wsOf_get (cA := cA) (b := b) (S := S) hu
  rw [cellO hs (ci_lt hcl)] at he
  refine x_goon (va_runV (As := As) (rest := rest) ⟨hx, hb, hml, hown, hts⟩ hM (cwV n hts (fun w hw => ?_) rfl rfl rfl mv1 (x_room hdd mv6)) ⟨Wo.blind, va_recv hK hH.1 hcl he, x_pre C hH _⟩ rfl hn hls hst (lv_room hr) hd ⟨Nat.le_refl _, Nat.le_refl _⟩) hH kk
  simp only [wsV, List.mem_append, List.mem_cons, List.not_mem_nil, or_false] at hw
  rcases hw with (rfl | rfl | rfl | rfl) | rfl | hw
  · exact good_in _ hl
  · exact good_in _ mv2
  · exact good_in _ mv3
  · exact good_in _ mv4
  · exact good_in _ mv5
  · exact good_in _ hw
theorem x_cs {S' : Mem} {rv : Option Value} (C : Cx p s m args meth c D cA u own cc nL ret) (hH : Hd D cA b u s H locs S) (hls : ls.size = nL) {y : MethodName} {cc' : ByteArray} {nL' n d idx : Nat} {ret' : Option FieldType} {As : List Value}
    (hM : Ct l y cc' nL' ret' d D cA b u As S S' rv) (mv : MS y cc' nL' ret' n) (hl : Cond.methodLink own idx y ∈ tb) (hn : As.length = n) (hst : st0 = As.reverse ++ rest) (hr : (rest.map fun v => v.category).sum ≤ 8) (hd : decode cc pc = .ok (.invokestatic idx, 3)) (hdd : d + 1 ≤ dd)
    (kk : ∀ (H1 : Heap) (locs1 : List Loc), Hd D cA b u s H1 locs1 S' → W p l e (rmOf dd) s m args below meth c H1 locs1 0 0 Q (F0 m (pc + 3) ls (rv.toList ++ rest))) : W p l e (rmOf dd) s m args below meth c H locs 0 0 Q (F0 m pc ls st0) := by
  obtain ⟨hx, hb, -, hml, hown, hts, hK, -, -⟩ := id C
  obtain ⟨mv1, mv2, mv3, mv4, mv5⟩ := mv
  exact x_goon (va_runS (As := As) (rest := rest) ⟨hx, hb, hml, hown, hts⟩ hM ⟨callB_of n hts (good_all mv4) rfl rfl rfl (hts _ mv3) (hts _ hl) mv1 (x_room hdd mv5), hts _ mv2⟩ ⟨Wo.blind, x_pre C hH _⟩ rfl hn hls hst (lv_room hr) hd ⟨Nat.le_refl _, Nat.le_refl _⟩) hH kk
theorem x_cn {S' : Mem} {rv : Option Value} (C : Cx p s m args meth c D cA u own cc nL ret) (hH : Hd D cA b u s H locs S) (hls : ls.size = nL) {y : MethodName} {cc' : ByteArray} {nL' n d idx : Nat} {ret' : Option FieldType} {As : List Value}
    (hM : Ct l y cc' nL' ret' d D cA b u As S S' rv) (mv : MS y cc' nL' ret' n) (hl : (own, idx, y, RX10) ∈ nests) (hn : As.length = n) (hst : st0 = As.reverse ++ rest) (hr : (rest.map fun v => v.category).sum ≤ 8) (hd : decode cc pc = .ok (.invokestatic idx, 3)) (hdd : d + 1 ≤ dd)
    (kk : ∀ (H1 : Heap) (locs1 : List Loc), Hd D cA b u s H1 locs1 S' → W p l e (rmOf dd) s m args below meth c H1 locs1 0 0 Q (F0 m (pc + 3) ls (rv.toList ++ rest))) : W p l e (rmOf dd) s m args below meth c H locs 0 0 Q (F0 m pc ls st0) := by
  obtain ⟨hx, hb, -, hml, hown, hts, hK, -, hN⟩ := id C
  obtain ⟨mv1, mv2, mv3, mv4, mv5⟩ := mv
  exact x_goon (va_runSN (As := As) (rest := rest) ⟨hx, hb, hml, hown, hts⟩ hM ⟨va_cnB n hts (good_all mv4) rfl rfl rfl (hN _ hl) (hts _ mv3) mv1 (x_room hdd mv5), hts _ mv2, trivial⟩ ⟨Wo.blind, x_pre C hH _⟩ rfl hn hls hst (lv_room hr) hd ⟨Nat.le_refl _, Nat.le_refl _⟩) hH kk
/-- the entry of a method -/
theorem x_met {y : MethodName} {d : Nat} {av : List Value} {S' : Mem} {rv : Option Value} (hy : plainName y.cls = true) (hn : (lg_sl av).length ≤ nL)
    (body : ∀ (p : Program) (e : Env) (s : State) (m : MethodId) (below : List Frame) (meth : Method) (c : Code) (ls : Array Slot), Cx p s m av.toArray meth c D cA u y.cls cc nL ret → Hd D cA b u s s.heap [] S → lv_has ls nL (lv_args 0 av) →
      W p l e (rmOf d) s m av.toArray below meth c s.heap [] 0 0 (MQ below (Qe D cA b u S' rv) av.toArray s 0 0 (Ar b u)) (F0 m 0 ls [])) : Ct l y cc nL ret d D cA b u av S S' rv := by
  refine Met.ofW (cc := cc) (maxL := nL) (ret := ret) hy rfl ?_
  intro p e s m args below meth c s₁ B hml hv
  obtain ⟨rfl, hP, hK, hN⟩ := hv
  have hts := atoms_spec (ws := Cond.code y cc nL ret :: tb) B.pre
  have hl := lv_entry av (n := nL) hn
  rw [lg_entry_eq]
  exact body p e s m below meth c _ ⟨B.exec, B.bytes, B.returns, hml, findClass_of_methodNamed B.named, fun w hw => hts w (List.mem_cons_of_mem _ hw), hK, B.notSynchronized, hN⟩ ⟨hP, va_S.rf⟩ hl
theorem x_reti {x : Int32} {q : Int32 × Mem} (C : Cx p s m args meth c D cA u own cc nL (some .int)) (hH : Hd D cA b u s H locs S) (h : some (x, S) = some q) (hd : decode cc pc = .ok (.ireturn, 1)) : W p l e (rmOf dd) s m args below meth c H locs 0 0 (MQ below (Qe D cA b u q.2 (some (.int q.1))) args s 0 0 (Ar b u)) (F0 m pc ls [.int x]) := by
  obtain ⟨hx, hb, hr, -, -, -, -, hlocks, -⟩ := C
  cases h
  exact W.iret hx hb hr (fun t ht hW => ⟨rfl, by rw [ht]; exact hH.1, hH.2.F ht⟩) hH.2.2.2 hd
theorem x_retz {x : Int32} {q : Int32 × Mem} (C : Cx p s m args meth c D cA u own cc nL (some .boolean)) (hH : Hd D cA b u s H locs S) (hz : x = 0 ∨ x = 1) (h : some (x, S) = some q) (hd : decode cc pc = .ok (.ireturn, 1)) : W p l e (rmOf dd) s m args below meth c H locs 0 0 (MQ below (Qe D cA b u q.2 (some (.int q.1))) args s 0 0 (Ar b u)) (F0 m pc ls [.int x]) := by
  obtain ⟨hx, hb, hr, -, -, -, -, hlocks, -⟩ := C
  cases h
  exact W.zret hx hb hr (by rcases hz with rfl | rfl <;> rfl) (fun t ht hW => ⟨rfl, by rw [ht]; exact hH.1, hH.2.F ht⟩) hH.2.2.2 hd
theorem x_retj {x : Int64} {q : Int64 × Mem} (C : Cx p s m args meth c D cA u own cc nL (some .long)) (hH : Hd D cA b u s H locs S) (h : some (x, S) = some q) (hd : decode cc pc = .ok (.lreturn, 1)) : W p l e (rmOf dd) s m args below meth c H locs 0 0 (MQ below (Qe D cA b u q.2 (some (.long q.1))) args s 0 0 (Ar b u)) (F0 m pc ls [.long x]) := by
  obtain ⟨hx, hb, hr, -, -, -, -, hlocks, -⟩ := C
  cases h
  exact W.lret hx hb hr (fun t ht hW => ⟨rfl, by rw [ht]; exact hH.1, hH.2.F ht⟩) hH.2.2.2 hd
theorem x_retv {q : Unit × Mem} (C : Cx p s m args meth c D cA u own cc nL none) (hH : Hd D cA b u s H locs S) (h : some ((), S) = some q) (hd : decode cc pc = .ok (.return_, 1)) : W p l e (rmOf dd) s m args below meth c H locs 0 0 (MQ below (Qe D cA b u q.2 none) args s 0 0 (Ar b u)) (F0 m pc ls []) := by
  obtain ⟨hx, hb, hr, -, -, -, -, hlocks, -⟩ := C
  cases h
  exact W.vret hx hb hr (fun t ht hW => ⟨rfl, by rw [ht]; exact hH.1, hH.2.F ht⟩) hH.2.2.2 hd
theorem x_reta {n : Nat} {rn : String} {q : Nat × Mem} (C : Cx p s m args meth c D cA u own cc nL (some (.object rn))) (hH : Hd D cA b u s H locs S) (h : some (n, S) = some q) (hd : decode cc pc = .ok (.areturn, 1)) : W p l e (rmOf dd) s m args below meth c H locs 0 0 (MQ below (Qe D cA b u q.2 (some (.ref (b + oA q.1)))) args s 0 0 (Ar b u)) (F0 m pc ls [.ref (b + oA n)]) := by
  obtain ⟨hx, hb, hr, -, -, -, -, hlocks, -⟩ := C
  cases h
  exact W.aret hx hb hr (Or.inl ⟨rn, rfl⟩) (Or.inr ⟨_, rfl⟩) (fun t ht hW => ⟨rfl, by rw [ht]; exact hH.1, hH.2.F ht⟩) hH.2.2.2 hd
/-- a reference out of an array of references -/
theorem x_aald {α : Type} {K : Nat → Option α} {r : α} (C : Cx p s m args meth c D cA u own cc nL ret) (hH : Hd D cA b u s H locs S) {n o : Nat} {f : Nat → Nat} {sl : List Nat} {i : Int32} {Cn : String} (hu : inU true o = true) (hut : u = true) (hs : shIs o 15 sl) (hlen : sl.length = n) (hf : ∀ j, j < n → sl[j]? = some (f j)) (hd : decode cc pc = .ok (.aaload, 1)) (h : (if inB i n = true then nm i.toNatClampNeg K else none) = some r)
    (kk : ∀ j, j < n → K j = some r → W p l e (rmOf dd) s m args below meth c H locs 0 0 Q (F0 m (pc + 1) ls (.ref (b + f j) :: rest))) : W p l e (rmOf dd) s m args below meth c H locs 0 0 Q (F0 m pc ls (.int i :: .ref (b + o) :: rest)) := by
  subst hut
  obtain ⟨hx, hb, -, -, hown, hts, hK, -, -⟩ := C
  have he := wsOf_get (cA := cA) (b := b) (S := S) hu
  rw [cellR hs (Nat.le_refl 15), hlen] at he
  by_cases hi : inB i n = true
  · rw [if_pos hi] at h
    refine va_aldq hx hb hK hH.1 (o - loF true) 3 he rfl (inB_in hi) hd ?_
    rw [hf _ (inB_lt hi)]
    exact kk _ (inB_lt hi) h
  · rw [if_neg hi] at h; cases h
end XC
end
section
section YR
variable {p : Program} {l : Launch} {e : Env} {R : Room} {s : State} {m : MethodId} {args : Array Value} {below : List Frame} {meth : Method} {c : Code} {H : Heap} {locs : List Loc} {cells slots : Nat} {Q : State → Prop}
variable {D : va_G} {cA : Nat → ClassId} {b : Nat} {u : Bool} {own : String} {cc : ByteArray} {nL : Nat} {ret : Option FieldType} {S : Mem} {pc : Nat} {ls : Array Slot} {rest : List Value}
variable {α : Type} {A B : Option α} {r : α}
theorem y_nmi {x : Int32} {K : Int32 → Option α} (h : nm x K = some r) (kk : ∀ y : Int32, K y = some r → W p l e R s m args below meth c H locs cells slots Q (F0 m pc ls (.int y :: rest))) : W p l e R s m args below meth c H locs cells slots Q (F0 m pc ls (.int x :: rest)) := kk x h
theorem y_nml {x : Int64} {K : Int64 → Option α} (h : nm x K = some r) (kk : ∀ y : Int64, K y = some r → W p l e R s m args below meth c H locs cells slots Q (F0 m pc ls (.long y :: rest))) : W p l e R s m args below meth c H locs cells slots Q (F0 m pc ls (.long x :: rest)) := kk x h
theorem y_chk {q : Prop} {dc : Decidable q} {P : Prop} (h : (if q then A else none) = some r) (kk : q → A = some r → P) : P := by
  by_cases hq : q
  · rw [if_pos hq] at h; exact kk hq h
  · rw [if_neg hq] at h; cases h
theorem y_nz {x : Int32} {dc : Decidable (x = 0)} {P : Prop} (h : (if x = 0 then none else A) = some r) (kk : ¬ x = 0 → A = some r → P) : P := by
  by_cases hq : x = 0
  · rw [if_pos hq] at h; cases h
  · rw [if_neg hq] at h; exact kk hq h
theorem y_sw {q : Prop} {dc : Decidable q} {P : Prop} (h : (if q then A else B) = some r) (kt : q → A = some r → P) (kf : ¬ q → B = some r → P) : P := by
  by_cases hq : q
  · rw [if_pos hq] at h; exact kt hq h
  · rw [if_neg hq] at h; exact kf hq h
theorem y_lt_of {x y : Int32} (h : ¬ y ≤ x) : x < y := by
  rw [Int32.le_iff_toInt_le] at h
  rw [Int32.lt_iff_toInt_lt]; omega
theorem y_le_of {x y : Int32} (h : ¬ y < x) : x ≤ y := by
  rw [Int32.lt_iff_toInt_lt] at h
  rw [Int32.le_iff_toInt_le]; omega
theorem y_nle {x y : Int32} (h : x < y) : ¬ y ≤ x := by
  rw [Int32.lt_iff_toInt_lt] at h
  rw [Int32.le_iff_toInt_le]; omega
theorem y_nlt {x y : Int32} (h : x ≤ y) : ¬ y < x := by
  rw [Int32.le_iff_toInt_le] at h
  rw [Int32.lt_iff_toInt_lt]; omega
theorem y_icmp_eq (hx : p.tables.exec = Jvm.exec) (hb : c.code = cc) {x y : Int32} {off : Int} {tgt : Nat} (hd : decode cc pc = .ok (.if_icmp .eq off, 3)) (ht : (pc : Int) + off = (tgt : Int)) {dc : Decidable (x = y)} (h : (if x = y then A else B) = some r)
    (kt : A = some r → W p l e R s m args below meth c H locs cells slots Q (F0 m tgt ls rest)) (kf : B = some r → W p l e R s m args below meth c H locs cells slots Q (F0 m (pc + 3) ls rest)) : W p l e R s m args below meth c H locs cells slots Q (F0 m pc ls (.int y :: .int x :: rest)) :=
  y_sw h (fun q h => lv_icmp_eq hx hb hd ht (fun _ => kt h) (fun z => absurd q z)) (fun q h => lv_icmp_eq hx hb hd ht (fun z => absurd z q) (fun _ => kf h))
theorem y_icmp_ne (hx : p.tables.exec = Jvm.exec) (hb : c.code = cc) {x y : Int32} {off : Int} {tgt : Nat} (hd : decode cc pc = .ok (.if_icmp .ne off, 3)) (ht : (pc : Int) + off = (tgt : Int)) {dc : Decidable (x = y)} (h : (if x = y then A else B) = some r)
    (kt : A = some r → W p l e R s m args below meth c H locs cells slots Q (F0 m (pc + 3) ls rest)) (kf : B = some r → W p l e R s m args below meth c H locs cells slots Q (F0 m tgt ls rest)) : W p l e R s m args below meth c H locs cells slots Q (F0 m pc ls (.int y :: .int x :: rest)) :=
  y_sw h (fun q h => lv_icmp_ne hx hb hd ht (fun z => absurd q z) (fun _ => kt h)) (fun q h => lv_icmp_ne hx hb hd ht (fun _ => kf h) (fun z => absurd z q))
theorem y_icmp_ge (hx : p.tables.exec = Jvm.exec) (hb : c.code = cc) {x y : Int32} {off : Int} {tgt : Nat} (hd : decode cc pc = .ok (.if_icmp .ge off, 3)) (ht : (pc : Int) + off = (tgt : Int)) {dc : Decidable (x < y)} (h : (if x < y then A else B) = some r)
    (kt : A = some r → W p l e R s m args below meth c H locs cells slots Q (F0 m (pc + 3) ls rest)) (kf : B = some r → W p l e R s m args below meth c H locs cells slots Q (F0 m tgt ls rest)) : W p l e R s m args below meth c H locs cells slots Q (F0 m pc ls (.int y :: .int x :: rest)) :=
  y_sw h (fun q h => lv_icmp_ge hx hb hd ht (fun z => absurd z (y_nle q)) (fun _ => kt h)) (fun q h => lv_icmp_ge hx hb hd ht (fun _ => kf h) (fun z => absurd (y_lt_of z) q))
theorem y_icmp_lt (hx : p.tables.exec = Jvm.exec) (hb : c.code = cc) {x y : Int32} {off : Int} {tgt : Nat} (hd : decode cc pc = .ok (.if_icmp .lt off, 3)) (ht : (pc : Int) + off = (tgt : Int)) {dc : Decidable (y ≤ x)} (h : (if y ≤ x then A else B) = some r)
    (kt : A = some r → W p l e R s m args below meth c H locs cells slots Q (F0 m (pc + 3) ls rest)) (kf : B = some r → W p l e R s m args below meth c H locs cells slots Q (F0 m tgt ls rest)) : W p l e R s m args below meth c H locs cells slots Q (F0 m pc ls (.int y :: .int x :: rest)) :=
  y_sw h (fun q h => lv_icmp_lt hx hb hd ht (fun z => absurd z (y_nlt q)) (fun _ => kt h)) (fun q h => lv_icmp_lt hx hb hd ht (fun _ => kf h) (fun z => absurd (y_le_of z) q))
theorem y_icmp_gt (hx : p.tables.exec = Jvm.exec) (hb : c.code = cc) {x y : Int32} {off : Int} {tgt : Nat} (hd : decode cc pc = .ok (.if_icmp .gt off, 3)) (ht : (pc : Int) + off = (tgt : Int)) {dc : Decidable (x ≤ y)} (h : (if x ≤ y then A else B) = some r)
    (kt : A = some r → W p l e R s m args below meth c H locs cells slots Q (F0 m (pc + 3) ls rest)) (kf : B = some r → W p l e R s m args below meth c H locs cells slots Q (F0 m tgt ls rest)) : W p l e R s m args below meth c H locs cells slots Q (F0 m pc ls (.int y :: .int x :: rest)) :=
  y_sw h (fun q h => lv_icmp_gt hx hb hd ht (fun z => absurd z (y_nlt q)) (fun _ => kt h)) (fun q h => lv_icmp_gt hx hb hd ht (fun _ => kf h) (fun z => absurd (y_le_of z) q))
theorem y_icmp_le (hx : p.tables.exec = Jvm.exec) (hb : c.code = cc) {x y : Int32} {off : Int} {tgt : Nat} (hd : decode cc pc = .ok (.if_icmp .le off, 3)) (ht : (pc : Int) + off = (tgt : Int)) {dc : Decidable (y < x)} (h : (if y < x then A else B) = some r)
    (kt : A = some r → W p l e R s m args below meth c H locs cells slots Q (F0 m (pc + 3) ls rest)) (kf : B = some r → W p l e R s m args below meth c H locs cells slots Q (F0 m tgt ls rest)) : W p l e R s m args below meth c H locs cells slots Q (F0 m pc ls (.int y :: .int x :: rest)) :=
  y_sw h (fun q h => lv_icmp_le hx hb hd ht (fun z => absurd z (y_nle q)) (fun _ => kt h)) (fun q h => lv_icmp_le hx hb hd ht (fun _ => kf h) (fun z => absurd (y_lt_of z) q))
theorem y_if_eq (hx : p.tables.exec = Jvm.exec) (hb : c.code = cc) {x : Int32} {off : Int} {tgt : Nat} (hd : decode cc pc = .ok (.ifCond .eq off, 3)) (ht : (pc : Int) + off = (tgt : Int)) {dc : Decidable (x = 0)} (h : (if x = 0 then A else B) = some r)
    (kt : A = some r → W p l e R s m args below meth c H locs cells slots Q (F0 m tgt ls rest)) (kf : B = some r → W p l e R s m args below meth c H locs cells slots Q (F0 m (pc + 3) ls rest)) : W p l e R s m args below meth c H locs cells slots Q (F0 m pc ls (.int x :: rest)) :=
  y_sw h (fun q h => lv_if_eq hx hb hd ht (fun _ => kt h) (fun z => absurd q z)) (fun q h => lv_if_eq hx hb hd ht (fun z => absurd z q) (fun _ => kf h))
theorem y_if_ne (hx : p.tables.exec = Jvm.exec) (hb : c.code = cc) {x : Int32} {off : Int} {tgt : Nat} (hd : decode cc pc = .ok (.ifCond .ne off, 3)) (ht : (pc : Int) + off = (tgt : Int)) {dc : Decidable (x = 0)} (h : (if x = 0 then A else B) = some r)
    (kt : A = some r → W p l e R s m args below meth c H locs cells slots Q (F0 m (pc + 3) ls rest)) (kf : B = some r → W p l e R s m args below meth c H locs cells slots Q (F0 m tgt ls rest)) : W p l e R s m args below meth c H locs cells slots Q (F0 m pc ls (.int x :: rest)) :=
  y_sw h (fun q h => lv_if_ne hx hb hd ht (fun z => absurd q z) (fun _ => kt h)) (fun q h => lv_if_ne hx hb hd ht (fun _ => kf h) (fun z => absurd z q))
theorem y_if_ge (hx : p.tables.exec = Jvm.exec) (hb : c.code = cc) {x : Int32} {off : Int} {tgt : Nat} (hd : decode cc pc = .ok (.ifCond .ge off, 3)) (ht : (pc : Int) + off = (tgt : Int)) {dc : Decidable (x < 0)} (h : (if x < 0 then A else B) = some r)
    (kt : A = some r → W p l e R s m args below meth c H locs cells slots Q (F0 m (pc + 3) ls rest)) (kf : B = some r → W p l e R s m args below meth c H locs cells slots Q (F0 m tgt ls rest)) : W p l e R s m args below meth c H locs cells slots Q (F0 m pc ls (.int x :: rest)) :=
  y_sw h (fun q h => lv_if_ge hx hb hd ht (fun z => absurd z (y_nle q)) (fun _ => kt h)) (fun q h => lv_if_ge hx hb hd ht (fun _ => kf h) (fun z => absurd (y_lt_of z) q))
theorem y_if_lt (hx : p.tables.exec = Jvm.exec) (hb : c.code = cc) {x : Int32} {off : Int} {tgt : Nat} (hd : decode cc pc = .ok (.ifCond .lt off, 3)) (ht : (pc : Int) + off = (tgt : Int)) {dc : Decidable (0 ≤ x)} (h : (if 0 ≤ x then A else B) = some r)
    (kt : A = some r → W p l e R s m args below meth c H locs cells slots Q (F0 m (pc + 3) ls rest)) (kf : B = some r → W p l e R s m args below meth c H locs cells slots Q (F0 m tgt ls rest)) : W p l e R s m args below meth c H locs cells slots Q (F0 m pc ls (.int x :: rest)) :=
  y_sw h (fun q h => lv_if_lt hx hb hd ht (fun z => absurd z (y_nlt q)) (fun _ => kt h)) (fun q h => lv_if_lt hx hb hd ht (fun _ => kf h) (fun z => absurd (y_le_of z) q))
theorem y_if_gt (hx : p.tables.exec = Jvm.exec) (hb : c.code = cc) {x : Int32} {off : Int} {tgt : Nat} (hd : decode cc pc = .ok (.ifCond .gt off, 3)) (ht : (pc : Int) + off = (tgt : Int)) {dc : Decidable (x ≤ 0)} (h : (if x ≤ 0 then A else B) = some r)
    (kt : A = some r → W p l e R s m args below meth c H locs cells slots Q (F0 m (pc + 3) ls rest)) (kf : B = some r → W p l e R s m args below meth c H locs cells slots Q (F0 m tgt ls rest)) : W p l e R s m args below meth c H locs cells slots Q (F0 m pc ls (.int x :: rest)) :=
  y_sw h (fun q h => lv_if_gt hx hb hd ht (fun z => absurd z (y_nlt q)) (fun _ => kt h)) (fun q h => lv_if_gt hx hb hd ht (fun _ => kf h) (fun z => absurd (y_le_of z) q))
theorem y_if_le (hx : p.tables.exec = Jvm.exec) (hb : c.code = cc) {x : Int32} {off : Int} {tgt : Nat} (hd : decode cc pc = .ok (.ifCond .le off, 3)) (ht : (pc : Int) + off = (tgt : Int)) {dc : Decidable (0 < x)} (h : (if 0 < x then A else B) = some r)
    (kt : A = some r → W p l e R s m args below meth c H locs cells slots Q (F0 m (pc + 3) ls rest)) (kf : B = some r → W p l e R s m args below meth c H locs cells slots Q (F0 m tgt ls rest)) : W p l e R s m args below meth c H locs cells slots Q (F0 m pc ls (.int x :: rest)) :=
  y_sw h (fun q h => lv_if_le hx hb hd ht (fun z => absurd z (y_nle q)) (fun _ => kt h)) (fun q h => lv_if_le hx hb hd ht (fun _ => kf h) (fun z => absurd (y_lt_of z) q))
theorem y_iinc (hx : p.tables.exec = Jvm.exec) (hb : c.code = cc) {i k : Nat} {n : Int} {x cst : Int32} {lv : List (Nat × Value)} {lv' : Int32 → List (Nat × Value)} {K : Int32 → Option α} (hd : decode cc pc = .ok (.iinc i n, 3)) (hl : lv_has ls nL lv) (hk : lv[k]? = some (i, .int x)) (hc : Int32.ofInt n = cst) (hn : i < nL)
    (he : ∀ v : Int32, (i, Value.int v) :: lv.filter (fun q => !(q.1 == i) && !(q.1 + 1 == i && q.2.category == 2)) = lv' v) (h : nm (x + cst) K = some r)
    (kk : ∀ (v : Int32) (ls1 : Array Slot), K v = some r → lv_has ls1 nL (lv' v) → W p l e R s m args below meth c H locs cells slots Q (F0 m (pc + 3) ls1 rest)) : W p l e R s m args below meth c H locs cells slots Q (F0 m pc ls rest) :=
  lv_iinc hx hb hd hl hk (by rw [hc]) hn (he (x + cst)) (fun ls1 hl1 => kk (x + cst) ls1 h hl1)
/-- a row out of an array of arrays -/
theorem x_aaldA {K : Nat → Option α} (C : Cx p s m args meth c D cA true own cc nL ret) (hH : Hd D cA b true s H locs S) {n o t0 ci : Nat} {ty : FieldType} {f : Nat → Nat} {sl : List Nat} {i : Int32} (hu : inU true o = true) (hs : shIs o ci sl) (hc : 15 ≤ ci) (hty : (tysF cA true)[t0]? = some (cA ci, .array ty)) (hlen : sl.length = n) (hf : ∀ j, j < n → sl[j]? = some (f j)) (hd : decode cc pc = .ok (.aaload, 1)) (h : (if inB i n = true then nm i.toNatClampNeg K else none) = some r)
    (kk : ∀ j, j < n → K j = some r → W p l e R s m args below meth c H locs cells slots Q (F0 m (pc + 1) ls (.ref (b + f j) :: rest))) : W p l e R s m args below meth c H locs cells slots Q (F0 m pc ls (.int i :: .ref (b + o) :: rest)) := by
  obtain ⟨hx, hb, -, -, hown, hts, hK, -, -⟩ := C
  have he := wsOf_get (cA := cA) (b := b) (S := S) hu
  rw [cellR hs hc, hlen] at he
  by_cases hi : inB i n = true
  · rw [if_pos hi] at h
    have hlt := inB_lt hi
    refine W.aald (v := va_rf ((fun j => (sl[j]?).map (fun t => b + t)) i.toNatClampNeg)) (ty := .array ty) hx hb (hH.1 _ _ he) ((hK.2 t0 _ hty).1 n (fun j => va_rf ((fun j => (sl[j]?).map (fun t => b + t)) j))) rfl (fun q => by cases q) (by show ¬ (i < 0 ∨ (arrV _ _ _).slots.size ≤ _); rw [arrV_size]; exact inB_in hi) (by show (arrV _ _ _).slots[_]? = _; rw [arrV_read _ _ hlt]) rfl rfl hd ?_
    show W p l e R s m args below meth c H locs cells slots Q (F0 m (pc + 1) ls (va_rf ((sl[i.toNatClampNeg]?).map (fun t => b + t)) :: rest))
    rw [hf _ hlt]
    exact kk _ hlt h
  · rw [if_neg hi] at h; cases h
end YR
section XD
variable {p : Program} {l : Launch} {e : Env} {s : State} {m : MethodId} {args : Array Value} {below : List Frame} {meth : Method} {c : Code} {H : Heap} {locs : List Loc} {Q : State → Prop} {dd : Nat}
variable {D : va_G} {cA : Nat → ClassId} {b : Nat} {u : Bool} {own : String} {cc : ByteArray} {nL : Nat} {ret : Option FieldType} {S : Mem} {pc : Nat} {ls : Array Slot} {rest st0 : List Value} {lv : List (Nat × Value)}
variable {α : Type} {r : α} {y : MethodName} {cc' : ByteArray} {nL' n d idx o ci N' : Nat} {ret' : Option FieldType} {As : List Value} {Cn : String} {T : u_T} {sl : List Nat}
theorem x_cvi {f : Option (Int32 × Mem)} {K : Int32 → Mem → Option α} (C : Cx p s m args meth c D cA u own cc nL ret) (hH : Hd D cA b u s H locs S) (hl : lv_has ls nL lv) (h : cal f K = some r) (hM : ∀ q, f = some q → Ct l y cc' nL' ret' d D cA b u (.ref (b + o) :: As) S q.2 (some (.int q.1))) (mv : MV Cn y cc' nL' ret' n) (hlk : Cond.methodLink own idx y ∈ tb) (hs : shIs o ci sl) (hcl : vwCl[ci]? = some (Cn, T, N')) (hu : inU u o = true) (hn : As.length = n) (hst : st0 = As.reverse ++ .ref (b + o) :: rest) (hr : (rest.map fun v => v.category).sum ≤ 8) (hd : decode cc pc = .ok (.invokevirtual idx, 3)) (hdd : d + 1 ≤ dd)
    (kk : ∀ (x : Int32) (S1 : Mem) (H1 : Heap) (locs1 : List Loc), K x S1 = some r → Hd D cA b u s H1 locs1 S1 → W p l e (rmOf dd) s m args below meth c H1 locs1 0 0 Q (F0 m (pc + 3) ls (.int x :: rest))) : W p l e (rmOf dd) s m args below meth c H locs 0 0 Q (F0 m pc ls st0) := by
  obtain ⟨q, h1, h2⟩ := cal_some h
  exact x_cv C hH hl.1 (hM q h1) mv hlk hs hcl hu hn hst hr hd hdd (fun H1 locs1 hH1 => kk q.1 q.2 H1 locs1 h2 hH1)
theorem x_csi {f : Option (Int32 × Mem)} {K : Int32 → Mem → Option α} (C : Cx p s m args meth c D cA u own cc nL ret) (hH : Hd D cA b u s H locs S) (hl : lv_has ls nL lv) (h : cal f K = some r) (hM : ∀ q, f = some q → Ct l y cc' nL' ret' d D cA b u As S q.2 (some (.int q.1))) (mv : MS y cc' nL' ret' n) (hlk : Cond.methodLink own idx y ∈ tb) (hn : As.length = n) (hst : st0 = As.reverse ++ rest) (hr : (rest.map fun v => v.category).sum ≤ 8) (hd : decode cc pc = .ok (.invokestatic idx, 3)) (hdd : d + 1 ≤ dd)
    (kk : ∀ (x : Int32) (S1 : Mem) (H1 : Heap) (locs1 : List Loc), K x S1 = some r → Hd D cA b u s H1 locs1 S1 → W p l e (rmOf dd) s m args below meth c H1 locs1 0 0 Q (F0 m (pc + 3) ls (.int x :: rest))) : W p l e (rmOf dd) s m args below meth c H locs 0 0 Q (F0 m pc ls st0) := by
  obtain ⟨q, h1, h2⟩ := cal_some h
  exact x_cs C hH hl.1 (hM q h1) mv hlk hn hst hr hd hdd (fun H1 locs1 hH1 => kk q.1 q.2 H1 locs1 h2 hH1)
theorem x_cni {f : Option (Int32 × Mem)} {K : Int32 → Mem → Option α} (C : Cx p s m args meth c D cA u own cc nL ret) (hH : Hd D cA b u s H locs S) (hl : lv_has ls nL lv) (h : cal f K = some r) (hM : ∀ q, f = some q → Ct l y cc' nL' ret' d D cA b u As S q.2 (some (.int q.1))) (mv : MS y cc' nL' ret' n) (hlk : (own, idx, y, RX10) ∈ nests) (hn : As.length = n) (hst : st0 = As.reverse ++ rest) (hr : (rest.map fun v => v.category).sum ≤ 8) (hd : decode cc pc = .ok (.invokestatic idx, 3)) (hdd : d + 1 ≤ dd)
    (kk : ∀ (x : Int32) (S1 : Mem) (H1 : Heap) (locs1 : List Loc), K x S1 = some r → Hd D cA b u s H1 locs1 S1 → W p l e (rmOf dd) s m args below meth c H1 locs1 0 0 Q (F0 m (pc + 3) ls (.int x :: rest))) : W p l e (rmOf dd) s m args below meth c H locs 0 0 Q (F0 m pc ls st0) := by
  obtain ⟨q, h1, h2⟩ := cal_some h
  exact x_cn C hH hl.1 (hM q h1) mv hlk hn hst hr hd hdd (fun H1 locs1 hH1 => kk q.1 q.2 H1 locs1 h2 hH1)
theorem x_cvj {f : Option (Int64 × Mem)} {K : Int64 → Mem → Option α} (C : Cx p s m args meth c D cA u own cc nL ret) (hH : Hd D cA b u s H locs S) (hl : lv_has ls nL lv) (h : cal f K = some r) (hM : ∀ q, f = some q → Ct l y cc' nL' ret' d D cA b u (.ref (b + o) :: As) S q.2 (some (.long q.1))) (mv : MV Cn y cc' nL' ret' n) (hlk : Cond.methodLink own idx y ∈ tb) (hs : shIs o ci sl) (hcl : vwCl[ci]? = some (Cn, T, N')) (hu : inU u o = true) (hn : As.length = n) (hst : st0 = As.reverse ++ .ref (b + o) :: rest) (hr : (rest.map fun v => v.category).sum ≤ 8) (hd : decode cc pc = .ok (.invokevirtual idx, 3)) (hdd : d + 1 ≤ dd)
    (kk : ∀ (x : Int64) (S1 : Mem) (H1 : Heap) (locs1 : List Loc), K x S1 = some r → Hd D cA b u s H1 locs1 S1 → W p l e (rmOf dd) s m args below meth c H1 locs1 0 0 Q (F0 m (pc + 3) ls (.long x :: rest))) : W p l e (rmOf dd) s m args below meth c H locs 0 0 Q (F0 m pc ls st0) := by
  obtain ⟨q, h1, h2⟩ := cal_some h
  exact x_cv C hH hl.1 (hM q h1) mv hlk hs hcl hu hn hst hr hd hdd (fun H1 locs1 hH1 => kk q.1 q.2 H1 locs1 h2 hH1)
theorem x_csj {f : Option (Int64 × Mem)} {K : Int64 → Mem → Option α} (C : Cx p s m args meth c D cA u own cc nL ret) (hH : Hd D cA b u s H locs S) (hl : lv_has ls nL lv) (h : cal f K = some r) (hM : ∀ q, f = some q → Ct l y cc' nL' ret' d D cA b u As S q.2 (some (.long q.1))) (mv : MS y cc' nL' ret' n) (hlk : Cond.methodLink own idx y ∈ tb) (hn : As.length = n) (hst : st0 = As.reverse ++ rest) (hr : (rest.map fun v => v.category).sum ≤ 8) (hd : decode cc pc = .ok (.invokestatic idx, 3)) (hdd : d + 1 ≤ dd)
    (kk : ∀ (x : Int64) (S1 : Mem) (H1 : Heap) (locs1 : List Loc), K x S1 = some r → Hd D cA b u s H1 locs1 S1 → W p l e (rmOf dd) s m args below meth c H1 locs1 0 0 Q (F0 m (pc + 3) ls (.long x :: rest))) : W p l e (rmOf dd) s m args below meth c H locs 0 0 Q (F0 m pc ls st0) := by
  obtain ⟨q, h1, h2⟩ := cal_some h
  exact x_cs C hH hl.1 (hM q h1) mv hlk hn hst hr hd hdd (fun H1 locs1 hH1 => kk q.1 q.2 H1 locs1 h2 hH1)
theorem x_cnj {f : Option (Int64 × Mem)} {K : Int64 → Mem → Option α} (C : Cx p s m args meth c D cA u own cc nL ret) (hH : Hd D cA b u s H locs S) (hl : lv_has ls nL lv) (h : cal f K = some r) (hM : ∀ q, f = some q → Ct l y cc' nL' ret' d D cA b u As S q.2 (some (.long q.1))) (mv : MS y cc' nL' ret' n) (hlk : (own, idx, y, RX10) ∈ nests) (hn : As.length = n) (hst : st0 = As.reverse ++ rest) (hr : (rest.map fun v => v.category).sum ≤ 8) (hd : decode cc pc = .ok (.invokestatic idx, 3)) (hdd : d + 1 ≤ dd)
    (kk : ∀ (x : Int64) (S1 : Mem) (H1 : Heap) (locs1 : List Loc), K x S1 = some r → Hd D cA b u s H1 locs1 S1 → W p l e (rmOf dd) s m args below meth c H1 locs1 0 0 Q (F0 m (pc + 3) ls (.long x :: rest))) : W p l e (rmOf dd) s m args below meth c H locs 0 0 Q (F0 m pc ls st0) := by
  obtain ⟨q, h1, h2⟩ := cal_some h
  exact x_cn C hH hl.1 (hM q h1) mv hlk hn hst hr hd hdd (fun H1 locs1 hH1 => kk q.1 q.2 H1 locs1 h2 hH1)
theorem x_cvv {f : Option (Unit × Mem)} {K : Unit → Mem → Option α} (C : Cx p s m args meth c D cA u own cc nL ret) (hH : Hd D cA b u s H locs S) (hl : lv_has ls nL lv) (h : cal f K = some r) (hM : ∀ q, f = some q → Ct l y cc' nL' ret' d D cA b u (.ref (b + o) :: As) S q.2 (none)) (mv : MV Cn y cc' nL' ret' n) (hlk : Cond.methodLink own idx y ∈ tb) (hs : shIs o ci sl) (hcl : vwCl[ci]? = some (Cn, T, N')) (hu : inU u o = true) (hn : As.length = n) (hst : st0 = As.reverse ++ .ref (b + o) :: rest) (hr : (rest.map fun v => v.category).sum ≤ 8) (hd : decode cc pc = .ok (.invokevirtual idx, 3)) (hdd : d + 1 ≤ dd)
    (kk : ∀ (x : Unit) (S1 : Mem) (H1 : Heap) (locs1 : List Loc), K x S1 = some r → Hd D cA b u s H1 locs1 S1 → W p l e (rmOf dd) s m args below meth c H1 locs1 0 0 Q (F0 m (pc + 3) ls (rest))) : W p l e (rmOf dd) s m args below meth c H locs 0 0 Q (F0 m pc ls st0) := by
  obtain ⟨q, h1, h2⟩ := cal_some h
  exact x_cv C hH hl.1 (hM q h1) mv hlk hs hcl hu hn hst hr hd hdd (fun H1 locs1 hH1 => kk q.1 q.2 H1 locs1 h2 hH1)
theorem x_csv {f : Option (Unit × Mem)} {K : Unit → Mem → Option α} (C : Cx p s m args meth c D cA u own cc nL ret) (hH : Hd D cA b u s H locs S) (hl : lv_has ls nL lv) (h : cal f K = some r) (hM : ∀ q, f = some q → Ct l y cc' nL' ret' d D cA b u As S q.2 (none)) (mv : MS y cc' nL' ret' n) (hlk : Cond.methodLink own idx y ∈ tb) (hn : As.length = n) (hst : st0 = As.reverse ++ rest) (hr : (rest.map fun v => v.category).sum ≤ 8) (hd : decode cc pc = .ok (.invokestatic idx, 3)) (hdd : d + 1 ≤ dd)
    (kk : ∀ (x : Unit) (S1 : Mem) (H1 : Heap) (locs1 : List Loc), K x S1 = some r → Hd D cA b u s H1 locs1 S1 → W p l e (rmOf dd) s m args below meth c H1 locs1 0 0 Q (F0 m (pc + 3) ls (rest))) : W p l e (rmOf dd) s m args below meth c H locs 0 0 Q (F0 m pc ls st0) := by
  obtain ⟨q, h1, h2⟩ := cal_some h
  exact x_cs C hH hl.1 (hM q h1) mv hlk hn hst hr hd hdd (fun H1 locs1 hH1 => kk q.1 q.2 H1 locs1 h2 hH1)
theorem x_cnv {f : Option (Unit × Mem)} {K : Unit → Mem → Option α} (C : Cx p s m args meth c D cA u own cc nL ret) (hH : Hd D cA b u s H locs S) (hl : lv_has ls nL lv) (h : cal f K = some r) (hM : ∀ q, f = some q → Ct l y cc' nL' ret' d D cA b u As S q.2 (none)) (mv : MS y cc' nL' ret' n) (hlk : (own, idx, y, RX10) ∈ nests) (hn : As.length = n) (hst : st0 = As.reverse ++ rest) (hr : (rest.map fun v => v.category).sum ≤ 8) (hd : decode cc pc = .ok (.invokestatic idx, 3)) (hdd : d + 1 ≤ dd)
    (kk : ∀ (x : Unit) (S1 : Mem) (H1 : Heap) (locs1 : List Loc), K x S1 = some r → Hd D cA b u s H1 locs1 S1 → W p l e (rmOf dd) s m args below meth c H1 locs1 0 0 Q (F0 m (pc + 3) ls (rest))) : W p l e (rmOf dd) s m args below meth c H locs 0 0 Q (F0 m pc ls st0) := by
  obtain ⟨q, h1, h2⟩ := cal_some h
  exact x_cn C hH hl.1 (hM q h1) mv hlk hn hst hr hd hdd (fun H1 locs1 hH1 => kk q.1 q.2 H1 locs1 h2 hH1)
theorem x_cva {f : Option (Nat × Mem)} {K : Nat → Mem → Option α} (C : Cx p s m args meth c D cA u own cc nL ret) (hH : Hd D cA b u s H locs S) (hl : lv_has ls nL lv) (h : cal f K = some r) (hM : ∀ q, f = some q → Ct l y cc' nL' ret' d D cA b u (.ref (b + o) :: As) S q.2 (some (.ref (b + oA q.1)))) (mv : MV Cn y cc' nL' ret' n) (hlk : Cond.methodLink own idx y ∈ tb) (hs : shIs o ci sl) (hcl : vwCl[ci]? = some (Cn, T, N')) (hu : inU u o = true) (hn : As.length = n) (hst : st0 = As.reverse ++ .ref (b + o) :: rest) (hr : (rest.map fun v => v.category).sum ≤ 8) (hd : decode cc pc = .ok (.invokevirtual idx, 3)) (hdd : d + 1 ≤ dd)
    (kk : ∀ (x : Nat) (S1 : Mem) (H1 : Heap) (locs1 : List Loc), K x S1 = some r → Hd D cA b u s H1 locs1 S1 → W p l e (rmOf dd) s m args below meth c H1 locs1 0 0 Q (F0 m (pc + 3) ls (.ref (b + oA x) :: rest))) : W p l e (rmOf dd) s m args below meth c H locs 0 0 Q (F0 m pc ls st0) := by
  obtain ⟨q, h1, h2⟩ := cal_some h
  exact x_cv C hH hl.1 (hM q h1) mv hlk hs hcl hu hn hst hr hd hdd (fun H1 locs1 hH1 => kk q.1 q.2 H1 locs1 h2 hH1)
theorem x_csa {f : Option (Nat × Mem)} {K : Nat → Mem → Option α} (C : Cx p s m args meth c D cA u own cc nL ret) (hH : Hd D cA b u s H locs S) (hl : lv_has ls nL lv) (h : cal f K = some r) (hM : ∀ q, f = some q → Ct l y cc' nL' ret' d D cA b u As S q.2 (some (.ref (b + oA q.1)))) (mv : MS y cc' nL' ret' n) (hlk : Cond.methodLink own idx y ∈ tb) (hn : As.length = n) (hst : st0 = As.reverse ++ rest) (hr : (rest.map fun v => v.category).sum ≤ 8) (hd : decode cc pc = .ok (.invokestatic idx, 3)) (hdd : d + 1 ≤ dd)
    (kk : ∀ (x : Nat) (S1 : Mem) (H1 : Heap) (locs1 : List Loc), K x S1 = some r → Hd D cA b u s H1 locs1 S1 → W p l e (rmOf dd) s m args below meth c H1 locs1 0 0 Q (F0 m (pc + 3) ls (.ref (b + oA x) :: rest))) : W p l e (rmOf dd) s m args below meth c H locs 0 0 Q (F0 m pc ls st0) := by
  obtain ⟨q, h1, h2⟩ := cal_some h
  exact x_cs C hH hl.1 (hM q h1) mv hlk hn hst hr hd hdd (fun H1 locs1 hH1 => kk q.1 q.2 H1 locs1 h2 hH1)
theorem x_cna {f : Option (Nat × Mem)} {K : Nat → Mem → Option α} (C : Cx p s m args meth c D cA u own cc nL ret) (hH : Hd D cA b u s H locs S) (hl : lv_has ls nL lv) (h : cal f K = some r) (hM : ∀ q, f = some q → Ct l y cc' nL' ret' d D cA b u As S q.2 (some (.ref (b + oA q.1)))) (mv : MS y cc' nL' ret' n) (hlk : (own, idx, y, RX10) ∈ nests) (hn : As.length = n) (hst : st0 = As.reverse ++ rest) (hr : (rest.map fun v => v.category).sum ≤ 8) (hd : decode cc pc = .ok (.invokestatic idx, 3)) (hdd : d + 1 ≤ dd)
    (kk : ∀ (x : Nat) (S1 : Mem) (H1 : Heap) (locs1 : List Loc), K x S1 = some r → Hd D cA b u s H1 locs1 S1 → W p l e (rmOf dd) s m args below meth c H1 locs1 0 0 Q (F0 m (pc + 3) ls (.ref (b + oA x) :: rest))) : W p l e (rmOf dd) s m args below meth c H locs 0 0 Q (F0 m pc ls st0) := by
  obtain ⟨q, h1, h2⟩ := cal_some h
  exact x_cn C hH hl.1 (hM q h1) mv hlk hn hst hr hd hdd (fun H1 locs1 hH1 => kk q.1 q.2 H1 locs1 h2 hH1)
end XD
/-- a loop by its rounds -/
def lp {T : Type} (F : T → T) (z : T) : Nat → T
  | 0 => z
  | k + 1 => F (lp F z k)
theorem lp_ind {T : Type} {F : T → T} {z : T} (P : T → Prop) (h0 : P z) (hs : ∀ g, P g → P (F g)) : ∀ k, P (lp F z k)
  | 0 => h0
  | k + 1 => hs _ (lp_ind P h0 hs k)
theorem y_out {x : Int32} {n : Nat} (hn : n < 1000) (h : ∀ j, j ≤ n → ¬ x = nI j) : x.toInt < 0 ∨ (n : Int) < x.toInt := by
  by_cases h1 : x.toInt < 0
  · exact Or.inl h1
  · by_cases h2 : (n : Int) < x.toInt
    · exact Or.inr h2
    · exfalso
      refine h x.toInt.toNat (by omega) ?_
      rw [← Int32.toInt_inj, nI_toInt (by omega)]
      omega
end
section
theorem sh_0 : shIs 0 10 [3, 10, 52, 54, 62, 96, 99, 103] := rfl
theorem iu_0 (u : Bool) (h : u = true) : inU u 0 = true := by subst h; rfl
theorem sh_1 : shIs 1 8 [0, 0, 0, 0, 0, 0, 1, 1, 1, 4, 5, 6, 7, 8, 9] := rfl
theorem iu_1 (u : Bool) : inU u 1 = true := by cases u <;> rfl
theorem sh_2 : shIs 2 12 [36] := rfl
theorem iu_2 (u : Bool) : inU u 2 = true := by cases u <;> rfl
theorem sh_3 : shIs 3 12 [36] := rfl
theorem iu_3 (u : Bool) : inU u 3 = true := by cases u <;> rfl
theorem sh_4 : shIs 4 13 [36] := rfl
theorem iu_4 (u : Bool) : inU u 4 = true := by cases u <;> rfl
theorem sh_5 : shIs 5 13 [60] := rfl
theorem iu_5 (u : Bool) : inU u 5 = true := by cases u <;> rfl
theorem sh_6 : shIs 6 13 [60] := rfl
theorem iu_6 (u : Bool) : inU u 6 = true := by cases u <;> rfl
theorem sh_7 : shIs 7 13 [60] := rfl
theorem iu_7 (u : Bool) : inU u 7 = true := by cases u <;> rfl
theorem sh_8 : shIs 8 2 [0, 11] := rfl
theorem iu_8 (u : Bool) (h : u = true) : inU u 8 = true := by subst h; rfl
theorem sh_9 : shIs 9 15 [10, 14, 18, 22, 26, 30, 34, 38, 42, 46] := rfl
theorem iu_9 (u : Bool) (h : u = true) : inU u 9 = true := by subst h; rfl
theorem sh_10 : shIs 10 0 [0, 0, 0, 0, 0, 0, 0, 0, 13] := rfl
theorem iu_10 (u : Bool) (h : u = true) : inU u 10 = true := by subst h; rfl
theorem sh_11 : shIs 11 9 [0, 0, 14, 15] := rfl
theorem iu_11 (u : Bool) (h : u = true) : inU u 11 = true := by subst h; rfl
theorem sh_12 : shIs 12 12 [31] := rfl
theorem iu_12 (u : Bool) (h : u = true) : inU u 12 = true := by subst h; rfl
theorem sh_13 : shIs 13 12 [30] := rfl
theorem iu_13 (u : Bool) (h : u = true) : inU u 13 = true := by subst h; rfl
theorem sh_14 : shIs 14 0 [0, 0, 0, 0, 0, 0, 0, 0, 17] := rfl
theorem iu_14 (u : Bool) (h : u = true) : inU u 14 = true := by subst h; rfl
theorem sh_15 : shIs 15 9 [0, 0, 18, 19] := rfl
theorem iu_15 (u : Bool) (h : u = true) : inU u 15 = true := by subst h; rfl
theorem sh_16 : shIs 16 12 [31] := rfl
theorem iu_16 (u : Bool) (h : u = true) : inU u 16 = true := by subst h; rfl
theorem sh_17 : shIs 17 12 [30] := rfl
theorem iu_17 (u : Bool) (h : u = true) : inU u 17 = true := by subst h; rfl
theorem sh_18 : shIs 18 0 [0, 0, 0, 0, 0, 0, 0, 0, 21] := rfl
theorem iu_18 (u : Bool) (h : u = true) : inU u 18 = true := by subst h; rfl
theorem sh_19 : shIs 19 9 [0, 0, 22, 23] := rfl
theorem iu_19 (u : Bool) (h : u = true) : inU u 19 = true := by subst h; rfl
theorem sh_20 : shIs 20 12 [31] := rfl
theorem iu_20 (u : Bool) (h : u = true) : inU u 20 = true := by subst h; rfl
theorem sh_21 : shIs 21 12 [30] := rfl
theorem iu_21 (u : Bool) (h : u = true) : inU u 21 = true := by subst h; rfl
theorem sh_22 : shIs 22 0 [0, 0, 0, 0, 0, 0, 0, 0, 25] := rfl
theorem iu_22 (u : Bool) (h : u = true) : inU u 22 = true := by subst h; rfl
theorem sh_23 : shIs 23 9 [0, 0, 26, 27] := rfl
theorem iu_23 (u : Bool) (h : u = true) : inU u 23 = true := by subst h; rfl
theorem sh_24 : shIs 24 12 [31] := rfl
theorem iu_24 (u : Bool) (h : u = true) : inU u 24 = true := by subst h; rfl
theorem sh_25 : shIs 25 12 [30] := rfl
theorem iu_25 (u : Bool) (h : u = true) : inU u 25 = true := by subst h; rfl
theorem sh_26 : shIs 26 0 [0, 0, 0, 0, 0, 0, 0, 0, 29] := rfl
theorem iu_26 (u : Bool) (h : u = true) : inU u 26 = true := by subst h; rfl
theorem sh_27 : shIs 27 9 [0, 0, 30, 31] := rfl
theorem iu_27 (u : Bool) (h : u = true) : inU u 27 = true := by subst h; rfl
theorem sh_28 : shIs 28 12 [31] := rfl
theorem iu_28 (u : Bool) (h : u = true) : inU u 28 = true := by subst h; rfl
theorem sh_29 : shIs 29 12 [30] := rfl
theorem iu_29 (u : Bool) (h : u = true) : inU u 29 = true := by subst h; rfl
theorem sh_30 : shIs 30 0 [0, 0, 0, 0, 0, 0, 0, 0, 33] := rfl
theorem iu_30 (u : Bool) (h : u = true) : inU u 30 = true := by subst h; rfl
theorem sh_31 : shIs 31 9 [0, 0, 34, 35] := rfl
theorem iu_31 (u : Bool) (h : u = true) : inU u 31 = true := by subst h; rfl
theorem sh_32 : shIs 32 12 [31] := rfl
theorem iu_32 (u : Bool) (h : u = true) : inU u 32 = true := by subst h; rfl
theorem sh_33 : shIs 33 12 [30] := rfl
theorem iu_33 (u : Bool) (h : u = true) : inU u 33 = true := by subst h; rfl
theorem sh_34 : shIs 34 0 [0, 0, 0, 0, 0, 0, 0, 0, 37] := rfl
theorem iu_34 (u : Bool) (h : u = true) : inU u 34 = true := by subst h; rfl
theorem sh_35 : shIs 35 9 [0, 0, 38, 39] := rfl
theorem iu_35 (u : Bool) (h : u = true) : inU u 35 = true := by subst h; rfl
theorem sh_36 : shIs 36 12 [31] := rfl
theorem iu_36 (u : Bool) (h : u = true) : inU u 36 = true := by subst h; rfl
theorem sh_37 : shIs 37 12 [30] := rfl
theorem iu_37 (u : Bool) (h : u = true) : inU u 37 = true := by subst h; rfl
theorem sh_38 : shIs 38 0 [0, 0, 0, 0, 0, 0, 0, 0, 41] := rfl
theorem iu_38 (u : Bool) (h : u = true) : inU u 38 = true := by subst h; rfl
theorem sh_39 : shIs 39 9 [0, 0, 42, 43] := rfl
theorem iu_39 (u : Bool) (h : u = true) : inU u 39 = true := by subst h; rfl
theorem sh_40 : shIs 40 12 [31] := rfl
theorem iu_40 (u : Bool) (h : u = true) : inU u 40 = true := by subst h; rfl
theorem sh_41 : shIs 41 12 [30] := rfl
theorem iu_41 (u : Bool) (h : u = true) : inU u 41 = true := by subst h; rfl
theorem sh_42 : shIs 42 0 [0, 0, 0, 0, 0, 0, 0, 0, 45] := rfl
theorem iu_42 (u : Bool) (h : u = true) : inU u 42 = true := by subst h; rfl
theorem sh_43 : shIs 43 9 [0, 0, 46, 47] := rfl
theorem iu_43 (u : Bool) (h : u = true) : inU u 43 = true := by subst h; rfl
theorem sh_44 : shIs 44 12 [31] := rfl
theorem iu_44 (u : Bool) (h : u = true) : inU u 44 = true := by subst h; rfl
theorem sh_45 : shIs 45 12 [30] := rfl
theorem iu_45 (u : Bool) (h : u = true) : inU u 45 = true := by subst h; rfl
theorem sh_46 : shIs 46 0 [0, 0, 0, 0, 0, 0, 0, 0, 49] := rfl
theorem iu_46 (u : Bool) (h : u = true) : inU u 46 = true := by subst h; rfl
theorem sh_47 : shIs 47 9 [0, 0, 50, 51] := rfl
theorem iu_47 (u : Bool) (h : u = true) : inU u 47 = true := by subst h; rfl
theorem sh_48 : shIs 48 12 [31] := rfl
theorem iu_48 (u : Bool) (h : u = true) : inU u 48 = true := by subst h; rfl
theorem sh_49 : shIs 49 12 [30] := rfl
theorem iu_49 (u : Bool) (h : u = true) : inU u 49 = true := by subst h; rfl
theorem sh_50 : shIs 50 5 [3, 10, 53] := rfl
theorem iu_50 (u : Bool) (h : u = true) : inU u 50 = true := by subst h; rfl
theorem sh_51 : shIs 51 12 [36] := rfl
theorem iu_51 (u : Bool) (h : u = true) : inU u 51 = true := by subst h; rfl
theorem sh_52 : shIs 52 6 [3, 10, 55, 56, 61, 0, 0] := rfl
theorem iu_52 (u : Bool) (h : u = true) : inU u 52 = true := by subst h; rfl
theorem sh_53 : shIs 53 13 [60] := rfl
theorem iu_53 (u : Bool) (h : u = true) : inU u 53 = true := by subst h; rfl
theorem sh_54 : shIs 54 17 [55, 56, 57, 58] := rfl
theorem iu_54 (u : Bool) (h : u = true) : inU u 54 = true := by subst h; rfl
theorem sh_55 : shIs 55 13 [60] := rfl
theorem iu_55 (u : Bool) (h : u = true) : inU u 55 = true := by subst h; rfl
theorem sh_56 : shIs 56 13 [60] := rfl
theorem iu_56 (u : Bool) (h : u = true) : inU u 56 = true := by subst h; rfl
theorem sh_57 : shIs 57 13 [60] := rfl
theorem iu_57 (u : Bool) (h : u = true) : inU u 57 = true := by subst h; rfl
theorem sh_58 : shIs 58 13 [60] := rfl
theorem iu_58 (u : Bool) (h : u = true) : inU u 58 = true := by subst h; rfl
theorem sh_59 : shIs 59 13 [60] := rfl
theorem iu_59 (u : Bool) (h : u = true) : inU u 59 = true := by subst h; rfl
theorem sh_60 : shIs 60 3 [3, 54, 52, 63, 64, 0, 0, 0] := rfl
theorem iu_60 (u : Bool) (h : u = true) : inU u 60 = true := by subst h; rfl
theorem sh_61 : shIs 61 12 [36] := rfl
theorem iu_61 (u : Bool) (h : u = true) : inU u 61 = true := by subst h; rfl
theorem sh_62 : shIs 62 16 [63, 64, 65, 66, 67, 68, 69, 70, 71, 72, 73, 74, 75, 76, 77, 78, 79, 80, 81, 82, 83, 84, 85, 86, 87, 88, 89, 90, 91, 92, 93] := rfl
theorem iu_62 (u : Bool) (h : u = true) : inU u 62 = true := by subst h; rfl
theorem sh_63 : shIs 63 12 [36] := rfl
theorem iu_63 (u : Bool) (h : u = true) : inU u 63 = true := by subst h; rfl
theorem sh_64 : shIs 64 12 [36] := rfl
theorem iu_64 (u : Bool) (h : u = true) : inU u 64 = true := by subst h; rfl
theorem sh_65 : shIs 65 12 [36] := rfl
theorem iu_65 (u : Bool) (h : u = true) : inU u 65 = true := by subst h; rfl
theorem sh_66 : shIs 66 12 [36] := rfl
theorem iu_66 (u : Bool) (h : u = true) : inU u 66 = true := by subst h; rfl
theorem sh_67 : shIs 67 12 [36] := rfl
theorem iu_67 (u : Bool) (h : u = true) : inU u 67 = true := by subst h; rfl
theorem sh_68 : shIs 68 12 [36] := rfl
theorem iu_68 (u : Bool) (h : u = true) : inU u 68 = true := by subst h; rfl
theorem sh_69 : shIs 69 12 [36] := rfl
theorem iu_69 (u : Bool) (h : u = true) : inU u 69 = true := by subst h; rfl
theorem sh_70 : shIs 70 12 [36] := rfl
theorem iu_70 (u : Bool) (h : u = true) : inU u 70 = true := by subst h; rfl
theorem sh_71 : shIs 71 12 [36] := rfl
theorem iu_71 (u : Bool) (h : u = true) : inU u 71 = true := by subst h; rfl
theorem sh_72 : shIs 72 12 [36] := rfl
theorem iu_72 (u : Bool) (h : u = true) : inU u 72 = true := by subst h; rfl
theorem sh_73 : shIs 73 12 [36] := rfl
theorem iu_73 (u : Bool) (h : u = true) : inU u 73 = true := by subst h; rfl
theorem sh_74 : shIs 74 12 [36] := rfl
theorem iu_74 (u : Bool) (h : u = true) : inU u 74 = true := by subst h; rfl
theorem sh_75 : shIs 75 12 [36] := rfl
theorem iu_75 (u : Bool) (h : u = true) : inU u 75 = true := by subst h; rfl
theorem sh_76 : shIs 76 12 [36] := rfl
theorem iu_76 (u : Bool) (h : u = true) : inU u 76 = true := by subst h; rfl
theorem sh_77 : shIs 77 12 [36] := rfl
theorem iu_77 (u : Bool) (h : u = true) : inU u 77 = true := by subst h; rfl
theorem sh_78 : shIs 78 12 [36] := rfl
theorem iu_78 (u : Bool) (h : u = true) : inU u 78 = true := by subst h; rfl
theorem sh_79 : shIs 79 12 [36] := rfl
theorem iu_79 (u : Bool) (h : u = true) : inU u 79 = true := by subst h; rfl
theorem sh_80 : shIs 80 12 [36] := rfl
theorem iu_80 (u : Bool) (h : u = true) : inU u 80 = true := by subst h; rfl
theorem sh_81 : shIs 81 12 [36] := rfl
theorem iu_81 (u : Bool) (h : u = true) : inU u 81 = true := by subst h; rfl
theorem sh_82 : shIs 82 12 [36] := rfl
theorem iu_82 (u : Bool) (h : u = true) : inU u 82 = true := by subst h; rfl
theorem sh_83 : shIs 83 12 [36] := rfl
theorem iu_83 (u : Bool) (h : u = true) : inU u 83 = true := by subst h; rfl
theorem sh_84 : shIs 84 12 [36] := rfl
theorem iu_84 (u : Bool) (h : u = true) : inU u 84 = true := by subst h; rfl
theorem sh_85 : shIs 85 12 [36] := rfl
theorem iu_85 (u : Bool) (h : u = true) : inU u 85 = true := by subst h; rfl
theorem sh_86 : shIs 86 12 [36] := rfl
theorem iu_86 (u : Bool) (h : u = true) : inU u 86 = true := by subst h; rfl
theorem sh_87 : shIs 87 12 [36] := rfl
theorem iu_87 (u : Bool) (h : u = true) : inU u 87 = true := by subst h; rfl
theorem sh_88 : shIs 88 12 [36] := rfl
theorem iu_88 (u : Bool) (h : u = true) : inU u 88 = true := by subst h; rfl
theorem sh_89 : shIs 89 12 [36] := rfl
theorem iu_89 (u : Bool) (h : u = true) : inU u 89 = true := by subst h; rfl
theorem sh_90 : shIs 90 12 [36] := rfl
theorem iu_90 (u : Bool) (h : u = true) : inU u 90 = true := by subst h; rfl
theorem sh_91 : shIs 91 12 [36] := rfl
theorem iu_91 (u : Bool) (h : u = true) : inU u 91 = true := by subst h; rfl
theorem sh_92 : shIs 92 12 [36] := rfl
theorem iu_92 (u : Bool) (h : u = true) : inU u 92 = true := by subst h; rfl
theorem sh_93 : shIs 93 12 [36] := rfl
theorem iu_93 (u : Bool) (h : u = true) : inU u 93 = true := by subst h; rfl
theorem sh_94 : shIs 94 1 [10, 54, 0, 97, 98] := rfl
theorem iu_94 (u : Bool) (h : u = true) : inU u 94 = true := by subst h; rfl
theorem sh_95 : shIs 95 12 [10] := rfl
theorem iu_95 (u : Bool) (h : u = true) : inU u 95 = true := by subst h; rfl
theorem sh_96 : shIs 96 12 [10] := rfl
theorem iu_96 (u : Bool) (h : u = true) : inU u 96 = true := by subst h; rfl
theorem sh_97 : shIs 97 4 [10, 54, 0, 0, 100, 101, 102] := rfl
theorem iu_97 (u : Bool) (h : u = true) : inU u 97 = true := by subst h; rfl
theorem sh_98 : shIs 98 12 [5] := rfl
theorem iu_98 (u : Bool) (h : u = true) : inU u 98 = true := by subst h; rfl
theorem sh_99 : shIs 99 12 [5] := rfl
theorem iu_99 (u : Bool) (h : u = true) : inU u 99 = true := by subst h; rfl
theorem sh_100 : shIs 100 12 [10] := rfl
theorem iu_100 (u : Bool) (h : u = true) : inU u 100 = true := by subst h; rfl
theorem sh_101 : shIs 101 7 [3, 10, 0, 0, 0, 0, 104] := rfl
theorem iu_101 (u : Bool) (h : u = true) : inU u 101 = true := by subst h; rfl
theorem sh_102 : shIs 102 13 [60] := rfl
theorem iu_102 (u : Bool) (h : u = true) : inU u 102 = true := by subst h; rfl
theorem sh_103 : shIs 103 11 [0, 0, 0, 0, 0, 0, 106, 107, 108, 0, 109, 110, 111, 112, 113, 114, 115, 116, 117, 0, 0, 118, 119, 120, 121, 122, 0, 0, 0, 0, 123, 124] := rfl
theorem iu_103 (u : Bool) (h : u = true) : inU u 103 = true := by subst h; rfl
theorem sh_104 : shIs 104 14 [2160] := rfl
theorem iu_104 (u : Bool) (h : u = true) : inU u 104 = true := by subst h; rfl
theorem sh_105 : shIs 105 14 [2340] := rfl
theorem iu_105 (u : Bool) (h : u = true) : inU u 105 = true := by subst h; rfl
theorem sh_106 : shIs 106 12 [36] := rfl
theorem iu_106 (u : Bool) (h : u = true) : inU u 106 = true := by subst h; rfl
theorem sh_107 : shIs 107 12 [80] := rfl
theorem iu_107 (u : Bool) (h : u = true) : inU u 107 = true := by subst h; rfl
theorem sh_108 : shIs 108 12 [10] := rfl
theorem iu_108 (u : Bool) (h : u = true) : inU u 108 = true := by subst h; rfl
theorem sh_109 : shIs 109 12 [10] := rfl
theorem iu_109 (u : Bool) (h : u = true) : inU u 109 = true := by subst h; rfl
theorem sh_110 : shIs 110 14 [10] := rfl
theorem iu_110 (u : Bool) (h : u = true) : inU u 110 = true := by subst h; rfl
theorem sh_111 : shIs 111 12 [600] := rfl
theorem iu_111 (u : Bool) (h : u = true) : inU u 111 = true := by subst h; rfl
theorem sh_112 : shIs 112 12 [2160] := rfl
theorem iu_112 (u : Bool) (h : u = true) : inU u 112 = true := by subst h; rfl
theorem sh_113 : shIs 113 12 [10800] := rfl
theorem iu_113 (u : Bool) (h : u = true) : inU u 113 = true := by subst h; rfl
theorem sh_114 : shIs 114 14 [2160] := rfl
theorem iu_114 (u : Bool) (h : u = true) : inU u 114 = true := by subst h; rfl
theorem sh_115 : shIs 115 12 [2160] := rfl
theorem iu_115 (u : Bool) (h : u = true) : inU u 115 = true := by subst h; rfl
theorem sh_116 : shIs 116 12 [60] := rfl
theorem iu_116 (u : Bool) (h : u = true) : inU u 116 = true := by subst h; rfl
theorem sh_117 : shIs 117 12 [2160] := rfl
theorem iu_117 (u : Bool) (h : u = true) : inU u 117 = true := by subst h; rfl
theorem sh_118 : shIs 118 12 [36] := rfl
theorem iu_118 (u : Bool) (h : u = true) : inU u 118 = true := by subst h; rfl
theorem sh_119 : shIs 119 12 [5] := rfl
theorem iu_119 (u : Bool) (h : u = true) : inU u 119 = true := by subst h; rfl
theorem sh_120 : shIs 120 12 [5] := rfl
theorem iu_120 (u : Bool) (h : u = true) : inU u 120 = true := by subst h; rfl
theorem sh_121 : shIs 121 14 [36] := rfl
theorem iu_121 (u : Bool) (h : u = true) : inU u 121 = true := by subst h; rfl
theorem sh_122 : shIs 122 14 [36] := rfl
theorem iu_122 (u : Bool) (h : u = true) : inU u 122 = true := by subst h; rfl
theorem shA {n : Nat} (h : n < 10) : shIs (oA n) 0 [0, 0, 0, 0, 0, 0, 0, 0, oW n + 2] := by
  have h1 : ∀ n, n < 10 → shp.getD (oA n) (0, []) = (0, [0, 0, 0, 0, 0, 0, 0, 0, oW n + 2]) := by decide +kernel
  exact h1 n h
theorem ishA {n : Nat} (h : n < 10) : inU true (oA n) = true := by
  have h1 : ∀ n, n < 10 → inU true (oA n) = true := by decide +kernel
  exact h1 n h
theorem shW {n : Nat} (h : n < 10) : shIs (oW n) 9 [0, 0, oC n + 2, oT n + 2] := by
  have h1 : ∀ n, n < 10 → shp.getD (oW n) (0, []) = (9, [0, 0, oC n + 2, oT n + 2]) := by decide +kernel
  exact h1 n h
theorem ishW {n : Nat} (h : n < 10) : inU true (oW n) = true := by
  have h1 : ∀ n, n < 10 → inU true (oW n) = true := by decide +kernel
  exact h1 n h
theorem shC {n : Nat} (h : n < 10) : shIs (oC n) 12 [31] := by
  have h1 : ∀ n, n < 10 → shp.getD (oC n) (0, []) = (12, [31]) := by decide +kernel
  exact h1 n h
theorem ishC {n : Nat} (h : n < 10) : inU true (oC n) = true := by
  have h1 : ∀ n, n < 10 → inU true (oC n) = true := by decide +kernel
  exact h1 n h
theorem shT {n : Nat} (h : n < 10) : shIs (oT n) 12 [30] := by
  have h1 : ∀ n, n < 10 → shp.getD (oT n) (0, []) = (12, [30]) := by decide +kernel
  exact h1 n h
theorem ishT {n : Nat} (h : n < 10) : inU true (oT n) = true := by
  have h1 : ∀ n, n < 10 → inU true (oT n) = true := by decide +kernel
  exact h1 n h
theorem shB {n : Nat} (h : n < 4) : shIs (oB n) 13 [60] := by
  have h1 : ∀ n, n < 4 → shp.getD (oB n) (0, []) = (13, [60]) := by decide +kernel
  exact h1 n h
theorem ishB {n : Nat} (h : n < 4) : inU true (oB n) = true := by
  have h1 : ∀ n, n < 4 → inU true (oB n) = true := by decide +kernel
  exact h1 n h
theorem shK {n : Nat} (h : n < 31) : shIs (oK n) 12 [36] := by
  have h1 : ∀ n, n < 31 → shp.getD (oK n) (0, []) = (12, [36]) := by decide +kernel
  exact h1 n h
theorem ishK {n : Nat} (h : n < 31) : inU true (oK n) = true := by
  have h1 : ∀ n, n < 31 → inU true (oK n) = true := by decide +kernel
  exact h1 n h
theorem rf_9 : ∀ j, j < 10 → [10, 14, 18, 22, 26, 30, 34, 38, 42, 46][j]? = some (oA j) := by decide +kernel
theorem rf_54 : ∀ j, j < 4 → [55, 56, 57, 58][j]? = some (oB j) := by decide +kernel
theorem rf_62 : ∀ j, j < 31 → [63, 64, 65, 66, 67, 68, 69, 70, 71, 72, 73, 74, 75, 76, 77, 78, 79, 80, 81, 82, 83, 84, 85, 86, 87, 88, 89, 90, 91, 92, 93][j]? = some (oK j) := by decide +kernel
set_option maxRecDepth 20000 in
theorem uw_0 : ∀ w ∈ u_ws RX0 TX0 9, w ∈ tb := by decide +kernel
set_option maxRecDepth 20000 in
theorem uw_1 : ∀ w ∈ u_ws RX1 TX1 5, w ∈ tb := by decide +kernel
set_option maxRecDepth 20000 in
theorem uw_2 : ∀ w ∈ u_ws RX2 TX2 2, w ∈ tb := by decide +kernel
set_option maxRecDepth 20000 in
theorem uw_3 : ∀ w ∈ u_ws RX3 TX3 8, w ∈ tb := by decide +kernel
set_option maxRecDepth 20000 in
theorem uw_4 : ∀ w ∈ u_ws RX4 TX4 7, w ∈ tb := by decide +kernel
set_option maxRecDepth 20000 in
theorem uw_5 : ∀ w ∈ u_ws RX5 TX5 3, w ∈ tb := by decide +kernel
set_option maxRecDepth 20000 in
theorem uw_6 : ∀ w ∈ u_ws RX6 TX6 7, w ∈ tb := by decide +kernel
set_option maxRecDepth 20000 in
theorem uw_7 : ∀ w ∈ u_ws RX7 TX7 7, w ∈ tb := by decide +kernel
set_option maxRecDepth 20000 in
theorem uw_8 : ∀ w ∈ u_ws RX8 TX8 15, w ∈ tb := by decide +kernel
set_option maxRecDepth 20000 in
theorem uw_9 : ∀ w ∈ u_ws RX9 TX9 4, w ∈ tb := by decide +kernel
set_option maxRecDepth 20000 in
theorem uw_10 : ∀ w ∈ u_ws RX10 TX10 8, w ∈ tb := by decide +kernel
set_option maxRecDepth 20000 in
theorem uw_11 : ∀ w ∈ u_ws RX11 TX11 32, w ∈ tb := by decide +kernel
theorem fl_RX10_10 : FL RX10 10 10 0 := ⟨RX10, TX10, 8, rfl, by decide, tb_in (List.mem_of_getElem? (i := 471) (by decide +kernel)) rfl, uw_10⟩
theorem fl_RX10_19 : FL RX10 19 10 1 := ⟨RX10, TX10, 8, rfl, by decide, tb_in (List.mem_of_getElem? (i := 472) (by decide +kernel)) rfl, uw_10⟩
theorem fl_RX10_28 : FL RX10 28 10 2 := ⟨RX10, TX10, 8, rfl, by decide, tb_in (List.mem_of_getElem? (i := 473) (by decide +kernel)) rfl, uw_10⟩
theorem fl_RX10_35 : FL RX10 35 10 3 := ⟨RX10, TX10, 8, rfl, by decide, tb_in (List.mem_of_getElem? (i := 474) (by decide +kernel)) rfl, uw_10⟩
theorem fl_RX10_44 : FL RX10 44 10 4 := ⟨RX10, TX10, 8, rfl, by decide, tb_in (List.mem_of_getElem? (i := 475) (by decide +kernel)) rfl, uw_10⟩
theorem fl_RX10_53 : FL RX10 53 10 5 := ⟨RX10, TX10, 8, rfl, by decide, tb_in (List.mem_of_getElem? (i := 476) (by decide +kernel)) rfl, uw_10⟩
theorem fl_RX10_60 : FL RX10 60 10 6 := ⟨RX10, TX10, 8, rfl, by decide, tb_in (List.mem_of_getElem? (i := 477) (by decide +kernel)) rfl, uw_10⟩
theorem fl_RX10_67 : FL RX10 67 10 7 := ⟨RX10, TX10, 8, rfl, by decide, tb_in (List.mem_of_getElem? (i := 478) (by decide +kernel)) rfl, uw_10⟩
theorem fl_RX10_80 : FL RX10 80 2 0 := ⟨RX2, TX2, 2, rfl, by decide, tb_in (List.mem_of_getElem? (i := 293) (by decide +kernel)) rfl, uw_2⟩
theorem fp_RX10_80 : FP RX10 80 2 0 .int := ⟨RX2, TX2, 2, tyX2, rfl, by decide, tb_in (List.mem_of_getElem? (i := 293) (by decide +kernel)) rfl, uw_2, tyX2_ok, nmX2, rfl, by decide +kernel⟩
theorem fl_RX10_87 : FL RX10 87 7 2 := ⟨RX7, TX7, 7, rfl, by decide, tb_in (List.mem_of_getElem? (i := 450) (by decide +kernel)) rfl, uw_7⟩
theorem fp_RX10_87 : FP RX10 87 7 2 .boolean := ⟨RX7, TX7, 7, tyX7, rfl, by decide, tb_in (List.mem_of_getElem? (i := 450) (by decide +kernel)) rfl, uw_7, tyX7_ok, nmX7, rfl, by decide +kernel⟩
theorem fl_RX10_91 : FL RX10 91 8 1 := ⟨RX8, TX8, 15, rfl, by decide, tb_in (List.mem_of_getElem? (i := 131) (by decide +kernel)) rfl, uw_8⟩
theorem fp_RX10_91 : FP RX10 91 8 1 .int := ⟨RX8, TX8, 15, tyX8, rfl, by decide, tb_in (List.mem_of_getElem? (i := 131) (by decide +kernel)) rfl, uw_8, tyX8_ok, nmX8, rfl, by decide +kernel⟩
theorem fl_RX10_94 : FL RX10 94 8 4 := ⟨RX8, TX8, 15, rfl, by decide, tb_in (List.mem_of_getElem? (i := 137) (by decide +kernel)) rfl, uw_8⟩
theorem fp_RX10_94 : FP RX10 94 8 4 .int := ⟨RX8, TX8, 15, tyX8, rfl, by decide, tb_in (List.mem_of_getElem? (i := 137) (by decide +kernel)) rfl, uw_8, tyX8_ok, nmX8, rfl, by decide +kernel⟩
theorem fl_RX10_105 : FL RX10 105 8 5 := ⟨RX8, TX8, 15, rfl, by decide, tb_in (List.mem_of_getElem? (i := 139) (by decide +kernel)) rfl, uw_8⟩
theorem fp_RX10_105 : FP RX10 105 8 5 .int := ⟨RX8, TX8, 15, tyX8, rfl, by decide, tb_in (List.mem_of_getElem? (i := 139) (by decide +kernel)) rfl, uw_8, tyX8_ok, nmX8, rfl, by decide +kernel⟩
theorem fl_RX10_125 : FL RX10 125 8 14 := ⟨RX8, TX8, 15, rfl, by decide, tb_in (List.mem_of_getElem? (i := 156) (by decide +kernel)) rfl, uw_8⟩
theorem fl_RX10_170 : FL RX10 170 2 1 := ⟨RX2, TX2, 2, rfl, by decide, tb_in (List.mem_of_getElem? (i := 303) (by decide +kernel)) rfl, uw_2⟩
theorem fl_RX10_174 : FL RX10 174 0 0 := ⟨RX0, TX0, 9, rfl, by decide, tb_in (List.mem_of_getElem? (i := 232) (by decide +kernel)) rfl, uw_0⟩
theorem fp_RX10_174 : FP RX10 174 0 0 .int := ⟨RX0, TX0, 9, tyX0, rfl, by decide, tb_in (List.mem_of_getElem? (i := 232) (by decide +kernel)) rfl, uw_0, tyX0_ok, nmX0, rfl, by decide +kernel⟩
theorem fl_RX10_177 : FL RX10 177 0 1 := ⟨RX0, TX0, 9, rfl, by decide, tb_in (List.mem_of_getElem? (i := 236) (by decide +kernel)) rfl, uw_0⟩
theorem fp_RX10_177 : FP RX10 177 0 1 .int := ⟨RX0, TX0, 9, tyX0, rfl, by decide, tb_in (List.mem_of_getElem? (i := 236) (by decide +kernel)) rfl, uw_0, tyX0_ok, nmX0, rfl, by decide +kernel⟩
theorem fl_RX10_180 : FL RX10 180 0 2 := ⟨RX0, TX0, 9, rfl, by decide, tb_in (List.mem_of_getElem? (i := 242) (by decide +kernel)) rfl, uw_0⟩
theorem fp_RX10_180 : FP RX10 180 0 2 .int := ⟨RX0, TX0, 9, tyX0, rfl, by decide, tb_in (List.mem_of_getElem? (i := 242) (by decide +kernel)) rfl, uw_0, tyX0_ok, nmX0, rfl, by decide +kernel⟩
theorem fl_RX10_183 : FL RX10 183 0 3 := ⟨RX0, TX0, 9, rfl, by decide, tb_in (List.mem_of_getElem? (i := 246) (by decide +kernel)) rfl, uw_0⟩
theorem fp_RX10_183 : FP RX10 183 0 3 .int := ⟨RX0, TX0, 9, tyX0, rfl, by decide, tb_in (List.mem_of_getElem? (i := 246) (by decide +kernel)) rfl, uw_0, tyX0_ok, nmX0, rfl, by decide +kernel⟩
theorem fl_RX10_186 : FL RX10 186 0 4 := ⟨RX0, TX0, 9, rfl, by decide, tb_in (List.mem_of_getElem? (i := 249) (by decide +kernel)) rfl, uw_0⟩
theorem fp_RX10_186 : FP RX10 186 0 4 .int := ⟨RX0, TX0, 9, tyX0, rfl, by decide, tb_in (List.mem_of_getElem? (i := 249) (by decide +kernel)) rfl, uw_0, tyX0_ok, nmX0, rfl, by decide +kernel⟩
theorem fl_RX10_189 : FL RX10 189 0 5 := ⟨RX0, TX0, 9, rfl, by decide, tb_in (List.mem_of_getElem? (i := 253) (by decide +kernel)) rfl, uw_0⟩
theorem fp_RX10_189 : FP RX10 189 0 5 .int := ⟨RX0, TX0, 9, tyX0, rfl, by decide, tb_in (List.mem_of_getElem? (i := 253) (by decide +kernel)) rfl, uw_0, tyX0_ok, nmX0, rfl, by decide +kernel⟩
theorem fl_RX10_192 : FL RX10 192 0 6 := ⟨RX0, TX0, 9, rfl, by decide, tb_in (List.mem_of_getElem? (i := 257) (by decide +kernel)) rfl, uw_0⟩
theorem fp_RX10_192 : FP RX10 192 0 6 .int := ⟨RX0, TX0, 9, tyX0, rfl, by decide, tb_in (List.mem_of_getElem? (i := 257) (by decide +kernel)) rfl, uw_0, tyX0_ok, nmX0, rfl, by decide +kernel⟩
theorem fl_RX10_195 : FL RX10 195 0 7 := ⟨RX0, TX0, 9, rfl, by decide, tb_in (List.mem_of_getElem? (i := 264) (by decide +kernel)) rfl, uw_0⟩
theorem fp_RX10_195 : FP RX10 195 0 7 .boolean := ⟨RX0, TX0, 9, tyX0, rfl, by decide, tb_in (List.mem_of_getElem? (i := 264) (by decide +kernel)) rfl, uw_0, tyX0_ok, nmX0, rfl, by decide +kernel⟩
theorem fl_RX10_212 : FL RX10 212 0 8 := ⟨RX0, TX0, 9, rfl, by decide, tb_in (List.mem_of_getElem? (i := 272) (by decide +kernel)) rfl, uw_0⟩
theorem fl_RX10_232 : FL RX10 232 9 1 := ⟨RX9, TX9, 4, rfl, by decide, tb_in (List.mem_of_getElem? (i := 218) (by decide +kernel)) rfl, uw_9⟩
theorem fp_RX10_232 : FP RX10 232 9 1 .int := ⟨RX9, TX9, 4, tyX9, rfl, by decide, tb_in (List.mem_of_getElem? (i := 218) (by decide +kernel)) rfl, uw_9, tyX9_ok, nmX9, rfl, by decide +kernel⟩
theorem fl_RX10_245 : FL RX10 245 1 2 := ⟨RX1, TX1, 5, rfl, by decide, tb_in (List.mem_of_getElem? (i := 398) (by decide +kernel)) rfl, uw_1⟩
theorem fp_RX10_245 : FP RX10 245 1 2 .int := ⟨RX1, TX1, 5, tyX1, rfl, by decide, tb_in (List.mem_of_getElem? (i := 398) (by decide +kernel)) rfl, uw_1, tyX1_ok, nmX1, rfl, by decide +kernel⟩
theorem fl_RX10_256 : FL RX10 256 4 3 := ⟨RX4, TX4, 7, rfl, by decide, tb_in (List.mem_of_getElem? (i := 422) (by decide +kernel)) rfl, uw_4⟩
theorem fp_RX10_256 : FP RX10 256 4 3 .int := ⟨RX4, TX4, 7, tyX4, rfl, by decide, tb_in (List.mem_of_getElem? (i := 422) (by decide +kernel)) rfl, uw_4, tyX4_ok, nmX4, rfl, by decide +kernel⟩
theorem fl_RX10_270 : FL RX10 270 7 6 := ⟨RX7, TX7, 7, rfl, by decide, tb_in (List.mem_of_getElem? (i := 455) (by decide +kernel)) rfl, uw_7⟩
theorem fl_RX0_10 : FL RX0 10 0 8 := ⟨RX0, TX0, 9, rfl, by decide, tb_in (List.mem_of_getElem? (i := 265) (by decide +kernel)) rfl, uw_0⟩
theorem fl_RX0_16 : FL RX0 16 0 0 := ⟨RX0, TX0, 9, rfl, by decide, tb_in (List.mem_of_getElem? (i := 230) (by decide +kernel)) rfl, uw_0⟩
theorem fp_RX0_16 : FP RX0 16 0 0 .int := ⟨RX0, TX0, 9, tyX0, rfl, by decide, tb_in (List.mem_of_getElem? (i := 230) (by decide +kernel)) rfl, uw_0, tyX0_ok, nmX0, rfl, by decide +kernel⟩
theorem fl_RX0_20 : FL RX0 20 0 1 := ⟨RX0, TX0, 9, rfl, by decide, tb_in (List.mem_of_getElem? (i := 234) (by decide +kernel)) rfl, uw_0⟩
theorem fp_RX0_20 : FP RX0 20 0 1 .int := ⟨RX0, TX0, 9, tyX0, rfl, by decide, tb_in (List.mem_of_getElem? (i := 234) (by decide +kernel)) rfl, uw_0, tyX0_ok, nmX0, rfl, by decide +kernel⟩
theorem fl_RX0_23 : FL RX0 23 0 7 := ⟨RX0, TX0, 9, rfl, by decide, tb_in (List.mem_of_getElem? (i := 258) (by decide +kernel)) rfl, uw_0⟩
theorem fp_RX0_23 : FP RX0 23 0 7 .boolean := ⟨RX0, TX0, 9, tyX0, rfl, by decide, tb_in (List.mem_of_getElem? (i := 258) (by decide +kernel)) rfl, uw_0, tyX0_ok, nmX0, rfl, by decide +kernel⟩
theorem fl_RX0_27 : FL RX0 27 0 2 := ⟨RX0, TX0, 9, rfl, by decide, tb_in (List.mem_of_getElem? (i := 239) (by decide +kernel)) rfl, uw_0⟩
theorem fp_RX0_27 : FP RX0 27 0 2 .int := ⟨RX0, TX0, 9, tyX0, rfl, by decide, tb_in (List.mem_of_getElem? (i := 239) (by decide +kernel)) rfl, uw_0, tyX0_ok, nmX0, rfl, by decide +kernel⟩
theorem fl_RX0_30 : FL RX0 30 0 3 := ⟨RX0, TX0, 9, rfl, by decide, tb_in (List.mem_of_getElem? (i := 243) (by decide +kernel)) rfl, uw_0⟩
theorem fp_RX0_30 : FP RX0 30 0 3 .int := ⟨RX0, TX0, 9, tyX0, rfl, by decide, tb_in (List.mem_of_getElem? (i := 243) (by decide +kernel)) rfl, uw_0, tyX0_ok, nmX0, rfl, by decide +kernel⟩
theorem fl_RX0_33 : FL RX0 33 0 4 := ⟨RX0, TX0, 9, rfl, by decide, tb_in (List.mem_of_getElem? (i := 247) (by decide +kernel)) rfl, uw_0⟩
theorem fp_RX0_33 : FP RX0 33 0 4 .int := ⟨RX0, TX0, 9, tyX0, rfl, by decide, tb_in (List.mem_of_getElem? (i := 247) (by decide +kernel)) rfl, uw_0, tyX0_ok, nmX0, rfl, by decide +kernel⟩
theorem fl_RX0_36 : FL RX0 36 0 5 := ⟨RX0, TX0, 9, rfl, by decide, tb_in (List.mem_of_getElem? (i := 251) (by decide +kernel)) rfl, uw_0⟩
theorem fp_RX0_36 : FP RX0 36 0 5 .int := ⟨RX0, TX0, 9, tyX0, rfl, by decide, tb_in (List.mem_of_getElem? (i := 251) (by decide +kernel)) rfl, uw_0, tyX0_ok, nmX0, rfl, by decide +kernel⟩
theorem fl_RX0_39 : FL RX0 39 0 6 := ⟨RX0, TX0, 9, rfl, by decide, tb_in (List.mem_of_getElem? (i := 255) (by decide +kernel)) rfl, uw_0⟩
theorem fp_RX0_39 : FP RX0 39 0 6 .int := ⟨RX0, TX0, 9, tyX0, rfl, by decide, tb_in (List.mem_of_getElem? (i := 255) (by decide +kernel)) rfl, uw_0, tyX0_ok, nmX0, rfl, by decide +kernel⟩
theorem fl_RX1_9 : FL RX1 9 1 3 := ⟨RX1, TX1, 5, rfl, by decide, tb_in (List.mem_of_getElem? (i := 399) (by decide +kernel)) rfl, uw_1⟩
theorem fl_RX1_15 : FL RX1 15 1 4 := ⟨RX1, TX1, 5, rfl, by decide, tb_in (List.mem_of_getElem? (i := 400) (by decide +kernel)) rfl, uw_1⟩
theorem fl_RX1_18 : FL RX1 18 1 0 := ⟨RX1, TX1, 5, rfl, by decide, tb_in (List.mem_of_getElem? (i := 395) (by decide +kernel)) rfl, uw_1⟩
theorem fl_RX1_22 : FL RX1 22 1 1 := ⟨RX1, TX1, 5, rfl, by decide, tb_in (List.mem_of_getElem? (i := 396) (by decide +kernel)) rfl, uw_1⟩
theorem fl_RX1_26 : FL RX1 26 1 2 := ⟨RX1, TX1, 5, rfl, by decide, tb_in (List.mem_of_getElem? (i := 397) (by decide +kernel)) rfl, uw_1⟩
theorem fp_RX1_26 : FP RX1 26 1 2 .int := ⟨RX1, TX1, 5, tyX1, rfl, by decide, tb_in (List.mem_of_getElem? (i := 397) (by decide +kernel)) rfl, uw_1, tyX1_ok, nmX1, rfl, by decide +kernel⟩
theorem fl_RX2_11 : FL RX2 11 2 1 := ⟨RX2, TX2, 2, rfl, by decide, tb_in (List.mem_of_getElem? (i := 298) (by decide +kernel)) rfl, uw_2⟩
theorem fl_RX2_18 : FL RX2 18 2 0 := ⟨RX2, TX2, 2, rfl, by decide, tb_in (List.mem_of_getElem? (i := 292) (by decide +kernel)) rfl, uw_2⟩
theorem fp_RX2_18 : FP RX2 18 2 0 .int := ⟨RX2, TX2, 2, tyX2, rfl, by decide, tb_in (List.mem_of_getElem? (i := 292) (by decide +kernel)) rfl, uw_2, tyX2_ok, nmX2, rfl, by decide +kernel⟩
theorem fl_RX2_28 : FL RX2 28 0 7 := ⟨RX0, TX0, 9, rfl, by decide, tb_in (List.mem_of_getElem? (i := 261) (by decide +kernel)) rfl, uw_0⟩
theorem fp_RX2_28 : FP RX2 28 0 7 .boolean := ⟨RX0, TX0, 9, tyX0, rfl, by decide, tb_in (List.mem_of_getElem? (i := 261) (by decide +kernel)) rfl, uw_0, tyX0_ok, nmX0, rfl, by decide +kernel⟩
theorem fl_RX2_42 : FL RX2 42 0 8 := ⟨RX0, TX0, 9, rfl, by decide, tb_in (List.mem_of_getElem? (i := 269) (by decide +kernel)) rfl, uw_0⟩
theorem fl_RX3_9 : FL RX3 9 3 3 := ⟨RX3, TX3, 8, rfl, by decide, tb_in (List.mem_of_getElem? (i := 367) (by decide +kernel)) rfl, uw_3⟩
theorem fl_RX3_17 : FL RX3 17 3 4 := ⟨RX3, TX3, 8, rfl, by decide, tb_in (List.mem_of_getElem? (i := 368) (by decide +kernel)) rfl, uw_3⟩
theorem fl_RX3_20 : FL RX3 20 3 0 := ⟨RX3, TX3, 8, rfl, by decide, tb_in (List.mem_of_getElem? (i := 364) (by decide +kernel)) rfl, uw_3⟩
theorem fl_RX3_24 : FL RX3 24 3 1 := ⟨RX3, TX3, 8, rfl, by decide, tb_in (List.mem_of_getElem? (i := 365) (by decide +kernel)) rfl, uw_3⟩
theorem fl_RX3_28 : FL RX3 28 3 2 := ⟨RX3, TX3, 8, rfl, by decide, tb_in (List.mem_of_getElem? (i := 366) (by decide +kernel)) rfl, uw_3⟩
theorem fl_RX3_32 : FL RX3 32 3 5 := ⟨RX3, TX3, 8, rfl, by decide, tb_in (List.mem_of_getElem? (i := 369) (by decide +kernel)) rfl, uw_3⟩
theorem fp_RX3_32 : FP RX3 32 3 5 .int := ⟨RX3, TX3, 8, tyX3, rfl, by decide, tb_in (List.mem_of_getElem? (i := 369) (by decide +kernel)) rfl, uw_3, tyX3_ok, nmX3, rfl, by decide +kernel⟩
theorem fl_RX3_36 : FL RX3 36 0 6 := ⟨RX0, TX0, 9, rfl, by decide, tb_in (List.mem_of_getElem? (i := 254) (by decide +kernel)) rfl, uw_0⟩
theorem fp_RX3_36 : FP RX3 36 0 6 .int := ⟨RX0, TX0, 9, tyX0, rfl, by decide, tb_in (List.mem_of_getElem? (i := 254) (by decide +kernel)) rfl, uw_0, tyX0_ok, nmX0, rfl, by decide +kernel⟩
theorem fl_RX3_47 : FL RX3 47 8 1 := ⟨RX8, TX8, 15, rfl, by decide, tb_in (List.mem_of_getElem? (i := 132) (by decide +kernel)) rfl, uw_8⟩
theorem fp_RX3_47 : FP RX3 47 8 1 .int := ⟨RX8, TX8, 15, tyX8, rfl, by decide, tb_in (List.mem_of_getElem? (i := 132) (by decide +kernel)) rfl, uw_8, tyX8_ok, nmX8, rfl, by decide +kernel⟩
theorem fl_RX3_59 : FL RX3 59 0 2 := ⟨RX0, TX0, 9, rfl, by decide, tb_in (List.mem_of_getElem? (i := 240) (by decide +kernel)) rfl, uw_0⟩
theorem fp_RX3_59 : FP RX3 59 0 2 .int := ⟨RX0, TX0, 9, tyX0, rfl, by decide, tb_in (List.mem_of_getElem? (i := 240) (by decide +kernel)) rfl, uw_0, tyX0_ok, nmX0, rfl, by decide +kernel⟩
theorem fl_RX3_62 : FL RX3 62 0 3 := ⟨RX0, TX0, 9, rfl, by decide, tb_in (List.mem_of_getElem? (i := 245) (by decide +kernel)) rfl, uw_0⟩
theorem fp_RX3_62 : FP RX3 62 0 3 .int := ⟨RX0, TX0, 9, tyX0, rfl, by decide, tb_in (List.mem_of_getElem? (i := 245) (by decide +kernel)) rfl, uw_0, tyX0_ok, nmX0, rfl, by decide +kernel⟩
theorem fl_RX3_72 : FL RX3 72 0 1 := ⟨RX0, TX0, 9, rfl, by decide, tb_in (List.mem_of_getElem? (i := 235) (by decide +kernel)) rfl, uw_0⟩
theorem fp_RX3_72 : FP RX3 72 0 1 .int := ⟨RX0, TX0, 9, tyX0, rfl, by decide, tb_in (List.mem_of_getElem? (i := 235) (by decide +kernel)) rfl, uw_0, tyX0_ok, nmX0, rfl, by decide +kernel⟩
theorem fl_RX3_79 : FL RX3 79 0 4 := ⟨RX0, TX0, 9, rfl, by decide, tb_in (List.mem_of_getElem? (i := 248) (by decide +kernel)) rfl, uw_0⟩
theorem fp_RX3_79 : FP RX3 79 0 4 .int := ⟨RX0, TX0, 9, tyX0, rfl, by decide, tb_in (List.mem_of_getElem? (i := 248) (by decide +kernel)) rfl, uw_0, tyX0_ok, nmX0, rfl, by decide +kernel⟩
theorem fl_RX3_92 : FL RX3 92 0 0 := ⟨RX0, TX0, 9, rfl, by decide, tb_in (List.mem_of_getElem? (i := 231) (by decide +kernel)) rfl, uw_0⟩
theorem fp_RX3_92 : FP RX3 92 0 0 .int := ⟨RX0, TX0, 9, tyX0, rfl, by decide, tb_in (List.mem_of_getElem? (i := 231) (by decide +kernel)) rfl, uw_0, tyX0_ok, nmX0, rfl, by decide +kernel⟩
theorem fl_RX3_95 : FL RX3 95 3 6 := ⟨RX3, TX3, 8, rfl, by decide, tb_in (List.mem_of_getElem? (i := 370) (by decide +kernel)) rfl, uw_3⟩
theorem fp_RX3_95 : FP RX3 95 3 6 .int := ⟨RX3, TX3, 8, tyX3, rfl, by decide, tb_in (List.mem_of_getElem? (i := 370) (by decide +kernel)) rfl, uw_3, tyX3_ok, nmX3, rfl, by decide +kernel⟩
theorem fl_RX3_98 : FL RX3 98 3 7 := ⟨RX3, TX3, 8, rfl, by decide, tb_in (List.mem_of_getElem? (i := 371) (by decide +kernel)) rfl, uw_3⟩
theorem fp_RX3_98 : FP RX3 98 3 7 .int := ⟨RX3, TX3, 8, tyX3, rfl, by decide, tb_in (List.mem_of_getElem? (i := 371) (by decide +kernel)) rfl, uw_3, tyX3_ok, nmX3, rfl, by decide +kernel⟩
theorem fl_RX3_101 : FL RX3 101 6 2 := ⟨RX6, TX6, 7, rfl, by decide, tb_in (List.mem_of_getElem? (i := 336) (by decide +kernel)) rfl, uw_6⟩
theorem fl_RX3_119 : FL RX3 119 0 8 := ⟨RX0, TX0, 9, rfl, by decide, tb_in (List.mem_of_getElem? (i := 271) (by decide +kernel)) rfl, uw_0⟩
theorem fl_RX4_9 : FL RX4 9 4 4 := ⟨RX4, TX4, 7, rfl, by decide, tb_in (List.mem_of_getElem? (i := 423) (by decide +kernel)) rfl, uw_4⟩
theorem fl_RX4_15 : FL RX4 15 4 5 := ⟨RX4, TX4, 7, rfl, by decide, tb_in (List.mem_of_getElem? (i := 424) (by decide +kernel)) rfl, uw_4⟩
theorem fl_RX4_18 : FL RX4 18 4 6 := ⟨RX4, TX4, 7, rfl, by decide, tb_in (List.mem_of_getElem? (i := 425) (by decide +kernel)) rfl, uw_4⟩
theorem fl_RX4_21 : FL RX4 21 4 0 := ⟨RX4, TX4, 7, rfl, by decide, tb_in (List.mem_of_getElem? (i := 418) (by decide +kernel)) rfl, uw_4⟩
theorem fl_RX4_25 : FL RX4 25 4 1 := ⟨RX4, TX4, 7, rfl, by decide, tb_in (List.mem_of_getElem? (i := 419) (by decide +kernel)) rfl, uw_4⟩
theorem fl_RX4_29 : FL RX4 29 4 2 := ⟨RX4, TX4, 7, rfl, by decide, tb_in (List.mem_of_getElem? (i := 420) (by decide +kernel)) rfl, uw_4⟩
theorem fp_RX4_29 : FP RX4 29 4 2 .int := ⟨RX4, TX4, 7, tyX4, rfl, by decide, tb_in (List.mem_of_getElem? (i := 420) (by decide +kernel)) rfl, uw_4, tyX4_ok, nmX4, rfl, by decide +kernel⟩
theorem fl_RX4_41 : FL RX4 41 4 3 := ⟨RX4, TX4, 7, rfl, by decide, tb_in (List.mem_of_getElem? (i := 421) (by decide +kernel)) rfl, uw_4⟩
theorem fp_RX4_41 : FP RX4 41 4 3 .int := ⟨RX4, TX4, 7, tyX4, rfl, by decide, tb_in (List.mem_of_getElem? (i := 421) (by decide +kernel)) rfl, uw_4, tyX4_ok, nmX4, rfl, by decide +kernel⟩
theorem fl_RX4_44 : FL RX4 44 2 0 := ⟨RX2, TX2, 2, rfl, by decide, tb_in (List.mem_of_getElem? (i := 294) (by decide +kernel)) rfl, uw_2⟩
theorem fp_RX4_44 : FP RX4 44 2 0 .int := ⟨RX2, TX2, 2, tyX2, rfl, by decide, tb_in (List.mem_of_getElem? (i := 294) (by decide +kernel)) rfl, uw_2, tyX2_ok, nmX2, rfl, by decide +kernel⟩
theorem fl_RX4_54 : FL RX4 54 2 1 := ⟨RX2, TX2, 2, rfl, by decide, tb_in (List.mem_of_getElem? (i := 299) (by decide +kernel)) rfl, uw_2⟩
theorem fl_RX4_58 : FL RX4 58 0 7 := ⟨RX0, TX0, 9, rfl, by decide, tb_in (List.mem_of_getElem? (i := 259) (by decide +kernel)) rfl, uw_0⟩
theorem fp_RX4_58 : FP RX4 58 0 7 .boolean := ⟨RX0, TX0, 9, tyX0, rfl, by decide, tb_in (List.mem_of_getElem? (i := 259) (by decide +kernel)) rfl, uw_0, tyX0_ok, nmX0, rfl, by decide +kernel⟩
theorem fl_RX4_82 : FL RX4 82 0 5 := ⟨RX0, TX0, 9, rfl, by decide, tb_in (List.mem_of_getElem? (i := 252) (by decide +kernel)) rfl, uw_0⟩
theorem fp_RX4_82 : FP RX4 82 0 5 .int := ⟨RX0, TX0, 9, tyX0, rfl, by decide, tb_in (List.mem_of_getElem? (i := 252) (by decide +kernel)) rfl, uw_0, tyX0_ok, nmX0, rfl, by decide +kernel⟩
theorem fl_RX4_85 : FL RX4 85 0 8 := ⟨RX0, TX0, 9, rfl, by decide, tb_in (List.mem_of_getElem? (i := 270) (by decide +kernel)) rfl, uw_0⟩
theorem fl_RX4_89 : FL RX4 89 9 1 := ⟨RX9, TX9, 4, rfl, by decide, tb_in (List.mem_of_getElem? (i := 217) (by decide +kernel)) rfl, uw_9⟩
theorem fp_RX4_89 : FP RX4 89 9 1 .int := ⟨RX9, TX9, 4, tyX9, rfl, by decide, tb_in (List.mem_of_getElem? (i := 217) (by decide +kernel)) rfl, uw_9, tyX9_ok, nmX9, rfl, by decide +kernel⟩
theorem fl_RX4_94 : FL RX4 94 0 2 := ⟨RX0, TX0, 9, rfl, by decide, tb_in (List.mem_of_getElem? (i := 241) (by decide +kernel)) rfl, uw_0⟩
theorem fp_RX4_94 : FP RX4 94 0 2 .int := ⟨RX0, TX0, 9, tyX0, rfl, by decide, tb_in (List.mem_of_getElem? (i := 241) (by decide +kernel)) rfl, uw_0, tyX0_ok, nmX0, rfl, by decide +kernel⟩
theorem fl_RX5_9 : FL RX5 9 5 2 := ⟨RX5, TX5, 3, rfl, by decide, tb_in (List.mem_of_getElem? (i := 317) (by decide +kernel)) rfl, uw_5⟩
theorem fl_RX5_15 : FL RX5 15 5 0 := ⟨RX5, TX5, 3, rfl, by decide, tb_in (List.mem_of_getElem? (i := 315) (by decide +kernel)) rfl, uw_5⟩
theorem fl_RX5_19 : FL RX5 19 5 1 := ⟨RX5, TX5, 3, rfl, by decide, tb_in (List.mem_of_getElem? (i := 316) (by decide +kernel)) rfl, uw_5⟩
theorem fl_RX5_29 : FL RX5 29 8 9 := ⟨RX8, TX8, 15, rfl, by decide, tb_in (List.mem_of_getElem? (i := 146) (by decide +kernel)) rfl, uw_8⟩
theorem fl_RX5_32 : FL RX5 32 8 10 := ⟨RX8, TX8, 15, rfl, by decide, tb_in (List.mem_of_getElem? (i := 148) (by decide +kernel)) rfl, uw_8⟩
theorem fl_RX5_35 : FL RX5 35 8 1 := ⟨RX8, TX8, 15, rfl, by decide, tb_in (List.mem_of_getElem? (i := 133) (by decide +kernel)) rfl, uw_8⟩
theorem fp_RX5_35 : FP RX5 35 8 1 .int := ⟨RX8, TX8, 15, tyX8, rfl, by decide, tb_in (List.mem_of_getElem? (i := 133) (by decide +kernel)) rfl, uw_8, tyX8_ok, nmX8, rfl, by decide +kernel⟩
theorem fl_RX5_42 : FL RX5 42 2 0 := ⟨RX2, TX2, 2, rfl, by decide, tb_in (List.mem_of_getElem? (i := 296) (by decide +kernel)) rfl, uw_2⟩
theorem fp_RX5_42 : FP RX5 42 2 0 .int := ⟨RX2, TX2, 2, tyX2, rfl, by decide, tb_in (List.mem_of_getElem? (i := 296) (by decide +kernel)) rfl, uw_2, tyX2_ok, nmX2, rfl, by decide +kernel⟩
theorem fl_RX5_47 : FL RX5 47 2 1 := ⟨RX2, TX2, 2, rfl, by decide, tb_in (List.mem_of_getElem? (i := 302) (by decide +kernel)) rfl, uw_2⟩
theorem fl_RX5_51 : FL RX5 51 0 7 := ⟨RX0, TX0, 9, rfl, by decide, tb_in (List.mem_of_getElem? (i := 263) (by decide +kernel)) rfl, uw_0⟩
theorem fp_RX5_51 : FP RX5 51 0 7 .boolean := ⟨RX0, TX0, 9, tyX0, rfl, by decide, tb_in (List.mem_of_getElem? (i := 263) (by decide +kernel)) rfl, uw_0, tyX0_ok, nmX0, rfl, by decide +kernel⟩
theorem fl_RX5_57 : FL RX5 57 0 8 := ⟨RX0, TX0, 9, rfl, by decide, tb_in (List.mem_of_getElem? (i := 268) (by decide +kernel)) rfl, uw_0⟩
theorem fl_RX5_65 : FL RX5 65 0 6 := ⟨RX0, TX0, 9, rfl, by decide, tb_in (List.mem_of_getElem? (i := 256) (by decide +kernel)) rfl, uw_0⟩
theorem fp_RX5_65 : FP RX5 65 0 6 .int := ⟨RX0, TX0, 9, tyX0, rfl, by decide, tb_in (List.mem_of_getElem? (i := 256) (by decide +kernel)) rfl, uw_0, tyX0_ok, nmX0, rfl, by decide +kernel⟩
theorem fl_RX5_68 : FL RX5 68 9 0 := ⟨RX9, TX9, 4, rfl, by decide, tb_in (List.mem_of_getElem? (i := 212) (by decide +kernel)) rfl, uw_9⟩
theorem fp_RX5_68 : FP RX5 68 9 0 .int := ⟨RX9, TX9, 4, tyX9, rfl, by decide, tb_in (List.mem_of_getElem? (i := 212) (by decide +kernel)) rfl, uw_9, tyX9_ok, nmX9, rfl, by decide +kernel⟩
theorem fl_RX5_73 : FL RX5 73 9 1 := ⟨RX9, TX9, 4, rfl, by decide, tb_in (List.mem_of_getElem? (i := 216) (by decide +kernel)) rfl, uw_9⟩
theorem fp_RX5_73 : FP RX5 73 9 1 .int := ⟨RX9, TX9, 4, tyX9, rfl, by decide, tb_in (List.mem_of_getElem? (i := 216) (by decide +kernel)) rfl, uw_9, tyX9_ok, nmX9, rfl, by decide +kernel⟩
theorem fl_RX6_9 : FL RX6 9 6 2 := ⟨RX6, TX6, 7, rfl, by decide, tb_in (List.mem_of_getElem? (i := 335) (by decide +kernel)) rfl, uw_6⟩
theorem fl_RX6_17 : FL RX6 17 6 3 := ⟨RX6, TX6, 7, rfl, by decide, tb_in (List.mem_of_getElem? (i := 337) (by decide +kernel)) rfl, uw_6⟩
theorem fl_RX6_20 : FL RX6 20 6 4 := ⟨RX6, TX6, 7, rfl, by decide, tb_in (List.mem_of_getElem? (i := 338) (by decide +kernel)) rfl, uw_6⟩
theorem fl_RX6_23 : FL RX6 23 6 0 := ⟨RX6, TX6, 7, rfl, by decide, tb_in (List.mem_of_getElem? (i := 333) (by decide +kernel)) rfl, uw_6⟩
theorem fl_RX6_27 : FL RX6 27 6 1 := ⟨RX6, TX6, 7, rfl, by decide, tb_in (List.mem_of_getElem? (i := 334) (by decide +kernel)) rfl, uw_6⟩
theorem fl_RX6_31 : FL RX6 31 9 1 := ⟨RX9, TX9, 4, rfl, by decide, tb_in (List.mem_of_getElem? (i := 214) (by decide +kernel)) rfl, uw_9⟩
theorem fp_RX6_31 : FP RX6 31 9 1 .int := ⟨RX9, TX9, 4, tyX9, rfl, by decide, tb_in (List.mem_of_getElem? (i := 214) (by decide +kernel)) rfl, uw_9, tyX9_ok, nmX9, rfl, by decide +kernel⟩
theorem fl_RX6_43 : FL RX6 43 9 0 := ⟨RX9, TX9, 4, rfl, by decide, tb_in (List.mem_of_getElem? (i := 210) (by decide +kernel)) rfl, uw_9⟩
theorem fp_RX6_43 : FP RX6 43 9 0 .int := ⟨RX9, TX9, 4, tyX9, rfl, by decide, tb_in (List.mem_of_getElem? (i := 210) (by decide +kernel)) rfl, uw_9, tyX9_ok, nmX9, rfl, by decide +kernel⟩
theorem fl_RX6_58 : FL RX6 58 0 2 := ⟨RX0, TX0, 9, rfl, by decide, tb_in (List.mem_of_getElem? (i := 238) (by decide +kernel)) rfl, uw_0⟩
theorem fp_RX6_58 : FP RX6 58 0 2 .int := ⟨RX0, TX0, 9, tyX0, rfl, by decide, tb_in (List.mem_of_getElem? (i := 238) (by decide +kernel)) rfl, uw_0, tyX0_ok, nmX0, rfl, by decide +kernel⟩
theorem fl_RX6_63 : FL RX6 63 0 3 := ⟨RX0, TX0, 9, rfl, by decide, tb_in (List.mem_of_getElem? (i := 244) (by decide +kernel)) rfl, uw_0⟩
theorem fp_RX6_63 : FP RX6 63 0 3 .int := ⟨RX0, TX0, 9, tyX0, rfl, by decide, tb_in (List.mem_of_getElem? (i := 244) (by decide +kernel)) rfl, uw_0, tyX0_ok, nmX0, rfl, by decide +kernel⟩
theorem fl_RX6_66 : FL RX6 66 8 14 := ⟨RX8, TX8, 15, rfl, by decide, tb_in (List.mem_of_getElem? (i := 155) (by decide +kernel)) rfl, uw_8⟩
theorem fl_RX6_69 : FL RX6 69 2 0 := ⟨RX2, TX2, 2, rfl, by decide, tb_in (List.mem_of_getElem? (i := 295) (by decide +kernel)) rfl, uw_2⟩
theorem fp_RX6_69 : FP RX6 69 2 0 .int := ⟨RX2, TX2, 2, tyX2, rfl, by decide, tb_in (List.mem_of_getElem? (i := 295) (by decide +kernel)) rfl, uw_2, tyX2_ok, nmX2, rfl, by decide +kernel⟩
theorem fl_RX6_74 : FL RX6 74 2 1 := ⟨RX2, TX2, 2, rfl, by decide, tb_in (List.mem_of_getElem? (i := 300) (by decide +kernel)) rfl, uw_2⟩
theorem fl_RX6_78 : FL RX6 78 0 7 := ⟨RX0, TX0, 9, rfl, by decide, tb_in (List.mem_of_getElem? (i := 260) (by decide +kernel)) rfl, uw_0⟩
theorem fp_RX6_78 : FP RX6 78 0 7 .boolean := ⟨RX0, TX0, 9, tyX0, rfl, by decide, tb_in (List.mem_of_getElem? (i := 260) (by decide +kernel)) rfl, uw_0, tyX0_ok, nmX0, rfl, by decide +kernel⟩
theorem fl_RX6_86 : FL RX6 86 0 8 := ⟨RX0, TX0, 9, rfl, by decide, tb_in (List.mem_of_getElem? (i := 266) (by decide +kernel)) rfl, uw_0⟩
theorem fl_RX6_98 : FL RX6 98 8 11 := ⟨RX8, TX8, 15, rfl, by decide, tb_in (List.mem_of_getElem? (i := 150) (by decide +kernel)) rfl, uw_8⟩
theorem fl_RX6_109 : FL RX6 109 8 8 := ⟨RX8, TX8, 15, rfl, by decide, tb_in (List.mem_of_getElem? (i := 144) (by decide +kernel)) rfl, uw_8⟩
theorem fp_RX6_109 : FP RX6 109 8 8 .long := ⟨RX8, TX8, 15, tyX8, rfl, by decide, tb_in (List.mem_of_getElem? (i := 144) (by decide +kernel)) rfl, uw_8, tyX8_ok, nmX8, rfl, by decide +kernel⟩
theorem fl_RX6_113 : FL RX6 113 8 0 := ⟨RX8, TX8, 15, rfl, by decide, tb_in (List.mem_of_getElem? (i := 129) (by decide +kernel)) rfl, uw_8⟩
theorem fp_RX6_113 : FP RX6 113 8 0 .int := ⟨RX8, TX8, 15, tyX8, rfl, by decide, tb_in (List.mem_of_getElem? (i := 129) (by decide +kernel)) rfl, uw_8, tyX8_ok, nmX8, rfl, by decide +kernel⟩
theorem fl_RX6_116 : FL RX6 116 8 7 := ⟨RX8, TX8, 15, rfl, by decide, tb_in (List.mem_of_getElem? (i := 142) (by decide +kernel)) rfl, uw_8⟩
theorem fp_RX6_116 : FP RX6 116 8 7 .long := ⟨RX8, TX8, 15, tyX8, rfl, by decide, tb_in (List.mem_of_getElem? (i := 142) (by decide +kernel)) rfl, uw_8, tyX8_ok, nmX8, rfl, by decide +kernel⟩
theorem fl_RX6_135 : FL RX6 135 0 1 := ⟨RX0, TX0, 9, rfl, by decide, tb_in (List.mem_of_getElem? (i := 237) (by decide +kernel)) rfl, uw_0⟩
theorem fp_RX6_135 : FP RX6 135 0 1 .int := ⟨RX0, TX0, 9, tyX0, rfl, by decide, tb_in (List.mem_of_getElem? (i := 237) (by decide +kernel)) rfl, uw_0, tyX0_ok, nmX0, rfl, by decide +kernel⟩
theorem fl_RX6_146 : FL RX6 146 0 0 := ⟨RX0, TX0, 9, rfl, by decide, tb_in (List.mem_of_getElem? (i := 233) (by decide +kernel)) rfl, uw_0⟩
theorem fp_RX6_146 : FP RX6 146 0 0 .int := ⟨RX0, TX0, 9, tyX0, rfl, by decide, tb_in (List.mem_of_getElem? (i := 233) (by decide +kernel)) rfl, uw_0, tyX0_ok, nmX0, rfl, by decide +kernel⟩
theorem fl_RX6_149 : FL RX6 149 0 4 := ⟨RX0, TX0, 9, rfl, by decide, tb_in (List.mem_of_getElem? (i := 250) (by decide +kernel)) rfl, uw_0⟩
theorem fp_RX6_149 : FP RX6 149 0 4 .int := ⟨RX0, TX0, 9, tyX0, rfl, by decide, tb_in (List.mem_of_getElem? (i := 250) (by decide +kernel)) rfl, uw_0, tyX0_ok, nmX0, rfl, by decide +kernel⟩
theorem fl_RX6_155 : FL RX6 155 6 5 := ⟨RX6, TX6, 7, rfl, by decide, tb_in (List.mem_of_getElem? (i := 339) (by decide +kernel)) rfl, uw_6⟩
theorem fp_RX6_155 : FP RX6 155 6 5 .int := ⟨RX6, TX6, 7, tyX6, rfl, by decide, tb_in (List.mem_of_getElem? (i := 339) (by decide +kernel)) rfl, uw_6, tyX6_ok, nmX6, rfl, by decide +kernel⟩
theorem fl_RX6_156 : FL RX6 156 6 6 := ⟨RX6, TX6, 7, rfl, by decide, tb_in (List.mem_of_getElem? (i := 340) (by decide +kernel)) rfl, uw_6⟩
theorem fp_RX6_156 : FP RX6 156 6 6 .int := ⟨RX6, TX6, 7, tyX6, rfl, by decide, tb_in (List.mem_of_getElem? (i := 340) (by decide +kernel)) rfl, uw_6, tyX6_ok, nmX6, rfl, by decide +kernel⟩
theorem fl_RX7_9 : FL RX7 9 7 6 := ⟨RX7, TX7, 7, rfl, by decide, tb_in (List.mem_of_getElem? (i := 454) (by decide +kernel)) rfl, uw_7⟩
theorem fl_RX7_15 : FL RX7 15 7 0 := ⟨RX7, TX7, 7, rfl, by decide, tb_in (List.mem_of_getElem? (i := 447) (by decide +kernel)) rfl, uw_7⟩
theorem fl_RX7_19 : FL RX7 19 7 1 := ⟨RX7, TX7, 7, rfl, by decide, tb_in (List.mem_of_getElem? (i := 448) (by decide +kernel)) rfl, uw_7⟩
theorem fl_RX7_23 : FL RX7 23 7 2 := ⟨RX7, TX7, 7, rfl, by decide, tb_in (List.mem_of_getElem? (i := 449) (by decide +kernel)) rfl, uw_7⟩
theorem fp_RX7_23 : FP RX7 23 7 2 .boolean := ⟨RX7, TX7, 7, tyX7, rfl, by decide, tb_in (List.mem_of_getElem? (i := 449) (by decide +kernel)) rfl, uw_7, tyX7_ok, nmX7, rfl, by decide +kernel⟩
theorem fl_RX7_27 : FL RX7 27 7 3 := ⟨RX7, TX7, 7, rfl, by decide, tb_in (List.mem_of_getElem? (i := 451) (by decide +kernel)) rfl, uw_7⟩
theorem fp_RX7_27 : FP RX7 27 7 3 .int := ⟨RX7, TX7, 7, tyX7, rfl, by decide, tb_in (List.mem_of_getElem? (i := 451) (by decide +kernel)) rfl, uw_7, tyX7_ok, nmX7, rfl, by decide +kernel⟩
theorem fl_RX7_31 : FL RX7 31 7 4 := ⟨RX7, TX7, 7, rfl, by decide, tb_in (List.mem_of_getElem? (i := 452) (by decide +kernel)) rfl, uw_7⟩
theorem fp_RX7_31 : FP RX7 31 7 4 .int := ⟨RX7, TX7, 7, tyX7, rfl, by decide, tb_in (List.mem_of_getElem? (i := 452) (by decide +kernel)) rfl, uw_7, tyX7_ok, nmX7, rfl, by decide +kernel⟩
theorem fl_RX7_34 : FL RX7 34 7 5 := ⟨RX7, TX7, 7, rfl, by decide, tb_in (List.mem_of_getElem? (i := 453) (by decide +kernel)) rfl, uw_7⟩
theorem fp_RX7_34 : FP RX7 34 7 5 .int := ⟨RX7, TX7, 7, tyX7, rfl, by decide, tb_in (List.mem_of_getElem? (i := 453) (by decide +kernel)) rfl, uw_7, tyX7_ok, nmX7, rfl, by decide +kernel⟩
theorem fl_RX7_47 : FL RX7 47 8 12 := ⟨RX8, TX8, 15, rfl, by decide, tb_in (List.mem_of_getElem? (i := 152) (by decide +kernel)) rfl, uw_8⟩
theorem fl_RX7_52 : FL RX7 52 9 0 := ⟨RX9, TX9, 4, rfl, by decide, tb_in (List.mem_of_getElem? (i := 211) (by decide +kernel)) rfl, uw_9⟩
theorem fp_RX7_52 : FP RX7 52 9 0 .int := ⟨RX9, TX9, 4, tyX9, rfl, by decide, tb_in (List.mem_of_getElem? (i := 211) (by decide +kernel)) rfl, uw_9, tyX9_ok, nmX9, rfl, by decide +kernel⟩
theorem fl_RX7_63 : FL RX7 63 9 1 := ⟨RX9, TX9, 4, rfl, by decide, tb_in (List.mem_of_getElem? (i := 215) (by decide +kernel)) rfl, uw_9⟩
theorem fp_RX7_63 : FP RX7 63 9 1 .int := ⟨RX9, TX9, 4, tyX9, rfl, by decide, tb_in (List.mem_of_getElem? (i := 215) (by decide +kernel)) rfl, uw_9, tyX9_ok, nmX9, rfl, by decide +kernel⟩
theorem fl_RX7_75 : FL RX7 75 2 1 := ⟨RX2, TX2, 2, rfl, by decide, tb_in (List.mem_of_getElem? (i := 301) (by decide +kernel)) rfl, uw_2⟩
theorem fl_RX7_81 : FL RX7 81 0 7 := ⟨RX0, TX0, 9, rfl, by decide, tb_in (List.mem_of_getElem? (i := 262) (by decide +kernel)) rfl, uw_0⟩
theorem fp_RX7_81 : FP RX7 81 0 7 .boolean := ⟨RX0, TX0, 9, tyX0, rfl, by decide, tb_in (List.mem_of_getElem? (i := 262) (by decide +kernel)) rfl, uw_0, tyX0_ok, nmX0, rfl, by decide +kernel⟩
theorem fl_RX7_86 : FL RX7 86 0 8 := ⟨RX0, TX0, 9, rfl, by decide, tb_in (List.mem_of_getElem? (i := 267) (by decide +kernel)) rfl, uw_0⟩
theorem fl_RX7_94 : FL RX7 94 2 0 := ⟨RX2, TX2, 2, rfl, by decide, tb_in (List.mem_of_getElem? (i := 297) (by decide +kernel)) rfl, uw_2⟩
theorem fp_RX7_94 : FP RX7 94 2 0 .int := ⟨RX2, TX2, 2, tyX2, rfl, by decide, tb_in (List.mem_of_getElem? (i := 297) (by decide +kernel)) rfl, uw_2, tyX2_ok, nmX2, rfl, by decide +kernel⟩
theorem fl_RX8_9 : FL RX8 9 8 2 := ⟨RX8, TX8, 15, rfl, by decide, tb_in (List.mem_of_getElem? (i := 134) (by decide +kernel)) rfl, uw_8⟩
theorem fp_RX8_9 : FP RX8 9 8 2 .int := ⟨RX8, TX8, 15, tyX8, rfl, by decide, tb_in (List.mem_of_getElem? (i := 134) (by decide +kernel)) rfl, uw_8, tyX8_ok, nmX8, rfl, by decide +kernel⟩
theorem fl_RX8_15 : FL RX8 15 8 3 := ⟨RX8, TX8, 15, rfl, by decide, tb_in (List.mem_of_getElem? (i := 135) (by decide +kernel)) rfl, uw_8⟩
theorem fp_RX8_15 : FP RX8 15 8 3 .int := ⟨RX8, TX8, 15, tyX8, rfl, by decide, tb_in (List.mem_of_getElem? (i := 135) (by decide +kernel)) rfl, uw_8, tyX8_ok, nmX8, rfl, by decide +kernel⟩
theorem fl_RX8_18 : FL RX8 18 8 9 := ⟨RX8, TX8, 15, rfl, by decide, tb_in (List.mem_of_getElem? (i := 145) (by decide +kernel)) rfl, uw_8⟩
theorem fl_RX8_22 : FL RX8 22 8 10 := ⟨RX8, TX8, 15, rfl, by decide, tb_in (List.mem_of_getElem? (i := 147) (by decide +kernel)) rfl, uw_8⟩
theorem fl_RX8_25 : FL RX8 25 8 11 := ⟨RX8, TX8, 15, rfl, by decide, tb_in (List.mem_of_getElem? (i := 149) (by decide +kernel)) rfl, uw_8⟩
theorem fl_RX8_29 : FL RX8 29 8 12 := ⟨RX8, TX8, 15, rfl, by decide, tb_in (List.mem_of_getElem? (i := 151) (by decide +kernel)) rfl, uw_8⟩
theorem fl_RX8_32 : FL RX8 32 8 13 := ⟨RX8, TX8, 15, rfl, by decide, tb_in (List.mem_of_getElem? (i := 153) (by decide +kernel)) rfl, uw_8⟩
theorem fl_RX8_35 : FL RX8 35 8 14 := ⟨RX8, TX8, 15, rfl, by decide, tb_in (List.mem_of_getElem? (i := 154) (by decide +kernel)) rfl, uw_8⟩
theorem fl_RX8_42 : FL RX8 42 8 0 := ⟨RX8, TX8, 15, rfl, by decide, tb_in (List.mem_of_getElem? (i := 128) (by decide +kernel)) rfl, uw_8⟩
theorem fp_RX8_42 : FP RX8 42 8 0 .int := ⟨RX8, TX8, 15, tyX8, rfl, by decide, tb_in (List.mem_of_getElem? (i := 128) (by decide +kernel)) rfl, uw_8, tyX8_ok, nmX8, rfl, by decide +kernel⟩
theorem fl_RX8_51 : FL RX8 51 8 1 := ⟨RX8, TX8, 15, rfl, by decide, tb_in (List.mem_of_getElem? (i := 130) (by decide +kernel)) rfl, uw_8⟩
theorem fp_RX8_51 : FP RX8 51 8 1 .int := ⟨RX8, TX8, 15, tyX8, rfl, by decide, tb_in (List.mem_of_getElem? (i := 130) (by decide +kernel)) rfl, uw_8, tyX8_ok, nmX8, rfl, by decide +kernel⟩
theorem fl_RX8_54 : FL RX8 54 8 6 := ⟨RX8, TX8, 15, rfl, by decide, tb_in (List.mem_of_getElem? (i := 140) (by decide +kernel)) rfl, uw_8⟩
theorem fp_RX8_54 : FP RX8 54 8 6 .long := ⟨RX8, TX8, 15, tyX8, rfl, by decide, tb_in (List.mem_of_getElem? (i := 140) (by decide +kernel)) rfl, uw_8, tyX8_ok, nmX8, rfl, by decide +kernel⟩
theorem fl_RX8_61 : FL RX8 61 8 4 := ⟨RX8, TX8, 15, rfl, by decide, tb_in (List.mem_of_getElem? (i := 136) (by decide +kernel)) rfl, uw_8⟩
theorem fp_RX8_61 : FP RX8 61 8 4 .int := ⟨RX8, TX8, 15, tyX8, rfl, by decide, tb_in (List.mem_of_getElem? (i := 136) (by decide +kernel)) rfl, uw_8, tyX8_ok, nmX8, rfl, by decide +kernel⟩
theorem fl_RX8_64 : FL RX8 64 8 5 := ⟨RX8, TX8, 15, rfl, by decide, tb_in (List.mem_of_getElem? (i := 138) (by decide +kernel)) rfl, uw_8⟩
theorem fp_RX8_64 : FP RX8 64 8 5 .int := ⟨RX8, TX8, 15, tyX8, rfl, by decide, tb_in (List.mem_of_getElem? (i := 138) (by decide +kernel)) rfl, uw_8, tyX8_ok, nmX8, rfl, by decide +kernel⟩
theorem fl_RX8_73 : FL RX8 73 8 7 := ⟨RX8, TX8, 15, rfl, by decide, tb_in (List.mem_of_getElem? (i := 141) (by decide +kernel)) rfl, uw_8⟩
theorem fp_RX8_73 : FP RX8 73 8 7 .long := ⟨RX8, TX8, 15, tyX8, rfl, by decide, tb_in (List.mem_of_getElem? (i := 141) (by decide +kernel)) rfl, uw_8, tyX8_ok, nmX8, rfl, by decide +kernel⟩
theorem fl_RX8_76 : FL RX8 76 8 8 := ⟨RX8, TX8, 15, rfl, by decide, tb_in (List.mem_of_getElem? (i := 143) (by decide +kernel)) rfl, uw_8⟩
theorem fp_RX8_76 : FP RX8 76 8 8 .long := ⟨RX8, TX8, 15, tyX8, rfl, by decide, tb_in (List.mem_of_getElem? (i := 143) (by decide +kernel)) rfl, uw_8, tyX8_ok, nmX8, rfl, by decide +kernel⟩
theorem fl_RX9_9 : FL RX9 9 9 2 := ⟨RX9, TX9, 4, rfl, by decide, tb_in (List.mem_of_getElem? (i := 219) (by decide +kernel)) rfl, uw_9⟩
theorem fl_RX9_15 : FL RX9 15 9 3 := ⟨RX9, TX9, 4, rfl, by decide, tb_in (List.mem_of_getElem? (i := 220) (by decide +kernel)) rfl, uw_9⟩
theorem fl_RX9_18 : FL RX9 18 9 1 := ⟨RX9, TX9, 4, rfl, by decide, tb_in (List.mem_of_getElem? (i := 213) (by decide +kernel)) rfl, uw_9⟩
theorem fp_RX9_18 : FP RX9 18 9 1 .int := ⟨RX9, TX9, 4, tyX9, rfl, by decide, tb_in (List.mem_of_getElem? (i := 213) (by decide +kernel)) rfl, uw_9, tyX9_ok, nmX9, rfl, by decide +kernel⟩
theorem fl_RX9_22 : FL RX9 22 9 0 := ⟨RX9, TX9, 4, rfl, by decide, tb_in (List.mem_of_getElem? (i := 209) (by decide +kernel)) rfl, uw_9⟩
theorem fp_RX9_22 : FP RX9 22 9 0 .int := ⟨RX9, TX9, 4, tyX9, rfl, by decide, tb_in (List.mem_of_getElem? (i := 209) (by decide +kernel)) rfl, uw_9, tyX9_ok, nmX9, rfl, by decide +kernel⟩
theorem fl_RX11_7 : FL RX11 7 11 2 := ⟨RX11, TX11, 32, rfl, by decide, tb_in (List.mem_of_getElem? (i := 1019) (by decide +kernel)) rfl, uw_11⟩
theorem fp_RX11_7 : FP RX11 7 11 2 .int := ⟨RX11, TX11, 32, tyX11, rfl, by decide, tb_in (List.mem_of_getElem? (i := 1019) (by decide +kernel)) rfl, uw_11, tyX11_ok, nmX11, rfl, by decide +kernel⟩
theorem fl_RX11_13 : FL RX11 13 11 6 := ⟨RX11, TX11, 32, rfl, by decide, tb_in (List.mem_of_getElem? (i := 1023) (by decide +kernel)) rfl, uw_11⟩
theorem fl_RX11_17 : FL RX11 17 11 7 := ⟨RX11, TX11, 32, rfl, by decide, tb_in (List.mem_of_getElem? (i := 1024) (by decide +kernel)) rfl, uw_11⟩
theorem fl_RX11_20 : FL RX11 20 11 8 := ⟨RX11, TX11, 32, rfl, by decide, tb_in (List.mem_of_getElem? (i := 1025) (by decide +kernel)) rfl, uw_11⟩
theorem fl_RX11_24 : FL RX11 24 11 10 := ⟨RX11, TX11, 32, rfl, by decide, tb_in (List.mem_of_getElem? (i := 1027) (by decide +kernel)) rfl, uw_11⟩
theorem fl_RX11_27 : FL RX11 27 11 11 := ⟨RX11, TX11, 32, rfl, by decide, tb_in (List.mem_of_getElem? (i := 1028) (by decide +kernel)) rfl, uw_11⟩
theorem fl_RX11_30 : FL RX11 30 11 12 := ⟨RX11, TX11, 32, rfl, by decide, tb_in (List.mem_of_getElem? (i := 1029) (by decide +kernel)) rfl, uw_11⟩
theorem fl_RX11_33 : FL RX11 33 11 13 := ⟨RX11, TX11, 32, rfl, by decide, tb_in (List.mem_of_getElem? (i := 1030) (by decide +kernel)) rfl, uw_11⟩
theorem fl_RX11_36 : FL RX11 36 11 14 := ⟨RX11, TX11, 32, rfl, by decide, tb_in (List.mem_of_getElem? (i := 1031) (by decide +kernel)) rfl, uw_11⟩
theorem fl_RX11_39 : FL RX11 39 11 15 := ⟨RX11, TX11, 32, rfl, by decide, tb_in (List.mem_of_getElem? (i := 1032) (by decide +kernel)) rfl, uw_11⟩
theorem fl_RX11_42 : FL RX11 42 11 16 := ⟨RX11, TX11, 32, rfl, by decide, tb_in (List.mem_of_getElem? (i := 1033) (by decide +kernel)) rfl, uw_11⟩
theorem fl_RX11_45 : FL RX11 45 11 17 := ⟨RX11, TX11, 32, rfl, by decide, tb_in (List.mem_of_getElem? (i := 1034) (by decide +kernel)) rfl, uw_11⟩
theorem fl_RX11_48 : FL RX11 48 11 18 := ⟨RX11, TX11, 32, rfl, by decide, tb_in (List.mem_of_getElem? (i := 1035) (by decide +kernel)) rfl, uw_11⟩
theorem fl_RX11_51 : FL RX11 51 11 21 := ⟨RX11, TX11, 32, rfl, by decide, tb_in (List.mem_of_getElem? (i := 1038) (by decide +kernel)) rfl, uw_11⟩
theorem fl_RX11_54 : FL RX11 54 11 22 := ⟨RX11, TX11, 32, rfl, by decide, tb_in (List.mem_of_getElem? (i := 1039) (by decide +kernel)) rfl, uw_11⟩
theorem fl_RX11_57 : FL RX11 57 11 23 := ⟨RX11, TX11, 32, rfl, by decide, tb_in (List.mem_of_getElem? (i := 1040) (by decide +kernel)) rfl, uw_11⟩
theorem fl_RX11_60 : FL RX11 60 11 24 := ⟨RX11, TX11, 32, rfl, by decide, tb_in (List.mem_of_getElem? (i := 1041) (by decide +kernel)) rfl, uw_11⟩
theorem fl_RX11_63 : FL RX11 63 11 25 := ⟨RX11, TX11, 32, rfl, by decide, tb_in (List.mem_of_getElem? (i := 1042) (by decide +kernel)) rfl, uw_11⟩
theorem fl_RX11_67 : FL RX11 67 11 27 := ⟨RX11, TX11, 32, rfl, by decide, tb_in (List.mem_of_getElem? (i := 1044) (by decide +kernel)) rfl, uw_11⟩
theorem fp_RX11_67 : FP RX11 67 11 27 .int := ⟨RX11, TX11, 32, tyX11, rfl, by decide, tb_in (List.mem_of_getElem? (i := 1044) (by decide +kernel)) rfl, uw_11, tyX11_ok, nmX11, rfl, by decide +kernel⟩
theorem fl_RX11_70 : FL RX11 70 11 30 := ⟨RX11, TX11, 32, rfl, by decide, tb_in (List.mem_of_getElem? (i := 1047) (by decide +kernel)) rfl, uw_11⟩
theorem fl_RX11_73 : FL RX11 73 11 31 := ⟨RX11, TX11, 32, rfl, by decide, tb_in (List.mem_of_getElem? (i := 1048) (by decide +kernel)) rfl, uw_11⟩
theorem fl_RX11_86 : FL RX11 86 11 0 := ⟨RX11, TX11, 32, rfl, by decide, tb_in (List.mem_of_getElem? (i := 1017) (by decide +kernel)) rfl, uw_11⟩
theorem fp_RX11_86 : FP RX11 86 11 0 .int := ⟨RX11, TX11, 32, tyX11, rfl, by decide, tb_in (List.mem_of_getElem? (i := 1017) (by decide +kernel)) rfl, uw_11, tyX11_ok, nmX11, rfl, by decide +kernel⟩
theorem fl_RX11_89 : FL RX11 89 11 1 := ⟨RX11, TX11, 32, rfl, by decide, tb_in (List.mem_of_getElem? (i := 1018) (by decide +kernel)) rfl, uw_11⟩
theorem fp_RX11_89 : FP RX11 89 11 1 .int := ⟨RX11, TX11, 32, tyX11, rfl, by decide, tb_in (List.mem_of_getElem? (i := 1018) (by decide +kernel)) rfl, uw_11, tyX11_ok, nmX11, rfl, by decide +kernel⟩
theorem fl_RX11_92 : FL RX11 92 11 4 := ⟨RX11, TX11, 32, rfl, by decide, tb_in (List.mem_of_getElem? (i := 1021) (by decide +kernel)) rfl, uw_11⟩
theorem fp_RX11_92 : FP RX11 92 11 4 .int := ⟨RX11, TX11, 32, tyX11, rfl, by decide, tb_in (List.mem_of_getElem? (i := 1021) (by decide +kernel)) rfl, uw_11, tyX11_ok, nmX11, rfl, by decide +kernel⟩
theorem fl_RX11_95 : FL RX11 95 11 5 := ⟨RX11, TX11, 32, rfl, by decide, tb_in (List.mem_of_getElem? (i := 1022) (by decide +kernel)) rfl, uw_11⟩
theorem fp_RX11_95 : FP RX11 95 11 5 .int := ⟨RX11, TX11, 32, tyX11, rfl, by decide, tb_in (List.mem_of_getElem? (i := 1022) (by decide +kernel)) rfl, uw_11, tyX11_ok, nmX11, rfl, by decide +kernel⟩
theorem fl_RX11_98 : FL RX11 98 11 9 := ⟨RX11, TX11, 32, rfl, by decide, tb_in (List.mem_of_getElem? (i := 1026) (by decide +kernel)) rfl, uw_11⟩
theorem fp_RX11_98 : FP RX11 98 11 9 .int := ⟨RX11, TX11, 32, tyX11, rfl, by decide, tb_in (List.mem_of_getElem? (i := 1026) (by decide +kernel)) rfl, uw_11, tyX11_ok, nmX11, rfl, by decide +kernel⟩
theorem fl_RX11_123 : FL RX11 123 11 3 := ⟨RX11, TX11, 32, rfl, by decide, tb_in (List.mem_of_getElem? (i := 1020) (by decide +kernel)) rfl, uw_11⟩
theorem fp_RX11_123 : FP RX11 123 11 3 .int := ⟨RX11, TX11, 32, tyX11, rfl, by decide, tb_in (List.mem_of_getElem? (i := 1020) (by decide +kernel)) rfl, uw_11, tyX11_ok, nmX11, rfl, by decide +kernel⟩
theorem fl_RX11_178 : FL RX11 178 11 19 := ⟨RX11, TX11, 32, rfl, by decide, tb_in (List.mem_of_getElem? (i := 1036) (by decide +kernel)) rfl, uw_11⟩
theorem fp_RX11_178 : FP RX11 178 11 19 .int := ⟨RX11, TX11, 32, tyX11, rfl, by decide, tb_in (List.mem_of_getElem? (i := 1036) (by decide +kernel)) rfl, uw_11, tyX11_ok, nmX11, rfl, by decide +kernel⟩
theorem fl_RX11_181 : FL RX11 181 11 20 := ⟨RX11, TX11, 32, rfl, by decide, tb_in (List.mem_of_getElem? (i := 1037) (by decide +kernel)) rfl, uw_11⟩
theorem fp_RX11_181 : FP RX11 181 11 20 .int := ⟨RX11, TX11, 32, tyX11, rfl, by decide, tb_in (List.mem_of_getElem? (i := 1037) (by decide +kernel)) rfl, uw_11, tyX11_ok, nmX11, rfl, by decide +kernel⟩
theorem fl_RX11_238 : FL RX11 238 11 26 := ⟨RX11, TX11, 32, rfl, by decide, tb_in (List.mem_of_getElem? (i := 1043) (by decide +kernel)) rfl, uw_11⟩
theorem fp_RX11_238 : FP RX11 238 11 26 .int := ⟨RX11, TX11, 32, tyX11, rfl, by decide, tb_in (List.mem_of_getElem? (i := 1043) (by decide +kernel)) rfl, uw_11, tyX11_ok, nmX11, rfl, by decide +kernel⟩
theorem fl_RX11_256 : FL RX11 256 11 28 := ⟨RX11, TX11, 32, rfl, by decide, tb_in (List.mem_of_getElem? (i := 1045) (by decide +kernel)) rfl, uw_11⟩
theorem fp_RX11_256 : FP RX11 256 11 28 .int := ⟨RX11, TX11, 32, tyX11, rfl, by decide, tb_in (List.mem_of_getElem? (i := 1045) (by decide +kernel)) rfl, uw_11, tyX11_ok, nmX11, rfl, by decide +kernel⟩
theorem fl_RX11_259 : FL RX11 259 11 29 := ⟨RX11, TX11, 32, rfl, by decide, tb_in (List.mem_of_getElem? (i := 1046) (by decide +kernel)) rfl, uw_11⟩
theorem fp_RX11_259 : FP RX11 259 11 29 .int := ⟨RX11, TX11, 32, tyX11, rfl, by decide, tb_in (List.mem_of_getElem? (i := 1046) (by decide +kernel)) rfl, uw_11, tyX11_ok, nmX11, rfl, by decide +kernel⟩
theorem ms_J13_bitCount_95d88 : MS yJ13_bitCount_95d88 cJ13_bitCount_95d88 2 (some .int) 1 := ⟨⟨by decide, by decide, by decide +kernel⟩, tb_in (List.mem_of_getElem? (i := 903) (by decide +kernel)) rfl, tb_in (List.mem_of_getElem? (i := 64) (by decide +kernel)) rfl, tb_in (List.mem_of_getElem? (i := 904) (by decide +kernel)) rfl, by decide⟩
theorem ms_J6_bitCount_0f7a4 : MS yJ6_bitCount_0f7a4 cJ6_bitCount_0f7a4 1 (some .int) 1 := ⟨⟨by decide, by decide, by decide +kernel⟩, tb_in (List.mem_of_getElem? (i := 808) (by decide +kernel)) rfl, tb_in (List.mem_of_getElem? (i := 63) (by decide +kernel)) rfl, tb_in (List.mem_of_getElem? (i := 809) (by decide +kernel)) rfl, by decide⟩
theorem ms_J9_abs_0f7a4 : MS yJ9_abs_0f7a4 cJ9_abs_0f7a4 1 (some .int) 1 := ⟨⟨by decide, by decide, by decide +kernel⟩, tb_in (List.mem_of_getElem? (i := 104) (by decide +kernel)) rfl, tb_in (List.mem_of_getElem? (i := 52) (by decide +kernel)) rfl, tb_in (List.mem_of_getElem? (i := 105) (by decide +kernel)) rfl, by decide⟩
theorem ms_J9_max_7cf53 : MS yJ9_max_7cf53 cJ9_max_7cf53 2 (some .int) 2 := ⟨⟨by decide, by decide, by decide +kernel⟩, tb_in (List.mem_of_getElem? (i := 107) (by decide +kernel)) rfl, tb_in (List.mem_of_getElem? (i := 52) (by decide +kernel)) rfl, tb_in (List.mem_of_getElem? (i := 108) (by decide +kernel)) rfl, by decide⟩
theorem ms_J9_min_7cf53 : MS yJ9_min_7cf53 cJ9_min_7cf53 2 (some .int) 2 := ⟨⟨by decide, by decide, by decide +kernel⟩, tb_in (List.mem_of_getElem? (i := 84) (by decide +kernel)) rfl, tb_in (List.mem_of_getElem? (i := 52) (by decide +kernel)) rfl, tb_in (List.mem_of_getElem? (i := 85) (by decide +kernel)) rfl, by decide⟩
theorem mv_X0_between : MV RX0 yX0_between cX0_between 3 none 2 := ⟨⟨rfl, by decide, by decide, by decide +kernel⟩, tb_in (List.mem_of_getElem? (i := 584) (by decide +kernel)) rfl, tb_in (List.mem_of_getElem? (i := 585) (by decide +kernel)) rfl, tb_in (List.mem_of_getElem? (i := 54) (by decide +kernel)) rfl, tb_in (List.mem_of_getElem? (i := 586) (by decide +kernel)) rfl, by decide⟩
theorem mv_X0_like : MV RX0 yX0_like cX0_like 4 none 3 := ⟨⟨rfl, by decide, by decide, by decide +kernel⟩, tb_in (List.mem_of_getElem? (i := 592) (by decide +kernel)) rfl, tb_in (List.mem_of_getElem? (i := 593) (by decide +kernel)) rfl, tb_in (List.mem_of_getElem? (i := 54) (by decide +kernel)) rfl, tb_in (List.mem_of_getElem? (i := 594) (by decide +kernel)) rfl, by decide⟩
theorem mv_X0_within : MV RX0 yX0_within cX0_within 3 none 2 := ⟨⟨rfl, by decide, by decide, by decide +kernel⟩, tb_in (List.mem_of_getElem? (i := 588) (by decide +kernel)) rfl, tb_in (List.mem_of_getElem? (i := 589) (by decide +kernel)) rfl, tb_in (List.mem_of_getElem? (i := 54) (by decide +kernel)) rfl, tb_in (List.mem_of_getElem? (i := 590) (by decide +kernel)) rfl, by decide⟩
theorem mv_X10_about : MV RX10 yX10_about cX10_about 4 (some .int) 2 := ⟨⟨rfl, by decide, by decide, by decide +kernel⟩, tb_in (List.mem_of_getElem? (i := 596) (by decide +kernel)) rfl, tb_in (List.mem_of_getElem? (i := 597) (by decide +kernel)) rfl, tb_in (List.mem_of_getElem? (i := 50) (by decide +kernel)) rfl, tb_in (List.mem_of_getElem? (i := 598) (by decide +kernel)) rfl, by decide⟩
theorem mv_X10_air : MV RX10 yX10_air cX10_air 3 (some .int) 2 := ⟨⟨rfl, by decide, by decide, by decide +kernel⟩, tb_in (List.mem_of_getElem? (i := 497) (by decide +kernel)) rfl, tb_in (List.mem_of_getElem? (i := 498) (by decide +kernel)) rfl, tb_in (List.mem_of_getElem? (i := 50) (by decide +kernel)) rfl, tb_in (List.mem_of_getElem? (i := 499) (by decide +kernel)) rfl, by decide⟩
theorem mv_X10_ask : MV RX10 yX10_ask cX10_ask 9 (some .int) 7 := ⟨⟨rfl, by decide, by decide, by decide +kernel⟩, tb_in (List.mem_of_getElem? (i := 570) (by decide +kernel)) rfl, tb_in (List.mem_of_getElem? (i := 571) (by decide +kernel)) rfl, tb_in (List.mem_of_getElem? (i := 50) (by decide +kernel)) rfl, tb_in (List.mem_of_getElem? (i := 572) (by decide +kernel)) rfl, by decide⟩
theorem mv_X10_atOnce : MV RX10 yX10_atOnce cX10_atOnce 3 (some .int) 1 := ⟨⟨rfl, by decide, by decide, by decide +kernel⟩, tb_in (List.mem_of_getElem? (i := 831) (by decide +kernel)) rfl, tb_in (List.mem_of_getElem? (i := 832) (by decide +kernel)) rfl, tb_in (List.mem_of_getElem? (i := 50) (by decide +kernel)) rfl, tb_in (List.mem_of_getElem? (i := 833) (by decide +kernel)) rfl, by decide⟩
theorem mv_X10_bar : MV RX10 yX10_bar cX10_bar 4 (some .int) 2 := ⟨⟨rfl, by decide, by decide, by decide +kernel⟩, tb_in (List.mem_of_getElem? (i := 822) (by decide +kernel)) rfl, tb_in (List.mem_of_getElem? (i := 823) (by decide +kernel)) rfl, tb_in (List.mem_of_getElem? (i := 50) (by decide +kernel)) rfl, tb_in (List.mem_of_getElem? (i := 824) (by decide +kernel)) rfl, by decide⟩
theorem mv_X10_bars : MV RX10 yX10_bars cX10_bars 3 (some .int) 1 := ⟨⟨rfl, by decide, by decide, by decide +kernel⟩, tb_in (List.mem_of_getElem? (i := 783) (by decide +kernel)) rfl, tb_in (List.mem_of_getElem? (i := 784) (by decide +kernel)) rfl, tb_in (List.mem_of_getElem? (i := 50) (by decide +kernel)) rfl, tb_in (List.mem_of_getElem? (i := 785) (by decide +kernel)) rfl, by decide⟩
theorem mv_X10_could : MV RX10 yX10_could cX10_could 2 (some .int) 1 := ⟨⟨rfl, by decide, by decide, by decide +kernel⟩, tb_in (List.mem_of_getElem? (i := 889) (by decide +kernel)) rfl, tb_in (List.mem_of_getElem? (i := 890) (by decide +kernel)) rfl, tb_in (List.mem_of_getElem? (i := 50) (by decide +kernel)) rfl, tb_in (List.mem_of_getElem? (i := 891) (by decide +kernel)) rfl, by decide⟩
theorem mv_X10_couldBe : MV RX10 yX10_couldBe cX10_couldBe 4 (some .int) 2 := ⟨⟨rfl, by decide, by decide, by decide +kernel⟩, tb_in (List.mem_of_getElem? (i := 909) (by decide +kernel)) rfl, tb_in (List.mem_of_getElem? (i := 910) (by decide +kernel)) rfl, tb_in (List.mem_of_getElem? (i := 50) (by decide +kernel)) rfl, tb_in (List.mem_of_getElem? (i := 911) (by decide +kernel)) rfl, by decide⟩
theorem mv_X10_count : MV RX10 yX10_count cX10_count 2 (some .int) 1 := ⟨⟨rfl, by decide, by decide, by decide +kernel⟩, tb_in (List.mem_of_getElem? (i := 992) (by decide +kernel)) rfl, tb_in (List.mem_of_getElem? (i := 993) (by decide +kernel)) rfl, tb_in (List.mem_of_getElem? (i := 50) (by decide +kernel)) rfl, tb_in (List.mem_of_getElem? (i := 994) (by decide +kernel)) rfl, by decide⟩
theorem mv_X10_down : MV RX10 yX10_down cX10_down 4 (some .int) 2 := ⟨⟨rfl, by decide, by decide, by decide +kernel⟩, tb_in (List.mem_of_getElem? (i := 546) (by decide +kernel)) rfl, tb_in (List.mem_of_getElem? (i := 547) (by decide +kernel)) rfl, tb_in (List.mem_of_getElem? (i := 50) (by decide +kernel)) rfl, tb_in (List.mem_of_getElem? (i := 548) (by decide +kernel)) rfl, by decide⟩
theorem mv_X10_ears : MV RX10 yX10_ears cX10_ears 3 (some .int) 2 := ⟨⟨rfl, by decide, by decide, by decide +kernel⟩, tb_in (List.mem_of_getElem? (i := 946) (by decide +kernel)) rfl, tb_in (List.mem_of_getElem? (i := 947) (by decide +kernel)) rfl, tb_in (List.mem_of_getElem? (i := 50) (by decide +kernel)) rfl, tb_in (List.mem_of_getElem? (i := 948) (by decide +kernel)) rfl, by decide⟩
theorem mv_X10_endOfSoonest : MV RX10 yX10_endOfSoonest cX10_endOfSoonest 2 (some .int) 1 := ⟨⟨rfl, by decide, by decide, by decide +kernel⟩, tb_in (List.mem_of_getElem? (i := 613) (by decide +kernel)) rfl, tb_in (List.mem_of_getElem? (i := 3) (by decide +kernel)) rfl, tb_in (List.mem_of_getElem? (i := 50) (by decide +kernel)) rfl, tb_in (List.mem_of_getElem? (i := 614) (by decide +kernel)) rfl, by decide⟩
theorem mv_X10_folk : MV RX10 yX10_folk cX10_folk 5 (some .int) 3 := ⟨⟨rfl, by decide, by decide, by decide +kernel⟩, tb_in (List.mem_of_getElem? (i := 526) (by decide +kernel)) rfl, tb_in (List.mem_of_getElem? (i := 527) (by decide +kernel)) rfl, tb_in (List.mem_of_getElem? (i := 50) (by decide +kernel)) rfl, tb_in (List.mem_of_getElem? (i := 528) (by decide +kernel)) rfl, by decide⟩
theorem mv_X10_give : MV RX10 yX10_give cX10_give 4 (some .int) 1 := ⟨⟨rfl, by decide, by decide, by decide +kernel⟩, tb_in (List.mem_of_getElem? (i := 705) (by decide +kernel)) rfl, tb_in (List.mem_of_getElem? (i := 706) (by decide +kernel)) rfl, tb_in (List.mem_of_getElem? (i := 50) (by decide +kernel)) rfl, tb_in (List.mem_of_getElem? (i := 707) (by decide +kernel)) rfl, by decide⟩
theorem mv_X10_giveAll : MV RX10 yX10_giveAll cX10_giveAll 3 (some .int) 1 := ⟨⟨rfl, by decide, by decide, by decide +kernel⟩, tb_in (List.mem_of_getElem? (i := 873) (by decide +kernel)) rfl, tb_in (List.mem_of_getElem? (i := 874) (by decide +kernel)) rfl, tb_in (List.mem_of_getElem? (i := 50) (by decide +kernel)) rfl, tb_in (List.mem_of_getElem? (i := 875) (by decide +kernel)) rfl, by decide⟩
theorem ms_X10_giveIf : MS yX10_giveIf cX10_giveIf 2 (some .int) 2 := ⟨⟨by decide, by decide, by decide +kernel⟩, tb_in (List.mem_of_getElem? (i := 709) (by decide +kernel)) rfl, tb_in (List.mem_of_getElem? (i := 50) (by decide +kernel)) rfl, tb_in (List.mem_of_getElem? (i := 710) (by decide +kernel)) rfl, by decide⟩
theorem mv_X10_giveQuiet : MV RX10 yX10_giveQuiet cX10_giveQuiet 4 (some .int) 1 := ⟨⟨rfl, by decide, by decide, by decide +kernel⟩, tb_in (List.mem_of_getElem? (i := 712) (by decide +kernel)) rfl, tb_in (List.mem_of_getElem? (i := 713) (by decide +kernel)) rfl, tb_in (List.mem_of_getElem? (i := 50) (by decide +kernel)) rfl, tb_in (List.mem_of_getElem? (i := 714) (by decide +kernel)) rfl, by decide⟩
theorem ms_X10_holds : MS yX10_holds cX10_holds 3 (some .boolean) 2 := ⟨⟨by decide, by decide, by decide +kernel⟩, tb_in (List.mem_of_getElem? (i := 558) (by decide +kernel)) rfl, tb_in (List.mem_of_getElem? (i := 50) (by decide +kernel)) rfl, tb_in (List.mem_of_getElem? (i := 559) (by decide +kernel)) rfl, by decide⟩
theorem ms_X10_isIn : MS yX10_isIn cX10_isIn 2 (some .boolean) 2 := ⟨⟨by decide, by decide, by decide +kernel⟩, tb_in (List.mem_of_getElem? (i := 625) (by decide +kernel)) rfl, tb_in (List.mem_of_getElem? (i := 50) (by decide +kernel)) rfl, tb_in (List.mem_of_getElem? (i := 626) (by decide +kernel)) rfl, by decide⟩
theorem ms_X10_isMinute : MS yX10_isMinute cX10_isMinute 1 (some .boolean) 1 := ⟨⟨by decide, by decide, by decide +kernel⟩, tb_in (List.mem_of_getElem? (i := 118) (by decide +kernel)) rfl, tb_in (List.mem_of_getElem? (i := 50) (by decide +kernel)) rfl, tb_in (List.mem_of_getElem? (i := 119) (by decide +kernel)) rfl, by decide⟩
theorem ms_X10_isWithin : MS yX10_isWithin cX10_isWithin 3 (some .boolean) 3 := ⟨⟨by decide, by decide, by decide +kernel⟩, tb_in (List.mem_of_getElem? (i := 121) (by decide +kernel)) rfl, tb_in (List.mem_of_getElem? (i := 50) (by decide +kernel)) rfl, tb_in (List.mem_of_getElem? (i := 122) (by decide +kernel)) rfl, by decide⟩
theorem mv_X10_led : MV RX10 yX10_led cX10_led 2 (some .int) 1 := ⟨⟨rfl, by decide, by decide, by decide +kernel⟩, tb_in (List.mem_of_getElem? (i := 933) (by decide +kernel)) rfl, tb_in (List.mem_of_getElem? (i := 934) (by decide +kernel)) rfl, tb_in (List.mem_of_getElem? (i := 50) (by decide +kernel)) rfl, tb_in (List.mem_of_getElem? (i := 935) (by decide +kernel)) rfl, by decide⟩
theorem mv_X10_ledAt : MV RX10 yX10_ledAt cX10_ledAt 3 (some .int) 1 := ⟨⟨rfl, by decide, by decide, by decide +kernel⟩, tb_in (List.mem_of_getElem? (i := 941) (by decide +kernel)) rfl, tb_in (List.mem_of_getElem? (i := 942) (by decide +kernel)) rfl, tb_in (List.mem_of_getElem? (i := 50) (by decide +kernel)) rfl, tb_in (List.mem_of_getElem? (i := 943) (by decide +kernel)) rfl, by decide⟩
theorem mv_X10_ledOff : MV RX10 yX10_ledOff cX10_ledOff 1 (some .int) 0 := ⟨⟨rfl, by decide, by decide, by decide +kernel⟩, tb_in (List.mem_of_getElem? (i := 913) (by decide +kernel)) rfl, tb_in (List.mem_of_getElem? (i := 914) (by decide +kernel)) rfl, tb_in (List.mem_of_getElem? (i := 50) (by decide +kernel)) rfl, tb_in (List.mem_of_getElem? (i := 915) (by decide +kernel)) rfl, by decide⟩
theorem mv_X10_meet : MV RX10 yX10_meet cX10_meet 6 (some .int) 3 := ⟨⟨rfl, by decide, by decide, by decide +kernel⟩, tb_in (List.mem_of_getElem? (i := 774) (by decide +kernel)) rfl, tb_in (List.mem_of_getElem? (i := 775) (by decide +kernel)) rfl, tb_in (List.mem_of_getElem? (i := 50) (by decide +kernel)) rfl, tb_in (List.mem_of_getElem? (i := 776) (by decide +kernel)) rfl, by decide⟩
theorem mv_X10_noise : MV RX10 yX10_noise cX10_noise 2 (some .int) 1 := ⟨⟨rfl, by decide, by decide, by decide +kernel⟩, tb_in (List.mem_of_getElem? (i := 954) (by decide +kernel)) rfl, tb_in (List.mem_of_getElem? (i := 955) (by decide +kernel)) rfl, tb_in (List.mem_of_getElem? (i := 50) (by decide +kernel)) rfl, tb_in (List.mem_of_getElem? (i := 956) (by decide +kernel)) rfl, by decide⟩
theorem ms_X10_oneIf : MS yX10_oneIf cX10_oneIf 1 (some .int) 1 := ⟨⟨by decide, by decide, by decide +kernel⟩, tb_in (List.mem_of_getElem? (i := 567) (by decide +kernel)) rfl, tb_in (List.mem_of_getElem? (i := 50) (by decide +kernel)) rfl, tb_in (List.mem_of_getElem? (i := 568) (by decide +kernel)) rfl, by decide⟩
theorem mv_X10_open : MV RX10 yX10_open cX10_open 4 (some .int) 2 := ⟨⟨rfl, by decide, by decide, by decide +kernel⟩, tb_in (List.mem_of_getElem? (i := 562) (by decide +kernel)) rfl, tb_in (List.mem_of_getElem? (i := 563) (by decide +kernel)) rfl, tb_in (List.mem_of_getElem? (i := 50) (by decide +kernel)) rfl, tb_in (List.mem_of_getElem? (i := 564) (by decide +kernel)) rfl, by decide⟩
theorem mv_X10_order : MV RX10 yX10_order cX10_order 4 (some .int) 2 := ⟨⟨rfl, by decide, by decide, by decide +kernel⟩, tb_in (List.mem_of_getElem? (i := 864) (by decide +kernel)) rfl, tb_in (List.mem_of_getElem? (i := 865) (by decide +kernel)) rfl, tb_in (List.mem_of_getElem? (i := 50) (by decide +kernel)) rfl, tb_in (List.mem_of_getElem? (i := 866) (by decide +kernel)) rfl, by decide⟩
theorem mv_X10_price : MV RX10 yX10_price cX10_price 5 (some .int) 1 := ⟨⟨rfl, by decide, by decide, by decide +kernel⟩, tb_in (List.mem_of_getElem? (i := 984) (by decide +kernel)) rfl, tb_in (List.mem_of_getElem? (i := 985) (by decide +kernel)) rfl, tb_in (List.mem_of_getElem? (i := 50) (by decide +kernel)) rfl, tb_in (List.mem_of_getElem? (i := 986) (by decide +kernel)) rfl, by decide⟩
theorem mv_X10_quietAt : MV RX10 yX10_quietAt cX10_quietAt 6 (some .int) 3 := ⟨⟨rfl, by decide, by decide, by decide +kernel⟩, tb_in (List.mem_of_getElem? (i := 988) (by decide +kernel)) rfl, tb_in (List.mem_of_getElem? (i := 989) (by decide +kernel)) rfl, tb_in (List.mem_of_getElem? (i := 50) (by decide +kernel)) rfl, tb_in (List.mem_of_getElem? (i := 990) (by decide +kernel)) rfl, by decide⟩
theorem mv_X10_quietest : MV RX10 yX10_quietest cX10_quietest 4 (some .int) 1 := ⟨⟨rfl, by decide, by decide, by decide +kernel⟩, tb_in (List.mem_of_getElem? (i := 976) (by decide +kernel)) rfl, tb_in (List.mem_of_getElem? (i := 977) (by decide +kernel)) rfl, tb_in (List.mem_of_getElem? (i := 50) (by decide +kernel)) rfl, tb_in (List.mem_of_getElem? (i := 978) (by decide +kernel)) rfl, by decide⟩
theorem mv_X10_refuseCellAt : MV RX10 yX10_refuseCellAt cX10_refuseCellAt 3 (some .int) 2 := ⟨⟨rfl, by decide, by decide, by decide +kernel⟩, tb_in (List.mem_of_getElem? (i := 551) (by decide +kernel)) rfl, tb_in (List.mem_of_getElem? (i := 1) (by decide +kernel)) rfl, tb_in (List.mem_of_getElem? (i := 50) (by decide +kernel)) rfl, tb_in (List.mem_of_getElem? (i := 552) (by decide +kernel)) rfl, by decide⟩
theorem mv_X10_refuseGiven : MV RX10 yX10_refuseGiven cX10_refuseGiven 2 (some .int) 1 := ⟨⟨rfl, by decide, by decide, by decide +kernel⟩, tb_in (List.mem_of_getElem? (i := 609) (by decide +kernel)) rfl, tb_in (List.mem_of_getElem? (i := 2) (by decide +kernel)) rfl, tb_in (List.mem_of_getElem? (i := 50) (by decide +kernel)) rfl, tb_in (List.mem_of_getElem? (i := 610) (by decide +kernel)) rfl, by decide⟩
theorem mv_X10_refuseNotGiven : MV RX10 yX10_refuseNotGiven cX10_refuseNotGiven 2 (some .int) 1 := ⟨⟨rfl, by decide, by decide, by decide +kernel⟩, tb_in (List.mem_of_getElem? (i := 766) (by decide +kernel)) rfl, tb_in (List.mem_of_getElem? (i := 5) (by decide +kernel)) rfl, tb_in (List.mem_of_getElem? (i := 50) (by decide +kernel)) rfl, tb_in (List.mem_of_getElem? (i := 767) (by decide +kernel)) rfl, by decide⟩
theorem mv_X10_refuseSet : MV RX10 yX10_refuseSet cX10_refuseSet 2 (some .int) 1 := ⟨⟨rfl, by decide, by decide, by decide +kernel⟩, tb_in (List.mem_of_getElem? (i := 836) (by decide +kernel)) rfl, tb_in (List.mem_of_getElem? (i := 6) (by decide +kernel)) rfl, tb_in (List.mem_of_getElem? (i := 50) (by decide +kernel)) rfl, tb_in (List.mem_of_getElem? (i := 837) (by decide +kernel)) rfl, by decide⟩
theorem mv_X10_refuseSpan : MV RX10 yX10_refuseSpan cX10_refuseSpan 5 (some .int) 4 := ⟨⟨rfl, by decide, by decide, by decide +kernel⟩, tb_in (List.mem_of_getElem? (i := 512) (by decide +kernel)) rfl, tb_in (List.mem_of_getElem? (i := 0) (by decide +kernel)) rfl, tb_in (List.mem_of_getElem? (i := 50) (by decide +kernel)) rfl, tb_in (List.mem_of_getElem? (i := 513) (by decide +kernel)) rfl, by decide⟩
theorem mv_X10_refuseTelling : MV RX10 yX10_refuseTelling cX10_refuseTelling 3 (some .int) 2 := ⟨⟨rfl, by decide, by decide, by decide +kernel⟩, tb_in (List.mem_of_getElem? (i := 697) (by decide +kernel)) rfl, tb_in (List.mem_of_getElem? (i := 4) (by decide +kernel)) rfl, tb_in (List.mem_of_getElem? (i := 50) (by decide +kernel)) rfl, tb_in (List.mem_of_getElem? (i := 698) (by decide +kernel)) rfl, by decide⟩
theorem mv_X10_rule : MV RX10 yX10_rule cX10_rule 3 (some .int) 2 := ⟨⟨rfl, by decide, by decide, by decide +kernel⟩, tb_in (List.mem_of_getElem? (i := 534) (by decide +kernel)) rfl, tb_in (List.mem_of_getElem? (i := 535) (by decide +kernel)) rfl, tb_in (List.mem_of_getElem? (i := 50) (by decide +kernel)) rfl, tb_in (List.mem_of_getElem? (i := 536) (by decide +kernel)) rfl, by decide⟩
theorem mv_X10_shut : MV RX10 yX10_shut cX10_shut 5 (some .int) 3 := ⟨⟨rfl, by decide, by decide, by decide +kernel⟩, tb_in (List.mem_of_getElem? (i := 507) (by decide +kernel)) rfl, tb_in (List.mem_of_getElem? (i := 508) (by decide +kernel)) rfl, tb_in (List.mem_of_getElem? (i := 50) (by decide +kernel)) rfl, tb_in (List.mem_of_getElem? (i := 509) (by decide +kernel)) rfl, by decide⟩
theorem mv_X10_silent : MV RX10 yX10_silent cX10_silent 5 (some .int) 3 := ⟨⟨rfl, by decide, by decide, by decide +kernel⟩, tb_in (List.mem_of_getElem? (i := 881) (by decide +kernel)) rfl, tb_in (List.mem_of_getElem? (i := 882) (by decide +kernel)) rfl, tb_in (List.mem_of_getElem? (i := 50) (by decide +kernel)) rfl, tb_in (List.mem_of_getElem? (i := 883) (by decide +kernel)) rfl, by decide⟩
theorem mv_X10_soonest : MV RX10 yX10_soonest cX10_soonest 3 (some .int) 1 := ⟨⟨rfl, by decide, by decide, by decide +kernel⟩, tb_in (List.mem_of_getElem? (i := 604) (by decide +kernel)) rfl, tb_in (List.mem_of_getElem? (i := 605) (by decide +kernel)) rfl, tb_in (List.mem_of_getElem? (i := 50) (by decide +kernel)) rfl, tb_in (List.mem_of_getElem? (i := 606) (by decide +kernel)) rfl, by decide⟩
theorem mv_X10_soonestAt : MV RX10 yX10_soonestAt cX10_soonestAt 6 (some .int) 3 := ⟨⟨rfl, by decide, by decide, by decide +kernel⟩, tb_in (List.mem_of_getElem? (i := 692) (by decide +kernel)) rfl, tb_in (List.mem_of_getElem? (i := 693) (by decide +kernel)) rfl, tb_in (List.mem_of_getElem? (i := 50) (by decide +kernel)) rfl, tb_in (List.mem_of_getElem? (i := 694) (by decide +kernel)) rfl, by decide⟩
theorem mv_X10_take : MV RX10 yX10_take cX10_take 4 (some .int) 1 := ⟨⟨rfl, by decide, by decide, by decide +kernel⟩, tb_in (List.mem_of_getElem? (i := 761) (by decide +kernel)) rfl, tb_in (List.mem_of_getElem? (i := 762) (by decide +kernel)) rfl, tb_in (List.mem_of_getElem? (i := 50) (by decide +kernel)) rfl, tb_in (List.mem_of_getElem? (i := 763) (by decide +kernel)) rfl, by decide⟩
theorem mv_X10_where : MV RX10 yX10_where cX10_where 5 (some .int) 2 := ⟨⟨rfl, by decide, by decide, by decide +kernel⟩, tb_in (List.mem_of_getElem? (i := 769) (by decide +kernel)) rfl, tb_in (List.mem_of_getElem? (i := 770) (by decide +kernel)) rfl, tb_in (List.mem_of_getElem? (i := 50) (by decide +kernel)) rfl, tb_in (List.mem_of_getElem? (i := 771) (by decide +kernel)) rfl, by decide⟩
theorem mv_X10_worst : MV RX10 yX10_worst cX10_worst 3 (some .int) 1 := ⟨⟨rfl, by decide, by decide, by decide +kernel⟩, tb_in (List.mem_of_getElem? (i := 967) (by decide +kernel)) rfl, tb_in (List.mem_of_getElem? (i := 968) (by decide +kernel)) rfl, tb_in (List.mem_of_getElem? (i := 50) (by decide +kernel)) rfl, tb_in (List.mem_of_getElem? (i := 969) (by decide +kernel)) rfl, by decide⟩
theorem mv_X11_about : MV RX11 yX11_about cX11_about 3 (some .int) 2 := ⟨⟨rfl, by decide, by decide, by decide +kernel⟩, tb_in (List.mem_of_getElem? (i := 1196) (by decide +kernel)) rfl, tb_in (List.mem_of_getElem? (i := 1197) (by decide +kernel)) rfl, tb_in (List.mem_of_getElem? (i := 62) (by decide +kernel)) rfl, tb_in (List.mem_of_getElem? (i := 1198) (by decide +kernel)) rfl, by decide⟩
theorem mv_X11_air : MV RX11 yX11_air cX11_air 3 (some .int) 2 := ⟨⟨rfl, by decide, by decide, by decide +kernel⟩, tb_in (List.mem_of_getElem? (i := 1116) (by decide +kernel)) rfl, tb_in (List.mem_of_getElem? (i := 1117) (by decide +kernel)) rfl, tb_in (List.mem_of_getElem? (i := 62) (by decide +kernel)) rfl, tb_in (List.mem_of_getElem? (i := 1118) (by decide +kernel)) rfl, by decide⟩
theorem mv_X11_along : MV RX11 yX11_along cX11_along 3 (some .int) 2 := ⟨⟨rfl, by decide, by decide, by decide +kernel⟩, tb_in (List.mem_of_getElem? (i := 1163) (by decide +kernel)) rfl, tb_in (List.mem_of_getElem? (i := 11) (by decide +kernel)) rfl, tb_in (List.mem_of_getElem? (i := 62) (by decide +kernel)) rfl, tb_in (List.mem_of_getElem? (i := 1164) (by decide +kernel)) rfl, by decide⟩
theorem mv_X11_aside : MV RX11 yX11_aside cX11_aside 3 (some .int) 2 := ⟨⟨rfl, by decide, by decide, by decide +kernel⟩, tb_in (List.mem_of_getElem? (i := 1170) (by decide +kernel)) rfl, tb_in (List.mem_of_getElem? (i := 12) (by decide +kernel)) rfl, tb_in (List.mem_of_getElem? (i := 62) (by decide +kernel)) rfl, tb_in (List.mem_of_getElem? (i := 1171) (by decide +kernel)) rfl, by decide⟩
theorem mv_X11_ask : MV RX11 yX11_ask cX11_ask 9 (some .int) 7 := ⟨⟨rfl, by decide, by decide, by decide +kernel⟩, tb_in (List.mem_of_getElem? (i := 1189) (by decide +kernel)) rfl, tb_in (List.mem_of_getElem? (i := 1190) (by decide +kernel)) rfl, tb_in (List.mem_of_getElem? (i := 62) (by decide +kernel)) rfl, tb_in (List.mem_of_getElem? (i := 1191) (by decide +kernel)) rfl, by decide⟩
theorem mv_X11_atOnce : MV RX11 yX11_atOnce cX11_atOnce 4 (some .int) 1 := ⟨⟨rfl, by decide, by decide, by decide +kernel⟩, tb_in (List.mem_of_getElem? (i := 1326) (by decide +kernel)) rfl, tb_in (List.mem_of_getElem? (i := 1327) (by decide +kernel)) rfl, tb_in (List.mem_of_getElem? (i := 62) (by decide +kernel)) rfl, tb_in (List.mem_of_getElem? (i := 1328) (by decide +kernel)) rfl, by decide⟩
theorem mv_X11_bar : MV RX11 yX11_bar cX11_bar 5 (some .int) 2 := ⟨⟨rfl, by decide, by decide, by decide +kernel⟩, tb_in (List.mem_of_getElem? (i := 1319) (by decide +kernel)) rfl, tb_in (List.mem_of_getElem? (i := 1320) (by decide +kernel)) rfl, tb_in (List.mem_of_getElem? (i := 62) (by decide +kernel)) rfl, tb_in (List.mem_of_getElem? (i := 1321) (by decide +kernel)) rfl, by decide⟩
theorem mv_X11_barSet : MV RX11 yX11_barSet cX11_barSet 6 (some .int) 1 := ⟨⟨rfl, by decide, by decide, by decide +kernel⟩, tb_in (List.mem_of_getElem? (i := 1306) (by decide +kernel)) rfl, tb_in (List.mem_of_getElem? (i := 35) (by decide +kernel)) rfl, tb_in (List.mem_of_getElem? (i := 62) (by decide +kernel)) rfl, tb_in (List.mem_of_getElem? (i := 1307) (by decide +kernel)) rfl, by decide⟩
theorem mv_X11_bars : MV RX11 yX11_bars cX11_bars 4 (some .int) 1 := ⟨⟨rfl, by decide, by decide, by decide +kernel⟩, tb_in (List.mem_of_getElem? (i := 1301) (by decide +kernel)) rfl, tb_in (List.mem_of_getElem? (i := 1302) (by decide +kernel)) rfl, tb_in (List.mem_of_getElem? (i := 62) (by decide +kernel)) rfl, tb_in (List.mem_of_getElem? (i := 1303) (by decide +kernel)) rfl, by decide⟩
theorem mv_X11_cellAt : MV RX11 yX11_cellAt cX11_cellAt 3 (some .int) 2 := ⟨⟨rfl, by decide, by decide, by decide +kernel⟩, tb_in (List.mem_of_getElem? (i := 1294) (by decide +kernel)) rfl, tb_in (List.mem_of_getElem? (i := 34) (by decide +kernel)) rfl, tb_in (List.mem_of_getElem? (i := 62) (by decide +kernel)) rfl, tb_in (List.mem_of_getElem? (i := 1295) (by decide +kernel)) rfl, by decide⟩
theorem mv_X11_cells : MV RX11 yX11_cells cX11_cells 1 (some .int) 0 := ⟨⟨rfl, by decide, by decide, by decide +kernel⟩, tb_in (List.mem_of_getElem? (i := 1135) (by decide +kernel)) rfl, tb_in (List.mem_of_getElem? (i := 9) (by decide +kernel)) rfl, tb_in (List.mem_of_getElem? (i := 62) (by decide +kernel)) rfl, tb_in (List.mem_of_getElem? (i := 1136) (by decide +kernel)) rfl, by decide⟩
theorem mv_X11_could : MV RX11 yX11_could cX11_could 4 (some .int) 1 := ⟨⟨rfl, by decide, by decide, by decide +kernel⟩, tb_in (List.mem_of_getElem? (i := 1362) (by decide +kernel)) rfl, tb_in (List.mem_of_getElem? (i := 1363) (by decide +kernel)) rfl, tb_in (List.mem_of_getElem? (i := 62) (by decide +kernel)) rfl, tb_in (List.mem_of_getElem? (i := 1364) (by decide +kernel)) rfl, by decide⟩
theorem mv_X11_couldBe : MV RX11 yX11_couldBe cX11_couldBe 3 (some .int) 2 := ⟨⟨rfl, by decide, by decide, by decide +kernel⟩, tb_in (List.mem_of_getElem? (i := 1378) (by decide +kernel)) rfl, tb_in (List.mem_of_getElem? (i := 1379) (by decide +kernel)) rfl, tb_in (List.mem_of_getElem? (i := 62) (by decide +kernel)) rfl, tb_in (List.mem_of_getElem? (i := 1380) (by decide +kernel)) rfl, by decide⟩
theorem mv_X11_count : MV RX11 yX11_count cX11_count 4 (some .int) 1 := ⟨⟨rfl, by decide, by decide, by decide +kernel⟩, tb_in (List.mem_of_getElem? (i := 1439) (by decide +kernel)) rfl, tb_in (List.mem_of_getElem? (i := 1440) (by decide +kernel)) rfl, tb_in (List.mem_of_getElem? (i := 62) (by decide +kernel)) rfl, tb_in (List.mem_of_getElem? (i := 1441) (by decide +kernel)) rfl, by decide⟩
theorem mv_X11_down : MV RX11 yX11_down cX11_down 3 (some .int) 2 := ⟨⟨rfl, by decide, by decide, by decide +kernel⟩, tb_in (List.mem_of_getElem? (i := 1154) (by decide +kernel)) rfl, tb_in (List.mem_of_getElem? (i := 1155) (by decide +kernel)) rfl, tb_in (List.mem_of_getElem? (i := 62) (by decide +kernel)) rfl, tb_in (List.mem_of_getElem? (i := 1156) (by decide +kernel)) rfl, by decide⟩
theorem mv_X11_downOf : MV RX11 yX11_downOf cX11_downOf 6 (some .int) 2 := ⟨⟨rfl, by decide, by decide, by decide +kernel⟩, tb_in (List.mem_of_getElem? (i := 1159) (by decide +kernel)) rfl, tb_in (List.mem_of_getElem? (i := 10) (by decide +kernel)) rfl, tb_in (List.mem_of_getElem? (i := 62) (by decide +kernel)) rfl, tb_in (List.mem_of_getElem? (i := 1160) (by decide +kernel)) rfl, by decide⟩
theorem mv_X11_ears : MV RX11 yX11_ears cX11_ears 4 (some .int) 2 := ⟨⟨rfl, by decide, by decide, by decide +kernel⟩, tb_in (List.mem_of_getElem? (i := 1398) (by decide +kernel)) rfl, tb_in (List.mem_of_getElem? (i := 1399) (by decide +kernel)) rfl, tb_in (List.mem_of_getElem? (i := 62) (by decide +kernel)) rfl, tb_in (List.mem_of_getElem? (i := 1400) (by decide +kernel)) rfl, by decide⟩
theorem mv_X11_folk : MV RX11 yX11_folk cX11_folk 5 (some .int) 3 := ⟨⟨rfl, by decide, by decide, by decide +kernel⟩, tb_in (List.mem_of_getElem? (i := 1144) (by decide +kernel)) rfl, tb_in (List.mem_of_getElem? (i := 1145) (by decide +kernel)) rfl, tb_in (List.mem_of_getElem? (i := 62) (by decide +kernel)) rfl, tb_in (List.mem_of_getElem? (i := 1146) (by decide +kernel)) rfl, by decide⟩
theorem mv_X11_give : MV RX11 yX11_give cX11_give 3 (some .int) 1 := ⟨⟨rfl, by decide, by decide, by decide +kernel⟩, tb_in (List.mem_of_getElem? (i := 1277) (by decide +kernel)) rfl, tb_in (List.mem_of_getElem? (i := 1278) (by decide +kernel)) rfl, tb_in (List.mem_of_getElem? (i := 62) (by decide +kernel)) rfl, tb_in (List.mem_of_getElem? (i := 1279) (by decide +kernel)) rfl, by decide⟩
theorem mv_X11_giveAll : MV RX11 yX11_giveAll cX11_giveAll 5 (some .int) 1 := ⟨⟨rfl, by decide, by decide, by decide +kernel⟩, tb_in (List.mem_of_getElem? (i := 1354) (by decide +kernel)) rfl, tb_in (List.mem_of_getElem? (i := 1355) (by decide +kernel)) rfl, tb_in (List.mem_of_getElem? (i := 62) (by decide +kernel)) rfl, tb_in (List.mem_of_getElem? (i := 1356) (by decide +kernel)) rfl, by decide⟩
theorem mv_X11_giveQuiet : MV RX11 yX11_giveQuiet cX11_giveQuiet 3 (some .int) 1 := ⟨⟨rfl, by decide, by decide, by decide +kernel⟩, tb_in (List.mem_of_getElem? (i := 1435) (by decide +kernel)) rfl, tb_in (List.mem_of_getElem? (i := 1436) (by decide +kernel)) rfl, tb_in (List.mem_of_getElem? (i := 62) (by decide +kernel)) rfl, tb_in (List.mem_of_getElem? (i := 1437) (by decide +kernel)) rfl, by decide⟩
theorem mv_X11_givenSet : MV RX11 yX11_givenSet cX11_givenSet 3 (some .int) 0 := ⟨⟨rfl, by decide, by decide, by decide +kernel⟩, tb_in (List.mem_of_getElem? (i := 1310) (by decide +kernel)) rfl, tb_in (List.mem_of_getElem? (i := 36) (by decide +kernel)) rfl, tb_in (List.mem_of_getElem? (i := 62) (by decide +kernel)) rfl, tb_in (List.mem_of_getElem? (i := 1311) (by decide +kernel)) rfl, by decide⟩
theorem mv_X11_goRow : MV RX11 yX11_goRow cX11_goRow 5 (some .int) 1 := ⟨⟨rfl, by decide, by decide, by decide +kernel⟩, tb_in (List.mem_of_getElem? (i := 1343) (by decide +kernel)) rfl, tb_in (List.mem_of_getElem? (i := 40) (by decide +kernel)) rfl, tb_in (List.mem_of_getElem? (i := 62) (by decide +kernel)) rfl, tb_in (List.mem_of_getElem? (i := 1344) (by decide +kernel)) rfl, by decide⟩
theorem mv_X11_goes : MV RX11 yX11_goes cX11_goes 7 (some .int) 4 := ⟨⟨rfl, by decide, by decide, by decide +kernel⟩, tb_in (List.mem_of_getElem? (i := 1249) (by decide +kernel)) rfl, tb_in (List.mem_of_getElem? (i := 27) (by decide +kernel)) rfl, tb_in (List.mem_of_getElem? (i := 62) (by decide +kernel)) rfl, tb_in (List.mem_of_getElem? (i := 1250) (by decide +kernel)) rfl, by decide⟩
theorem mv_X11_hasFolk : MV RX11 yX11_hasFolk cX11_hasFolk 3 (some .boolean) 2 := ⟨⟨rfl, by decide, by decide, by decide +kernel⟩, tb_in (List.mem_of_getElem? (i := 1174) (by decide +kernel)) rfl, tb_in (List.mem_of_getElem? (i := 13) (by decide +kernel)) rfl, tb_in (List.mem_of_getElem? (i := 62) (by decide +kernel)) rfl, tb_in (List.mem_of_getElem? (i := 1175) (by decide +kernel)) rfl, by decide⟩
theorem mv_X11_hasWay : MV RX11 yX11_hasWay cX11_hasWay 6 (some .boolean) 2 := ⟨⟨rfl, by decide, by decide, by decide +kernel⟩, tb_in (List.mem_of_getElem? (i := 1241) (by decide +kernel)) rfl, tb_in (List.mem_of_getElem? (i := 25) (by decide +kernel)) rfl, tb_in (List.mem_of_getElem? (i := 62) (by decide +kernel)) rfl, tb_in (List.mem_of_getElem? (i := 1242) (by decide +kernel)) rfl, by decide⟩
theorem ms_X11_in : MS yX11_in cX11_in 6 (some .boolean) 3 := ⟨⟨by decide, by decide, by decide +kernel⟩, tb_in (List.mem_of_getElem? (i := 1122) (by decide +kernel)) rfl, tb_in (List.mem_of_getElem? (i := 62) (by decide +kernel)) rfl, tb_in (List.mem_of_getElem? (i := 1123) (by decide +kernel)) rfl, by decide⟩
theorem mv_X11_isAsk : MV RX11 yX11_isAsk cX11_isAsk 2 (some .boolean) 1 := ⟨⟨rfl, by decide, by decide, by decide +kernel⟩, tb_in (List.mem_of_getElem? (i := 1201) (by decide +kernel)) rfl, tb_in (List.mem_of_getElem? (i := 16) (by decide +kernel)) rfl, tb_in (List.mem_of_getElem? (i := 62) (by decide +kernel)) rfl, tb_in (List.mem_of_getElem? (i := 1202) (by decide +kernel)) rfl, by decide⟩
theorem mv_X11_isCell : MV RX11 yX11_isCell cX11_isCell 2 (some .boolean) 1 := ⟨⟨rfl, by decide, by decide, by decide +kernel⟩, tb_in (List.mem_of_getElem? (i := 1131) (by decide +kernel)) rfl, tb_in (List.mem_of_getElem? (i := 8) (by decide +kernel)) rfl, tb_in (List.mem_of_getElem? (i := 62) (by decide +kernel)) rfl, tb_in (List.mem_of_getElem? (i := 1132) (by decide +kernel)) rfl, by decide⟩
theorem ms_X11_isFirst : MS yX11_isFirst cX11_isFirst 3 (some .boolean) 2 := ⟨⟨by decide, by decide, by decide +kernel⟩, tb_in (List.mem_of_getElem? (i := 1316) (by decide +kernel)) rfl, tb_in (List.mem_of_getElem? (i := 62) (by decide +kernel)) rfl, tb_in (List.mem_of_getElem? (i := 1317) (by decide +kernel)) rfl, by decide⟩
theorem mv_X11_isFree : MV RX11 yX11_isFree cX11_isFree 4 (some .boolean) 3 := ⟨⟨rfl, by decide, by decide, by decide +kernel⟩, tb_in (List.mem_of_getElem? (i := 1253) (by decide +kernel)) rfl, tb_in (List.mem_of_getElem? (i := 28) (by decide +kernel)) rfl, tb_in (List.mem_of_getElem? (i := 62) (by decide +kernel)) rfl, tb_in (List.mem_of_getElem? (i := 1254) (by decide +kernel)) rfl, by decide⟩
theorem mv_X11_isLeast : MV RX11 yX11_isLeast cX11_isLeast 5 (some .boolean) 3 := ⟨⟨rfl, by decide, by decide, by decide +kernel⟩, tb_in (List.mem_of_getElem? (i := 1266) (by decide +kernel)) rfl, tb_in (List.mem_of_getElem? (i := 31) (by decide +kernel)) rfl, tb_in (List.mem_of_getElem? (i := 62) (by decide +kernel)) rfl, tb_in (List.mem_of_getElem? (i := 1267) (by decide +kernel)) rfl, by decide⟩
theorem ms_X11_isMinute : MS yX11_isMinute cX11_isMinute 1 (some .boolean) 1 := ⟨⟨by decide, by decide, by decide +kernel⟩, tb_in (List.mem_of_getElem? (i := 1139) (by decide +kernel)) rfl, tb_in (List.mem_of_getElem? (i := 62) (by decide +kernel)) rfl, tb_in (List.mem_of_getElem? (i := 1140) (by decide +kernel)) rfl, by decide⟩
theorem mv_X11_isOpen : MV RX11 yX11_isOpen cX11_isOpen 3 (some .boolean) 2 := ⟨⟨rfl, by decide, by decide, by decide +kernel⟩, tb_in (List.mem_of_getElem? (i := 1182) (by decide +kernel)) rfl, tb_in (List.mem_of_getElem? (i := 14) (by decide +kernel)) rfl, tb_in (List.mem_of_getElem? (i := 62) (by decide +kernel)) rfl, tb_in (List.mem_of_getElem? (i := 1183) (by decide +kernel)) rfl, by decide⟩
theorem mv_X11_isSeenBy : MV RX11 yX11_isSeenBy cX11_isSeenBy 2 (some .boolean) 1 := ⟨⟨rfl, by decide, by decide, by decide +kernel⟩, tb_in (List.mem_of_getElem? (i := 1371) (by decide +kernel)) rfl, tb_in (List.mem_of_getElem? (i := 43) (by decide +kernel)) rfl, tb_in (List.mem_of_getElem? (i := 62) (by decide +kernel)) rfl, tb_in (List.mem_of_getElem? (i := 1372) (by decide +kernel)) rfl, by decide⟩
theorem mv_X11_isShut : MV RX11 yX11_isShut cX11_isShut 3 (some .boolean) 2 := ⟨⟨rfl, by decide, by decide, by decide +kernel⟩, tb_in (List.mem_of_getElem? (i := 1186) (by decide +kernel)) rfl, tb_in (List.mem_of_getElem? (i := 15) (by decide +kernel)) rfl, tb_in (List.mem_of_getElem? (i := 62) (by decide +kernel)) rfl, tb_in (List.mem_of_getElem? (i := 1187) (by decide +kernel)) rfl, by decide⟩
theorem mv_X11_keep : MV RX11 yX11_keep cX11_keep 4 none 1 := ⟨⟨rfl, by decide, by decide, by decide +kernel⟩, tb_in (List.mem_of_getElem? (i := 1282) (by decide +kernel)) rfl, tb_in (List.mem_of_getElem? (i := 33) (by decide +kernel)) rfl, tb_in (List.mem_of_getElem? (i := 62) (by decide +kernel)) rfl, tb_in (List.mem_of_getElem? (i := 1283) (by decide +kernel)) rfl, by decide⟩
theorem mv_X11_layAir : MV RX11 yX11_layAir cX11_layAir 4 none 2 := ⟨⟨rfl, by decide, by decide, by decide +kernel⟩, tb_in (List.mem_of_getElem? (i := 1015) (by decide +kernel)) rfl, tb_in (List.mem_of_getElem? (i := 7) (by decide +kernel)) rfl, tb_in (List.mem_of_getElem? (i := 62) (by decide +kernel)) rfl, tb_in (List.mem_of_getElem? (i := 1016) (by decide +kernel)) rfl, by decide⟩
theorem mv_X11_layAll : MV RX11 yX11_layAll cX11_layAll 1 none 0 := ⟨⟨rfl, by decide, by decide, by decide +kernel⟩, tb_in (List.mem_of_getElem? (i := 1213) (by decide +kernel)) rfl, tb_in (List.mem_of_getElem? (i := 18) (by decide +kernel)) rfl, tb_in (List.mem_of_getElem? (i := 62) (by decide +kernel)) rfl, tb_in (List.mem_of_getElem? (i := 1214) (by decide +kernel)) rfl, by decide⟩
theorem mv_X11_layBits : MV RX11 yX11_layBits cX11_layBits 3 none 0 := ⟨⟨rfl, by decide, by decide, by decide +kernel⟩, tb_in (List.mem_of_getElem? (i := 1221) (by decide +kernel)) rfl, tb_in (List.mem_of_getElem? (i := 20) (by decide +kernel)) rfl, tb_in (List.mem_of_getElem? (i := 62) (by decide +kernel)) rfl, tb_in (List.mem_of_getElem? (i := 1222) (by decide +kernel)) rfl, by decide⟩
theorem mv_X11_layChange : MV RX11 yX11_layChange cX11_layChange 5 none 2 := ⟨⟨rfl, by decide, by decide, by decide +kernel⟩, tb_in (List.mem_of_getElem? (i := 1229) (by decide +kernel)) rfl, tb_in (List.mem_of_getElem? (i := 22) (by decide +kernel)) rfl, tb_in (List.mem_of_getElem? (i := 62) (by decide +kernel)) rfl, tb_in (List.mem_of_getElem? (i := 1230) (by decide +kernel)) rfl, by decide⟩
theorem mv_X11_layCould : MV RX11 yX11_layCould cX11_layCould 4 none 1 := ⟨⟨rfl, by decide, by decide, by decide +kernel⟩, tb_in (List.mem_of_getElem? (i := 1367) (by decide +kernel)) rfl, tb_in (List.mem_of_getElem? (i := 42) (by decide +kernel)) rfl, tb_in (List.mem_of_getElem? (i := 62) (by decide +kernel)) rfl, tb_in (List.mem_of_getElem? (i := 1368) (by decide +kernel)) rfl, by decide⟩
theorem mv_X11_layLatest : MV RX11 yX11_layLatest cX11_layLatest 8 none 2 := ⟨⟨rfl, by decide, by decide, by decide +kernel⟩, tb_in (List.mem_of_getElem? (i := 1245) (by decide +kernel)) rfl, tb_in (List.mem_of_getElem? (i := 26) (by decide +kernel)) rfl, tb_in (List.mem_of_getElem? (i := 62) (by decide +kernel)) rfl, tb_in (List.mem_of_getElem? (i := 1246) (by decide +kernel)) rfl, by decide⟩
theorem mv_X11_layNear : MV RX11 yX11_layNear cX11_layNear 5 none 2 := ⟨⟨rfl, by decide, by decide, by decide +kernel⟩, tb_in (List.mem_of_getElem? (i := 1225) (by decide +kernel)) rfl, tb_in (List.mem_of_getElem? (i := 21) (by decide +kernel)) rfl, tb_in (List.mem_of_getElem? (i := 62) (by decide +kernel)) rfl, tb_in (List.mem_of_getElem? (i := 1226) (by decide +kernel)) rfl, by decide⟩
theorem mv_X11_layOpen : MV RX11 yX11_layOpen cX11_layOpen 3 none 0 := ⟨⟨rfl, by decide, by decide, by decide +kernel⟩, tb_in (List.mem_of_getElem? (i := 1217) (by decide +kernel)) rfl, tb_in (List.mem_of_getElem? (i := 19) (by decide +kernel)) rfl, tb_in (List.mem_of_getElem? (i := 62) (by decide +kernel)) rfl, tb_in (List.mem_of_getElem? (i := 1218) (by decide +kernel)) rfl, by decide⟩
theorem mv_X11_layOrders : MV RX11 yX11_layOrders cX11_layOrders 7 (some .int) 1 := ⟨⟨rfl, by decide, by decide, by decide +kernel⟩, tb_in (List.mem_of_getElem? (i := 1335) (by decide +kernel)) rfl, tb_in (List.mem_of_getElem? (i := 38) (by decide +kernel)) rfl, tb_in (List.mem_of_getElem? (i := 62) (by decide +kernel)) rfl, tb_in (List.mem_of_getElem? (i := 1336) (by decide +kernel)) rfl, by decide⟩
theorem mv_X11_layQuietest : MV RX11 yX11_layQuietest cX11_layQuietest 9 (some .int) 1 := ⟨⟨rfl, by decide, by decide, by decide +kernel⟩, tb_in (List.mem_of_getElem? (i := 1424) (by decide +kernel)) rfl, tb_in (List.mem_of_getElem? (i := 48) (by decide +kernel)) rfl, tb_in (List.mem_of_getElem? (i := 62) (by decide +kernel)) rfl, tb_in (List.mem_of_getElem? (i := 1425) (by decide +kernel)) rfl, by decide⟩
theorem mv_X11_layRest : MV RX11 yX11_layRest cX11_layRest 11 none 3 := ⟨⟨rfl, by decide, by decide, by decide +kernel⟩, tb_in (List.mem_of_getElem? (i := 1257) (by decide +kernel)) rfl, tb_in (List.mem_of_getElem? (i := 29) (by decide +kernel)) rfl, tb_in (List.mem_of_getElem? (i := 62) (by decide +kernel)) rfl, tb_in (List.mem_of_getElem? (i := 1258) (by decide +kernel)) rfl, by decide⟩
theorem mv_X11_layRow : MV RX11 yX11_layRow cX11_layRow 8 none 3 := ⟨⟨rfl, by decide, by decide, by decide +kernel⟩, tb_in (List.mem_of_getElem? (i := 1339) (by decide +kernel)) rfl, tb_in (List.mem_of_getElem? (i := 39) (by decide +kernel)) rfl, tb_in (List.mem_of_getElem? (i := 62) (by decide +kernel)) rfl, tb_in (List.mem_of_getElem? (i := 1340) (by decide +kernel)) rfl, by decide⟩
theorem mv_X11_laySoonest : MV RX11 yX11_laySoonest cX11_laySoonest 3 (some .boolean) 1 := ⟨⟨rfl, by decide, by decide, by decide +kernel⟩, tb_in (List.mem_of_getElem? (i := 1237) (by decide +kernel)) rfl, tb_in (List.mem_of_getElem? (i := 24) (by decide +kernel)) rfl, tb_in (List.mem_of_getElem? (i := 62) (by decide +kernel)) rfl, tb_in (List.mem_of_getElem? (i := 1238) (by decide +kernel)) rfl, by decide⟩
theorem mv_X11_laySteps : MV RX11 yX11_laySteps cX11_laySteps 5 none 1 := ⟨⟨rfl, by decide, by decide, by decide +kernel⟩, tb_in (List.mem_of_getElem? (i := 1262) (by decide +kernel)) rfl, tb_in (List.mem_of_getElem? (i := 30) (by decide +kernel)) rfl, tb_in (List.mem_of_getElem? (i := 62) (by decide +kernel)) rfl, tb_in (List.mem_of_getElem? (i := 1263) (by decide +kernel)) rfl, by decide⟩
theorem mv_X11_led : MV RX11 yX11_led cX11_led 4 (some .int) 1 := ⟨⟨rfl, by decide, by decide, by decide +kernel⟩, tb_in (List.mem_of_getElem? (i := 1390) (by decide +kernel)) rfl, tb_in (List.mem_of_getElem? (i := 1391) (by decide +kernel)) rfl, tb_in (List.mem_of_getElem? (i := 62) (by decide +kernel)) rfl, tb_in (List.mem_of_getElem? (i := 1392) (by decide +kernel)) rfl, by decide⟩
theorem mv_X11_ledAt : MV RX11 yX11_ledAt cX11_ledAt 2 (some .int) 1 := ⟨⟨rfl, by decide, by decide, by decide +kernel⟩, tb_in (List.mem_of_getElem? (i := 1394) (by decide +kernel)) rfl, tb_in (List.mem_of_getElem? (i := 1395) (by decide +kernel)) rfl, tb_in (List.mem_of_getElem? (i := 62) (by decide +kernel)) rfl, tb_in (List.mem_of_getElem? (i := 1396) (by decide +kernel)) rfl, by decide⟩
theorem mv_X11_ledOf : MV RX11 yX11_ledOf cX11_ledOf 4 (some .int) 1 := ⟨⟨rfl, by decide, by decide, by decide +kernel⟩, tb_in (List.mem_of_getElem? (i := 1387) (by decide +kernel)) rfl, tb_in (List.mem_of_getElem? (i := 45) (by decide +kernel)) rfl, tb_in (List.mem_of_getElem? (i := 62) (by decide +kernel)) rfl, tb_in (List.mem_of_getElem? (i := 1388) (by decide +kernel)) rfl, by decide⟩
theorem mv_X11_ledOff : MV RX11 yX11_ledOff cX11_ledOff 3 (some .int) 0 := ⟨⟨rfl, by decide, by decide, by decide +kernel⟩, tb_in (List.mem_of_getElem? (i := 1382) (by decide +kernel)) rfl, tb_in (List.mem_of_getElem? (i := 1383) (by decide +kernel)) rfl, tb_in (List.mem_of_getElem? (i := 62) (by decide +kernel)) rfl, tb_in (List.mem_of_getElem? (i := 1384) (by decide +kernel)) rfl, by decide⟩
theorem mv_X11_loud : MV RX11 yX11_loud cX11_loud 5 (some .int) 2 := ⟨⟨rfl, by decide, by decide, by decide +kernel⟩, tb_in (List.mem_of_getElem? (i := 1412) (by decide +kernel)) rfl, tb_in (List.mem_of_getElem? (i := 47) (by decide +kernel)) rfl, tb_in (List.mem_of_getElem? (i := 62) (by decide +kernel)) rfl, tb_in (List.mem_of_getElem? (i := 1413) (by decide +kernel)) rfl, by decide⟩
theorem mv_X11_mayAsk : MV RX11 yX11_mayAsk cX11_mayAsk 2 (some .int) 1 := ⟨⟨rfl, by decide, by decide, by decide +kernel⟩, tb_in (List.mem_of_getElem? (i := 1209) (by decide +kernel)) rfl, tb_in (List.mem_of_getElem? (i := 17) (by decide +kernel)) rfl, tb_in (List.mem_of_getElem? (i := 62) (by decide +kernel)) rfl, tb_in (List.mem_of_getElem? (i := 1210) (by decide +kernel)) rfl, by decide⟩
theorem mv_X11_maySet : MV RX11 yX11_maySet cX11_maySet 2 (some .int) 1 := ⟨⟨rfl, by decide, by decide, by decide +kernel⟩, tb_in (List.mem_of_getElem? (i := 1331) (by decide +kernel)) rfl, tb_in (List.mem_of_getElem? (i := 37) (by decide +kernel)) rfl, tb_in (List.mem_of_getElem? (i := 62) (by decide +kernel)) rfl, tb_in (List.mem_of_getElem? (i := 1332) (by decide +kernel)) rfl, by decide⟩
theorem mv_X11_meet : MV RX11 yX11_meet cX11_meet 9 (some .int) 3 := ⟨⟨rfl, by decide, by decide, by decide +kernel⟩, tb_in (List.mem_of_getElem? (i := 1297) (by decide +kernel)) rfl, tb_in (List.mem_of_getElem? (i := 1298) (by decide +kernel)) rfl, tb_in (List.mem_of_getElem? (i := 62) (by decide +kernel)) rfl, tb_in (List.mem_of_getElem? (i := 1299) (by decide +kernel)) rfl, by decide⟩
theorem mv_X11_noise : MV RX11 yX11_noise cX11_noise 2 (some .int) 1 := ⟨⟨rfl, by decide, by decide, by decide +kernel⟩, tb_in (List.mem_of_getElem? (i := 1403) (by decide +kernel)) rfl, tb_in (List.mem_of_getElem? (i := 1404) (by decide +kernel)) rfl, tb_in (List.mem_of_getElem? (i := 62) (by decide +kernel)) rfl, tb_in (List.mem_of_getElem? (i := 1405) (by decide +kernel)) rfl, by decide⟩
theorem mv_X11_noiseOf : MV RX11 yX11_noiseOf cX11_noiseOf 5 (some .int) 1 := ⟨⟨rfl, by decide, by decide, by decide +kernel⟩, tb_in (List.mem_of_getElem? (i := 1408) (by decide +kernel)) rfl, tb_in (List.mem_of_getElem? (i := 46) (by decide +kernel)) rfl, tb_in (List.mem_of_getElem? (i := 62) (by decide +kernel)) rfl, tb_in (List.mem_of_getElem? (i := 1409) (by decide +kernel)) rfl, by decide⟩
theorem ms_X11_nth : MS yX11_nth cX11_nth 4 (some .int) 2 := ⟨⟨by decide, by decide, by decide +kernel⟩, tb_in (List.mem_of_getElem? (i := 1323) (by decide +kernel)) rfl, tb_in (List.mem_of_getElem? (i := 62) (by decide +kernel)) rfl, tb_in (List.mem_of_getElem? (i := 1324) (by decide +kernel)) rfl, by decide⟩
theorem ms_X11_ones : MS yX11_ones cX11_ones 3 (some .int) 1 := ⟨⟨by decide, by decide, by decide +kernel⟩, tb_in (List.mem_of_getElem? (i := 1313) (by decide +kernel)) rfl, tb_in (List.mem_of_getElem? (i := 62) (by decide +kernel)) rfl, tb_in (List.mem_of_getElem? (i := 1314) (by decide +kernel)) rfl, by decide⟩
theorem mv_X11_open : MV RX11 yX11_open cX11_open 3 (some .int) 2 := ⟨⟨rfl, by decide, by decide, by decide +kernel⟩, tb_in (List.mem_of_getElem? (i := 1177) (by decide +kernel)) rfl, tb_in (List.mem_of_getElem? (i := 1178) (by decide +kernel)) rfl, tb_in (List.mem_of_getElem? (i := 62) (by decide +kernel)) rfl, tb_in (List.mem_of_getElem? (i := 1179) (by decide +kernel)) rfl, by decide⟩
theorem mv_X11_order : MV RX11 yX11_order cX11_order 5 (some .int) 2 := ⟨⟨rfl, by decide, by decide, by decide +kernel⟩, tb_in (List.mem_of_getElem? (i := 1350) (by decide +kernel)) rfl, tb_in (List.mem_of_getElem? (i := 1351) (by decide +kernel)) rfl, tb_in (List.mem_of_getElem? (i := 62) (by decide +kernel)) rfl, tb_in (List.mem_of_getElem? (i := 1352) (by decide +kernel)) rfl, by decide⟩
theorem mv_X11_price : MV RX11 yX11_price cX11_price 5 (some .int) 1 := ⟨⟨rfl, by decide, by decide, by decide +kernel⟩, tb_in (List.mem_of_getElem? (i := 1427) (by decide +kernel)) rfl, tb_in (List.mem_of_getElem? (i := 1428) (by decide +kernel)) rfl, tb_in (List.mem_of_getElem? (i := 62) (by decide +kernel)) rfl, tb_in (List.mem_of_getElem? (i := 1429) (by decide +kernel)) rfl, by decide⟩
theorem mv_X11_quietAt : MV RX11 yX11_quietAt cX11_quietAt 4 (some .int) 3 := ⟨⟨rfl, by decide, by decide, by decide +kernel⟩, tb_in (List.mem_of_getElem? (i := 1431) (by decide +kernel)) rfl, tb_in (List.mem_of_getElem? (i := 1432) (by decide +kernel)) rfl, tb_in (List.mem_of_getElem? (i := 62) (by decide +kernel)) rfl, tb_in (List.mem_of_getElem? (i := 1433) (by decide +kernel)) rfl, by decide⟩
theorem mv_X11_quietest : MV RX11 yX11_quietest cX11_quietest 3 (some .int) 1 := ⟨⟨rfl, by decide, by decide, by decide +kernel⟩, tb_in (List.mem_of_getElem? (i := 1419) (by decide +kernel)) rfl, tb_in (List.mem_of_getElem? (i := 1420) (by decide +kernel)) rfl, tb_in (List.mem_of_getElem? (i := 62) (by decide +kernel)) rfl, tb_in (List.mem_of_getElem? (i := 1421) (by decide +kernel)) rfl, by decide⟩
theorem mv_X11_rule : MV RX11 yX11_rule cX11_rule 4 (some .int) 2 := ⟨⟨rfl, by decide, by decide, by decide +kernel⟩, tb_in (List.mem_of_getElem? (i := 1148) (by decide +kernel)) rfl, tb_in (List.mem_of_getElem? (i := 1149) (by decide +kernel)) rfl, tb_in (List.mem_of_getElem? (i := 62) (by decide +kernel)) rfl, tb_in (List.mem_of_getElem? (i := 1150) (by decide +kernel)) rfl, by decide⟩
theorem mv_X11_shut : MV RX11 yX11_shut cX11_shut 5 (some .int) 3 := ⟨⟨rfl, by decide, by decide, by decide +kernel⟩, tb_in (List.mem_of_getElem? (i := 1126) (by decide +kernel)) rfl, tb_in (List.mem_of_getElem? (i := 1127) (by decide +kernel)) rfl, tb_in (List.mem_of_getElem? (i := 62) (by decide +kernel)) rfl, tb_in (List.mem_of_getElem? (i := 1128) (by decide +kernel)) rfl, by decide⟩
theorem mv_X11_silent : MV RX11 yX11_silent cX11_silent 4 (some .int) 3 := ⟨⟨rfl, by decide, by decide, by decide +kernel⟩, tb_in (List.mem_of_getElem? (i := 1358) (by decide +kernel)) rfl, tb_in (List.mem_of_getElem? (i := 1359) (by decide +kernel)) rfl, tb_in (List.mem_of_getElem? (i := 62) (by decide +kernel)) rfl, tb_in (List.mem_of_getElem? (i := 1360) (by decide +kernel)) rfl, by decide⟩
theorem ms_X11_size : MS yX11_size cX11_size 1 (some .int) 1 := ⟨⟨by decide, by decide, by decide +kernel⟩, tb_in (List.mem_of_getElem? (i := 1166) (by decide +kernel)) rfl, tb_in (List.mem_of_getElem? (i := 62) (by decide +kernel)) rfl, tb_in (List.mem_of_getElem? (i := 1167) (by decide +kernel)) rfl, by decide⟩
theorem mv_X11_soonest : MV RX11 yX11_soonest cX11_soonest 3 (some .int) 1 := ⟨⟨rfl, by decide, by decide, by decide +kernel⟩, tb_in (List.mem_of_getElem? (i := 1204) (by decide +kernel)) rfl, tb_in (List.mem_of_getElem? (i := 1205) (by decide +kernel)) rfl, tb_in (List.mem_of_getElem? (i := 62) (by decide +kernel)) rfl, tb_in (List.mem_of_getElem? (i := 1206) (by decide +kernel)) rfl, by decide⟩
theorem mv_X11_soonestAt : MV RX11 yX11_soonestAt cX11_soonestAt 4 (some .int) 3 := ⟨⟨rfl, by decide, by decide, by decide +kernel⟩, tb_in (List.mem_of_getElem? (i := 1269) (by decide +kernel)) rfl, tb_in (List.mem_of_getElem? (i := 1270) (by decide +kernel)) rfl, tb_in (List.mem_of_getElem? (i := 62) (by decide +kernel)) rfl, tb_in (List.mem_of_getElem? (i := 1271) (by decide +kernel)) rfl, by decide⟩
theorem mv_X11_spread : MV RX11 yX11_spread cX11_spread 5 none 1 := ⟨⟨rfl, by decide, by decide, by decide +kernel⟩, tb_in (List.mem_of_getElem? (i := 1375) (by decide +kernel)) rfl, tb_in (List.mem_of_getElem? (i := 44) (by decide +kernel)) rfl, tb_in (List.mem_of_getElem? (i := 62) (by decide +kernel)) rfl, tb_in (List.mem_of_getElem? (i := 1376) (by decide +kernel)) rfl, by decide⟩
theorem mv_X11_step : MV RX11 yX11_step cX11_step 5 (some .int) 2 := ⟨⟨rfl, by decide, by decide, by decide +kernel⟩, tb_in (List.mem_of_getElem? (i := 1233) (by decide +kernel)) rfl, tb_in (List.mem_of_getElem? (i := 23) (by decide +kernel)) rfl, tb_in (List.mem_of_getElem? (i := 62) (by decide +kernel)) rfl, tb_in (List.mem_of_getElem? (i := 1234) (by decide +kernel)) rfl, by decide⟩
theorem mv_X11_take : MV RX11 yX11_take cX11_take 2 (some .int) 1 := ⟨⟨rfl, by decide, by decide, by decide +kernel⟩, tb_in (List.mem_of_getElem? (i := 1285) (by decide +kernel)) rfl, tb_in (List.mem_of_getElem? (i := 1286) (by decide +kernel)) rfl, tb_in (List.mem_of_getElem? (i := 62) (by decide +kernel)) rfl, tb_in (List.mem_of_getElem? (i := 1287) (by decide +kernel)) rfl, by decide⟩
theorem mv_X11_takeRow : MV RX11 yX11_takeRow cX11_takeRow 3 none 1 := ⟨⟨rfl, by decide, by decide, by decide +kernel⟩, tb_in (List.mem_of_getElem? (i := 1347) (by decide +kernel)) rfl, tb_in (List.mem_of_getElem? (i := 41) (by decide +kernel)) rfl, tb_in (List.mem_of_getElem? (i := 62) (by decide +kernel)) rfl, tb_in (List.mem_of_getElem? (i := 1348) (by decide +kernel)) rfl, by decide⟩
theorem mv_X11_told : MV RX11 yX11_told cX11_told 3 (some .int) 2 := ⟨⟨rfl, by decide, by decide, by decide +kernel⟩, tb_in (List.mem_of_getElem? (i := 1274) (by decide +kernel)) rfl, tb_in (List.mem_of_getElem? (i := 32) (by decide +kernel)) rfl, tb_in (List.mem_of_getElem? (i := 62) (by decide +kernel)) rfl, tb_in (List.mem_of_getElem? (i := 1275) (by decide +kernel)) rfl, by decide⟩
theorem mv_X11_where : MV RX11 yX11_where cX11_where 3 (some .int) 2 := ⟨⟨rfl, by decide, by decide, by decide +kernel⟩, tb_in (List.mem_of_getElem? (i := 1289) (by decide +kernel)) rfl, tb_in (List.mem_of_getElem? (i := 1290) (by decide +kernel)) rfl, tb_in (List.mem_of_getElem? (i := 62) (by decide +kernel)) rfl, tb_in (List.mem_of_getElem? (i := 1291) (by decide +kernel)) rfl, by decide⟩
theorem mv_X11_worst : MV RX11 yX11_worst cX11_worst 4 (some .int) 1 := ⟨⟨rfl, by decide, by decide, by decide +kernel⟩, tb_in (List.mem_of_getElem? (i := 1415) (by decide +kernel)) rfl, tb_in (List.mem_of_getElem? (i := 1416) (by decide +kernel)) rfl, tb_in (List.mem_of_getElem? (i := 62) (by decide +kernel)) rfl, tb_in (List.mem_of_getElem? (i := 1417) (by decide +kernel)) rfl, by decide⟩
theorem mv_X1_decoded : MV RX1 yX1_decoded cX1_decoded 5 (some .int) 2 := ⟨⟨rfl, by decide, by decide, by decide +kernel⟩, tb_in (List.mem_of_getElem? (i := 814) (by decide +kernel)) rfl, tb_in (List.mem_of_getElem? (i := 815) (by decide +kernel)) rfl, tb_in (List.mem_of_getElem? (i := 59) (by decide +kernel)) rfl, tb_in (List.mem_of_getElem? (i := 816) (by decide +kernel)) rfl, by decide⟩
theorem mv_X1_find : MV RX1 yX1_find cX1_find 6 (some .boolean) 1 := ⟨⟨rfl, by decide, by decide, by decide +kernel⟩, tb_in (List.mem_of_getElem? (i := 787) (by decide +kernel)) rfl, tb_in (List.mem_of_getElem? (i := 788) (by decide +kernel)) rfl, tb_in (List.mem_of_getElem? (i := 59) (by decide +kernel)) rfl, tb_in (List.mem_of_getElem? (i := 789) (by decide +kernel)) rfl, by decide⟩
theorem mv_X1_firstOfSize : MV RX1 yX1_firstOfSize cX1_firstOfSize 6 (some .int) 3 := ⟨⟨rfl, by decide, by decide, by decide +kernel⟩, tb_in (List.mem_of_getElem? (i := 804) (by decide +kernel)) rfl, tb_in (List.mem_of_getElem? (i := 805) (by decide +kernel)) rfl, tb_in (List.mem_of_getElem? (i := 59) (by decide +kernel)) rfl, tb_in (List.mem_of_getElem? (i := 806) (by decide +kernel)) rfl, by decide⟩
theorem mv_X1_keep : MV RX1 yX1_keep cX1_keep 3 none 1 := ⟨⟨rfl, by decide, by decide, by decide +kernel⟩, tb_in (List.mem_of_getElem? (i := 818) (by decide +kernel)) rfl, tb_in (List.mem_of_getElem? (i := 819) (by decide +kernel)) rfl, tb_in (List.mem_of_getElem? (i := 59) (by decide +kernel)) rfl, tb_in (List.mem_of_getElem? (i := 820) (by decide +kernel)) rfl, by decide⟩
theorem mv_X1_listGiven : MV RX1 yX1_listGiven cX1_listGiven 4 (some .int) 1 := ⟨⟨rfl, by decide, by decide, by decide +kernel⟩, tb_in (List.mem_of_getElem? (i := 799) (by decide +kernel)) rfl, tb_in (List.mem_of_getElem? (i := 800) (by decide +kernel)) rfl, tb_in (List.mem_of_getElem? (i := 59) (by decide +kernel)) rfl, tb_in (List.mem_of_getElem? (i := 801) (by decide +kernel)) rfl, by decide⟩
theorem mv_X1_number : MV RX1 yX1_number cX1_number 2 (some .int) 1 := ⟨⟨rfl, by decide, by decide, by decide +kernel⟩, tb_in (List.mem_of_getElem? (i := 826) (by decide +kernel)) rfl, tb_in (List.mem_of_getElem? (i := 827) (by decide +kernel)) rfl, tb_in (List.mem_of_getElem? (i := 59) (by decide +kernel)) rfl, tb_in (List.mem_of_getElem? (i := 828) (by decide +kernel)) rfl, by decide⟩
theorem mv_X2_add : MV RX2 yX2_add cX2_add 2 (some (.object "SmallFlyers$Ask")) 0 := ⟨⟨rfl, by decide, by decide, by decide +kernel⟩, tb_in (List.mem_of_getElem? (i := 579) (by decide +kernel)) rfl, tb_in (List.mem_of_getElem? (i := 580) (by decide +kernel)) rfl, tb_in (List.mem_of_getElem? (i := 53) (by decide +kernel)) rfl, tb_in (List.mem_of_getElem? (i := 581) (by decide +kernel)) rfl, by decide⟩
theorem mv_X2_countGiven : MV RX2 yX2_countGiven cX2_countGiven 1 (some .int) 0 := ⟨⟨rfl, by decide, by decide, by decide +kernel⟩, tb_in (List.mem_of_getElem? (i := 996) (by decide +kernel)) rfl, tb_in (List.mem_of_getElem? (i := 997) (by decide +kernel)) rfl, tb_in (List.mem_of_getElem? (i := 53) (by decide +kernel)) rfl, tb_in (List.mem_of_getElem? (i := 998) (by decide +kernel)) rfl, by decide⟩
theorem mv_X2_givenOnes : MV RX2 yX2_givenOnes cX2_givenOnes 3 (some .int) 0 := ⟨⟨rfl, by decide, by decide, by decide +kernel⟩, tb_in (List.mem_of_getElem? (i := 791) (by decide +kernel)) rfl, tb_in (List.mem_of_getElem? (i := 792) (by decide +kernel)) rfl, tb_in (List.mem_of_getElem? (i := 53) (by decide +kernel)) rfl, tb_in (List.mem_of_getElem? (i := 793) (by decide +kernel)) rfl, by decide⟩
theorem mv_X2_has : MV RX2 yX2_has cX2_has 2 (some .boolean) 1 := ⟨⟨rfl, by decide, by decide, by decide +kernel⟩, tb_in (List.mem_of_getElem? (i := 600) (by decide +kernel)) rfl, tb_in (List.mem_of_getElem? (i := 601) (by decide +kernel)) rfl, tb_in (List.mem_of_getElem? (i := 53) (by decide +kernel)) rfl, tb_in (List.mem_of_getElem? (i := 602) (by decide +kernel)) rfl, by decide⟩
theorem mv_X2_isFull : MV RX2 yX2_isFull cX2_isFull 1 (some .boolean) 0 := ⟨⟨rfl, by decide, by decide, by decide +kernel⟩, tb_in (List.mem_of_getElem? (i := 575) (by decide +kernel)) rfl, tb_in (List.mem_of_getElem? (i := 576) (by decide +kernel)) rfl, tb_in (List.mem_of_getElem? (i := 53) (by decide +kernel)) rfl, tb_in (List.mem_of_getElem? (i := 577) (by decide +kernel)) rfl, by decide⟩
theorem mv_X2_minutesGiven : MV RX2 yX2_minutesGiven cX2_minutesGiven 3 (some .int) 0 := ⟨⟨rfl, by decide, by decide, by decide +kernel⟩, tb_in (List.mem_of_getElem? (i := 1002) (by decide +kernel)) rfl, tb_in (List.mem_of_getElem? (i := 1003) (by decide +kernel)) rfl, tb_in (List.mem_of_getElem? (i := 53) (by decide +kernel)) rfl, tb_in (List.mem_of_getElem? (i := 1004) (by decide +kernel)) rfl, by decide⟩
theorem mv_X3_beginAt : MV RX3 yX3_beginAt cX3_beginAt 4 (some .boolean) 2 := ⟨⟨rfl, by decide, by decide, by decide +kernel⟩, tb_in (List.mem_of_getElem? (i := 735) (by decide +kernel)) rfl, tb_in (List.mem_of_getElem? (i := 736) (by decide +kernel)) rfl, tb_in (List.mem_of_getElem? (i := 58) (by decide +kernel)) rfl, tb_in (List.mem_of_getElem? (i := 737) (by decide +kernel)) rfl, by decide⟩
theorem mv_X3_findQuietest : MV RX3 yX3_findQuietest cX3_findQuietest 3 (some .boolean) 1 := ⟨⟨rfl, by decide, by decide, by decide +kernel⟩, tb_in (List.mem_of_getElem? (i := 716) (by decide +kernel)) rfl, tb_in (List.mem_of_getElem? (i := 717) (by decide +kernel)) rfl, tb_in (List.mem_of_getElem? (i := 58) (by decide +kernel)) rfl, tb_in (List.mem_of_getElem? (i := 718) (by decide +kernel)) rfl, by decide⟩
theorem mv_X3_firstStep : MV RX3 yX3_firstStep cX3_firstStep 7 (some .int) 2 := ⟨⟨rfl, by decide, by decide, by decide +kernel⟩, tb_in (List.mem_of_getElem? (i := 756) (by decide +kernel)) rfl, tb_in (List.mem_of_getElem? (i := 757) (by decide +kernel)) rfl, tb_in (List.mem_of_getElem? (i := 58) (by decide +kernel)) rfl, tb_in (List.mem_of_getElem? (i := 758) (by decide +kernel)) rfl, by decide⟩
theorem mv_X3_follow : MV RX3 yX3_follow cX3_follow 5 none 1 := ⟨⟨rfl, by decide, by decide, by decide +kernel⟩, tb_in (List.mem_of_getElem? (i := 751) (by decide +kernel)) rfl, tb_in (List.mem_of_getElem? (i := 752) (by decide +kernel)) rfl, tb_in (List.mem_of_getElem? (i := 58) (by decide +kernel)) rfl, tb_in (List.mem_of_getElem? (i := 753) (by decide +kernel)) rfl, by decide⟩
theorem mv_X3_growth : MV RX3 yX3_growth cX3_growth 2 (some .int) 1 := ⟨⟨rfl, by decide, by decide, by decide +kernel⟩, tb_in (List.mem_of_getElem? (i := 980) (by decide +kernel)) rfl, tb_in (List.mem_of_getElem? (i := 981) (by decide +kernel)) rfl, tb_in (List.mem_of_getElem? (i := 58) (by decide +kernel)) rfl, tb_in (List.mem_of_getElem? (i := 982) (by decide +kernel)) rfl, by decide⟩
theorem mv_X3_leastNext : MV RX3 yX3_leastNext cX3_leastNext 7 (some .int) 3 := ⟨⟨rfl, by decide, by decide, by decide +kernel⟩, tb_in (List.mem_of_getElem? (i := 745) (by decide +kernel)) rfl, tb_in (List.mem_of_getElem? (i := 746) (by decide +kernel)) rfl, tb_in (List.mem_of_getElem? (i := 58) (by decide +kernel)) rfl, tb_in (List.mem_of_getElem? (i := 747) (by decide +kernel)) rfl, by decide⟩
theorem mv_X3_lookBack : MV RX3 yX3_lookBack cX3_lookBack 6 none 2 := ⟨⟨rfl, by decide, by decide, by decide +kernel⟩, tb_in (List.mem_of_getElem? (i := 731) (by decide +kernel)) rfl, tb_in (List.mem_of_getElem? (i := 732) (by decide +kernel)) rfl, tb_in (List.mem_of_getElem? (i := 58) (by decide +kernel)) rfl, tb_in (List.mem_of_getElem? (i := 733) (by decide +kernel)) rfl, by decide⟩
theorem mv_X3_stepBack : MV RX3 yX3_stepBack cX3_stepBack 7 (some .boolean) 3 := ⟨⟨rfl, by decide, by decide, by decide +kernel⟩, tb_in (List.mem_of_getElem? (i := 741) (by decide +kernel)) rfl, tb_in (List.mem_of_getElem? (i := 742) (by decide +kernel)) rfl, tb_in (List.mem_of_getElem? (i := 58) (by decide +kernel)) rfl, tb_in (List.mem_of_getElem? (i := 743) (by decide +kernel)) rfl, by decide⟩
theorem mv_X4_carryOut : MV RX4 yX4_carryOut cX4_carryOut 3 (some .int) 0 := ⟨⟨rfl, by decide, by decide, by decide +kernel⟩, tb_in (List.mem_of_getElem? (i := 877) (by decide +kernel)) rfl, tb_in (List.mem_of_getElem? (i := 878) (by decide +kernel)) rfl, tb_in (List.mem_of_getElem? (i := 60) (by decide +kernel)) rfl, tb_in (List.mem_of_getElem? (i := 879) (by decide +kernel)) rfl, by decide⟩
theorem mv_X4_findBest : MV RX4 yX4_findBest cX4_findBest 3 none 1 := ⟨⟨rfl, by decide, by decide, by decide +kernel⟩, tb_in (List.mem_of_getElem? (i := 841) (by decide +kernel)) rfl, tb_in (List.mem_of_getElem? (i := 842) (by decide +kernel)) rfl, tb_in (List.mem_of_getElem? (i := 60) (by decide +kernel)) rfl, tb_in (List.mem_of_getElem? (i := 843) (by decide +kernel)) rfl, by decide⟩
theorem mv_X4_giveNext : MV RX4 yX4_giveNext cX4_giveNext 3 (some .int) 1 := ⟨⟨rfl, by decide, by decide, by decide +kernel⟩, tb_in (List.mem_of_getElem? (i := 848) (by decide +kernel)) rfl, tb_in (List.mem_of_getElem? (i := 849) (by decide +kernel)) rfl, tb_in (List.mem_of_getElem? (i := 60) (by decide +kernel)) rfl, tb_in (List.mem_of_getElem? (i := 850) (by decide +kernel)) rfl, by decide⟩
theorem mv_X4_keep : MV RX4 yX4_keep cX4_keep 3 none 1 := ⟨⟨rfl, by decide, by decide, by decide +kernel⟩, tb_in (List.mem_of_getElem? (i := 860) (by decide +kernel)) rfl, tb_in (List.mem_of_getElem? (i := 861) (by decide +kernel)) rfl, tb_in (List.mem_of_getElem? (i := 60) (by decide +kernel)) rfl, tb_in (List.mem_of_getElem? (i := 862) (by decide +kernel)) rfl, by decide⟩
theorem mv_X4_leastCost : MV RX4 yX4_leastCost cX4_leastCost 5 (some .int) 2 := ⟨⟨rfl, by decide, by decide, by decide +kernel⟩, tb_in (List.mem_of_getElem? (i := 856) (by decide +kernel)) rfl, tb_in (List.mem_of_getElem? (i := 857) (by decide +kernel)) rfl, tb_in (List.mem_of_getElem? (i := 60) (by decide +kernel)) rfl, tb_in (List.mem_of_getElem? (i := 858) (by decide +kernel)) rfl, by decide⟩
theorem mv_X4_number : MV RX4 yX4_number cX4_number 2 (some .int) 1 := ⟨⟨rfl, by decide, by decide, by decide +kernel⟩, tb_in (List.mem_of_getElem? (i := 868) (by decide +kernel)) rfl, tb_in (List.mem_of_getElem? (i := 869) (by decide +kernel)) rfl, tb_in (List.mem_of_getElem? (i := 60) (by decide +kernel)) rfl, tb_in (List.mem_of_getElem? (i := 870) (by decide +kernel)) rfl, by decide⟩
theorem ms_X4_tryFrom : MS yX4_tryFrom cX4_tryFrom 6 none 4 := ⟨⟨by decide, by decide, by decide +kernel⟩, tb_in (List.mem_of_getElem? (i := 853) (by decide +kernel)) rfl, tb_in (List.mem_of_getElem? (i := 60) (by decide +kernel)) rfl, tb_in (List.mem_of_getElem? (i := 854) (by decide +kernel)) rfl, by decide⟩
theorem mv_X5_heardFrom : MV RX5 yX5_heardFrom cX5_heardFrom 4 (some .int) 1 := ⟨⟨rfl, by decide, by decide, by decide +kernel⟩, tb_in (List.mem_of_getElem? (i := 721) (by decide +kernel)) rfl, tb_in (List.mem_of_getElem? (i := 722) (by decide +kernel)) rfl, tb_in (List.mem_of_getElem? (i := 56) (by decide +kernel)) rfl, tb_in (List.mem_of_getElem? (i := 723) (by decide +kernel)) rfl, by decide⟩
theorem mv_X5_heardIn : MV RX5 yX5_heardIn cX5_heardIn 4 (some .int) 1 := ⟨⟨rfl, by decide, by decide, by decide +kernel⟩, tb_in (List.mem_of_getElem? (i := 958) (by decide +kernel)) rfl, tb_in (List.mem_of_getElem? (i := 959) (by decide +kernel)) rfl, tb_in (List.mem_of_getElem? (i := 56) (by decide +kernel)) rfl, tb_in (List.mem_of_getElem? (i := 960) (by decide +kernel)) rfl, by decide⟩
theorem mv_X5_listen : MV RX5 yX5_listen cX5_listen 4 (some .int) 2 := ⟨⟨rfl, by decide, by decide, by decide +kernel⟩, tb_in (List.mem_of_getElem? (i := 950) (by decide +kernel)) rfl, tb_in (List.mem_of_getElem? (i := 951) (by decide +kernel)) rfl, tb_in (List.mem_of_getElem? (i := 56) (by decide +kernel)) rfl, tb_in (List.mem_of_getElem? (i := 952) (by decide +kernel)) rfl, by decide⟩
theorem mv_X5_loudestCell : MV RX5 yX5_loudestCell cX5_loudestCell 5 (some .int) 0 := ⟨⟨rfl, by decide, by decide, by decide +kernel⟩, tb_in (List.mem_of_getElem? (i := 971) (by decide +kernel)) rfl, tb_in (List.mem_of_getElem? (i := 972) (by decide +kernel)) rfl, tb_in (List.mem_of_getElem? (i := 56) (by decide +kernel)) rfl, tb_in (List.mem_of_getElem? (i := 973) (by decide +kernel)) rfl, by decide⟩
theorem mv_X5_silence : MV RX5 yX5_silence cX5_silence 2 none 0 := ⟨⟨rfl, by decide, by decide, by decide +kernel⟩, tb_in (List.mem_of_getElem? (i := 503) (by decide +kernel)) rfl, tb_in (List.mem_of_getElem? (i := 504) (by decide +kernel)) rfl, tb_in (List.mem_of_getElem? (i := 56) (by decide +kernel)) rfl, tb_in (List.mem_of_getElem? (i := 505) (by decide +kernel)) rfl, by decide⟩
theorem mv_X5_sound : MV RX5 yX5_sound cX5_sound 3 (some .int) 2 := ⟨⟨rfl, by decide, by decide, by decide +kernel⟩, tb_in (List.mem_of_getElem? (i := 725) (by decide +kernel)) rfl, tb_in (List.mem_of_getElem? (i := 726) (by decide +kernel)) rfl, tb_in (List.mem_of_getElem? (i := 56) (by decide +kernel)) rfl, tb_in (List.mem_of_getElem? (i := 727) (by decide +kernel)) rfl, by decide⟩
theorem mv_X5_soundOf : MV RX5 yX5_soundOf cX5_soundOf 5 (some .int) 2 := ⟨⟨rfl, by decide, by decide, by decide +kernel⟩, tb_in (List.mem_of_getElem? (i := 962) (by decide +kernel)) rfl, tb_in (List.mem_of_getElem? (i := 963) (by decide +kernel)) rfl, tb_in (List.mem_of_getElem? (i := 56) (by decide +kernel)) rfl, tb_in (List.mem_of_getElem? (i := 964) (by decide +kernel)) rfl, by decide⟩
theorem ms_X6_against : MS yX6_against cX6_against 1 (some .int) 1 := ⟨⟨by decide, by decide, by decide +kernel⟩, tb_in (List.mem_of_getElem? (i := 643) (by decide +kernel)) rfl, tb_in (List.mem_of_getElem? (i := 57) (by decide +kernel)) rfl, tb_in (List.mem_of_getElem? (i := 644) (by decide +kernel)) rfl, by decide⟩
theorem mv_X6_ahead : MV RX6 yX6_ahead cX6_ahead 6 (some .long) 2 := ⟨⟨rfl, by decide, by decide, by decide +kernel⟩, tb_in (List.mem_of_getElem? (i := 650) (by decide +kernel)) rfl, tb_in (List.mem_of_getElem? (i := 651) (by decide +kernel)) rfl, tb_in (List.mem_of_getElem? (i := 57) (by decide +kernel)) rfl, tb_in (List.mem_of_getElem? (i := 652) (by decide +kernel)) rfl, by decide⟩
theorem mv_X6_behind : MV RX6 yX6_behind cX6_behind 6 (some .long) 2 := ⟨⟨rfl, by decide, by decide, by decide +kernel⟩, tb_in (List.mem_of_getElem? (i := 659) (by decide +kernel)) rfl, tb_in (List.mem_of_getElem? (i := 660) (by decide +kernel)) rfl, tb_in (List.mem_of_getElem? (i := 57) (by decide +kernel)) rfl, tb_in (List.mem_of_getElem? (i := 661) (by decide +kernel)) rfl, by decide⟩
theorem mv_X6_clearFor : MV RX6 yX6_clearFor cX6_clearFor 5 none 2 := ⟨⟨rfl, by decide, by decide, by decide +kernel⟩, tb_in (List.mem_of_getElem? (i := 620) (by decide +kernel)) rfl, tb_in (List.mem_of_getElem? (i := 621) (by decide +kernel)) rfl, tb_in (List.mem_of_getElem? (i := 57) (by decide +kernel)) rfl, tb_in (List.mem_of_getElem? (i := 622) (by decide +kernel)) rfl, by decide⟩
theorem mv_X6_findEnd : MV RX6 yX6_findEnd cX6_findEnd 5 (some .boolean) 1 := ⟨⟨rfl, by decide, by decide, by decide +kernel⟩, tb_in (List.mem_of_getElem? (i := 646) (by decide +kernel)) rfl, tb_in (List.mem_of_getElem? (i := 647) (by decide +kernel)) rfl, tb_in (List.mem_of_getElem? (i := 57) (by decide +kernel)) rfl, tb_in (List.mem_of_getElem? (i := 648) (by decide +kernel)) rfl, by decide⟩
theorem mv_X6_findSoonest : MV RX6 yX6_findSoonest cX6_findSoonest 2 (some .boolean) 1 := ⟨⟨rfl, by decide, by decide, by decide +kernel⟩, tb_in (List.mem_of_getElem? (i := 616) (by decide +kernel)) rfl, tb_in (List.mem_of_getElem? (i := 617) (by decide +kernel)) rfl, tb_in (List.mem_of_getElem? (i := 57) (by decide +kernel)) rfl, tb_in (List.mem_of_getElem? (i := 618) (by decide +kernel)) rfl, by decide⟩
theorem mv_X6_findStart : MV RX6 yX6_findStart cX6_findStart 5 (some .boolean) 2 := ⟨⟨rfl, by decide, by decide, by decide +kernel⟩, tb_in (List.mem_of_getElem? (i := 655) (by decide +kernel)) rfl, tb_in (List.mem_of_getElem? (i := 656) (by decide +kernel)) rfl, tb_in (List.mem_of_getElem? (i := 57) (by decide +kernel)) rfl, tb_in (List.mem_of_getElem? (i := 657) (by decide +kernel)) rfl, by decide⟩
theorem mv_X6_firstStep : MV RX6 yX6_firstStep cX6_firstStep 5 (some .int) 2 := ⟨⟨rfl, by decide, by decide, by decide +kernel⟩, tb_in (List.mem_of_getElem? (i := 671) (by decide +kernel)) rfl, tb_in (List.mem_of_getElem? (i := 672) (by decide +kernel)) rfl, tb_in (List.mem_of_getElem? (i := 57) (by decide +kernel)) rfl, tb_in (List.mem_of_getElem? (i := 673) (by decide +kernel)) rfl, by decide⟩
theorem mv_X6_follow : MV RX6 yX6_follow cX6_follow 5 none 1 := ⟨⟨rfl, by decide, by decide, by decide +kernel⟩, tb_in (List.mem_of_getElem? (i := 663) (by decide +kernel)) rfl, tb_in (List.mem_of_getElem? (i := 664) (by decide +kernel)) rfl, tb_in (List.mem_of_getElem? (i := 57) (by decide +kernel)) rfl, tb_in (List.mem_of_getElem? (i := 665) (by decide +kernel)) rfl, by decide⟩
theorem mv_X6_hasWayWithout : MV RX6 yX6_hasWayWithout cX6_hasWayWithout 3 (some .boolean) 2 := ⟨⟨rfl, by decide, by decide, by decide +kernel⟩, tb_in (List.mem_of_getElem? (i := 795) (by decide +kernel)) rfl, tb_in (List.mem_of_getElem? (i := 796) (by decide +kernel)) rfl, tb_in (List.mem_of_getElem? (i := 57) (by decide +kernel)) rfl, tb_in (List.mem_of_getElem? (i := 797) (by decide +kernel)) rfl, by decide⟩
theorem mv_X6_isAllowed : MV RX6 yX6_isAllowed cX6_isAllowed 4 (some .boolean) 3 := ⟨⟨rfl, by decide, by decide, by decide +kernel⟩, tb_in (List.mem_of_getElem? (i := 679) (by decide +kernel)) rfl, tb_in (List.mem_of_getElem? (i := 680) (by decide +kernel)) rfl, tb_in (List.mem_of_getElem? (i := 57) (by decide +kernel)) rfl, tb_in (List.mem_of_getElem? (i := 681) (by decide +kernel)) rfl, by decide⟩
theorem mv_X6_keepApart : MV RX6 yX6_keepApart cX6_keepApart 8 none 2 := ⟨⟨rfl, by decide, by decide, by decide +kernel⟩, tb_in (List.mem_of_getElem? (i := 628) (by decide +kernel)) rfl, tb_in (List.mem_of_getElem? (i := 629) (by decide +kernel)) rfl, tb_in (List.mem_of_getElem? (i := 57) (by decide +kernel)) rfl, tb_in (List.mem_of_getElem? (i := 630) (by decide +kernel)) rfl, by decide⟩
theorem mv_X6_wouldMeet : MV RX6 yX6_wouldMeet cX6_wouldMeet 6 (some .boolean) 3 := ⟨⟨rfl, by decide, by decide, by decide +kernel⟩, tb_in (List.mem_of_getElem? (i := 778) (by decide +kernel)) rfl, tb_in (List.mem_of_getElem? (i := 779) (by decide +kernel)) rfl, tb_in (List.mem_of_getElem? (i := 57) (by decide +kernel)) rfl, tb_in (List.mem_of_getElem? (i := 780) (by decide +kernel)) rfl, by decide⟩
theorem mv_X7_countTouched : MV RX7 yX7_countTouched cX7_countTouched 3 (some .int) 0 := ⟨⟨rfl, by decide, by decide, by decide +kernel⟩, tb_in (List.mem_of_getElem? (i := 917) (by decide +kernel)) rfl, tb_in (List.mem_of_getElem? (i := 918) (by decide +kernel)) rfl, tb_in (List.mem_of_getElem? (i := 61) (by decide +kernel)) rfl, tb_in (List.mem_of_getElem? (i := 919) (by decide +kernel)) rfl, by decide⟩
theorem mv_X7_firstTouch : MV RX7 yX7_firstTouch cX7_firstTouch 3 (some .int) 1 := ⟨⟨rfl, by decide, by decide, by decide +kernel⟩, tb_in (List.mem_of_getElem? (i := 925) (by decide +kernel)) rfl, tb_in (List.mem_of_getElem? (i := 926) (by decide +kernel)) rfl, tb_in (List.mem_of_getElem? (i := 61) (by decide +kernel)) rfl, tb_in (List.mem_of_getElem? (i := 927) (by decide +kernel)) rfl, by decide⟩
theorem mv_X7_see : MV RX7 yX7_see cX7_see 4 none 3 := ⟨⟨rfl, by decide, by decide, by decide +kernel⟩, tb_in (List.mem_of_getElem? (i := 885) (by decide +kernel)) rfl, tb_in (List.mem_of_getElem? (i := 886) (by decide +kernel)) rfl, tb_in (List.mem_of_getElem? (i := 61) (by decide +kernel)) rfl, tb_in (List.mem_of_getElem? (i := 887) (by decide +kernel)) rfl, by decide⟩
theorem mv_X7_spread : MV RX7 yX7_spread cX7_spread 4 none 0 := ⟨⟨rfl, by decide, by decide, by decide +kernel⟩, tb_in (List.mem_of_getElem? (i := 893) (by decide +kernel)) rfl, tb_in (List.mem_of_getElem? (i := 894) (by decide +kernel)) rfl, tb_in (List.mem_of_getElem? (i := 61) (by decide +kernel)) rfl, tb_in (List.mem_of_getElem? (i := 895) (by decide +kernel)) rfl, by decide⟩
theorem mv_X7_spreadInto : MV RX7 yX7_spreadInto cX7_spreadInto 7 (some .long) 2 := ⟨⟨rfl, by decide, by decide, by decide +kernel⟩, tb_in (List.mem_of_getElem? (i := 897) (by decide +kernel)) rfl, tb_in (List.mem_of_getElem? (i := 898) (by decide +kernel)) rfl, tb_in (List.mem_of_getElem? (i := 61) (by decide +kernel)) rfl, tb_in (List.mem_of_getElem? (i := 899) (by decide +kernel)) rfl, by decide⟩
theorem mv_X7_touched : MV RX7 yX7_touched cX7_touched 4 (some .int) 1 := ⟨⟨rfl, by decide, by decide, by decide +kernel⟩, tb_in (List.mem_of_getElem? (i := 937) (by decide +kernel)) rfl, tb_in (List.mem_of_getElem? (i := 938) (by decide +kernel)) rfl, tb_in (List.mem_of_getElem? (i := 61) (by decide +kernel)) rfl, tb_in (List.mem_of_getElem? (i := 939) (by decide +kernel)) rfl, by decide⟩
theorem mv_X7_touches : MV RX7 yX7_touches cX7_touches 2 (some .boolean) 1 := ⟨⟨rfl, by decide, by decide, by decide +kernel⟩, tb_in (List.mem_of_getElem? (i := 921) (by decide +kernel)) rfl, tb_in (List.mem_of_getElem? (i := 922) (by decide +kernel)) rfl, tb_in (List.mem_of_getElem? (i := 61) (by decide +kernel)) rfl, tb_in (List.mem_of_getElem? (i := 923) (by decide +kernel)) rfl, by decide⟩
theorem mv_X8_addFolk : MV RX8 yX8_addFolk cX8_addFolk 4 (some .int) 3 := ⟨⟨rfl, by decide, by decide, by decide +kernel⟩, tb_in (List.mem_of_getElem? (i := 530) (by decide +kernel)) rfl, tb_in (List.mem_of_getElem? (i := 531) (by decide +kernel)) rfl, tb_in (List.mem_of_getElem? (i := 51) (by decide +kernel)) rfl, tb_in (List.mem_of_getElem? (i := 532) (by decide +kernel)) rfl, by decide⟩
theorem mv_X8_addShut : MV RX8 yX8_addShut cX8_addShut 4 (some .int) 3 := ⟨⟨rfl, by decide, by decide, by decide +kernel⟩, tb_in (List.mem_of_getElem? (i := 519) (by decide +kernel)) rfl, tb_in (List.mem_of_getElem? (i := 520) (by decide +kernel)) rfl, tb_in (List.mem_of_getElem? (i := 51) (by decide +kernel)) rfl, tb_in (List.mem_of_getElem? (i := 521) (by decide +kernel)) rfl, by decide⟩
theorem mv_X8_apart : MV RX8 yX8_apart cX8_apart 3 (some .int) 2 := ⟨⟨rfl, by decide, by decide, by decide +kernel⟩, tb_in (List.mem_of_getElem? (i := 95) (by decide +kernel)) rfl, tb_in (List.mem_of_getElem? (i := 96) (by decide +kernel)) rfl, tb_in (List.mem_of_getElem? (i := 51) (by decide +kernel)) rfl, tb_in (List.mem_of_getElem? (i := 97) (by decide +kernel)) rfl, by decide⟩
theorem mv_X8_besideOf : MV RX8 yX8_besideOf cX8_besideOf 5 (some .long) 1 := ⟨⟨rfl, by decide, by decide, by decide +kernel⟩, tb_in (List.mem_of_getElem? (i := 125) (by decide +kernel)) rfl, tb_in (List.mem_of_getElem? (i := 126) (by decide +kernel)) rfl, tb_in (List.mem_of_getElem? (i := 51) (by decide +kernel)) rfl, tb_in (List.mem_of_getElem? (i := 127) (by decide +kernel)) rfl, by decide⟩
theorem mv_X8_changeGlide : MV RX8 yX8_changeGlide cX8_changeGlide 3 (some .int) 1 := ⟨⟨rfl, by decide, by decide, by decide +kernel⟩, tb_in (List.mem_of_getElem? (i := 538) (by decide +kernel)) rfl, tb_in (List.mem_of_getElem? (i := 539) (by decide +kernel)) rfl, tb_in (List.mem_of_getElem? (i := 51) (by decide +kernel)) rfl, tb_in (List.mem_of_getElem? (i := 540) (by decide +kernel)) rfl, by decide⟩
theorem mv_X8_changeNear : MV RX8 yX8_changeNear cX8_changeNear 3 (some .int) 1 := ⟨⟨rfl, by decide, by decide, by decide +kernel⟩, tb_in (List.mem_of_getElem? (i := 542) (by decide +kernel)) rfl, tb_in (List.mem_of_getElem? (i := 543) (by decide +kernel)) rfl, tb_in (List.mem_of_getElem? (i := 51) (by decide +kernel)) rfl, tb_in (List.mem_of_getElem? (i := 544) (by decide +kernel)) rfl, by decide⟩
theorem mv_X8_downBy : MV RX8 yX8_downBy cX8_downBy 7 (some .long) 2 := ⟨⟨rfl, by decide, by decide, by decide +kernel⟩, tb_in (List.mem_of_getElem? (i := 114) (by decide +kernel)) rfl, tb_in (List.mem_of_getElem? (i := 115) (by decide +kernel)) rfl, tb_in (List.mem_of_getElem? (i := 51) (by decide +kernel)) rfl, tb_in (List.mem_of_getElem? (i := 116) (by decide +kernel)) rfl, by decide⟩
theorem mv_X8_hasCell : MV RX8 yX8_hasCell cX8_hasCell 2 (some .boolean) 1 := ⟨⟨rfl, by decide, by decide, by decide +kernel⟩, tb_in (List.mem_of_getElem? (i := 99) (by decide +kernel)) rfl, tb_in (List.mem_of_getElem? (i := 100) (by decide +kernel)) rfl, tb_in (List.mem_of_getElem? (i := 51) (by decide +kernel)) rfl, tb_in (List.mem_of_getElem? (i := 101) (by decide +kernel)) rfl, by decide⟩
theorem mv_X8_lay : MV RX8 yX8_lay cX8_lay 4 none 2 := ⟨⟨rfl, by decide, by decide, by decide +kernel⟩, tb_in (List.mem_of_getElem? (i := 80) (by decide +kernel)) rfl, tb_in (List.mem_of_getElem? (i := 81) (by decide +kernel)) rfl, tb_in (List.mem_of_getElem? (i := 51) (by decide +kernel)) rfl, tb_in (List.mem_of_getElem? (i := 82) (by decide +kernel)) rfl, by decide⟩
theorem ms_X8_mark : MS yX8_mark cX8_mark 5 none 4 := ⟨⟨by decide, by decide, by decide +kernel⟩, tb_in (List.mem_of_getElem? (i := 523) (by decide +kernel)) rfl, tb_in (List.mem_of_getElem? (i := 51) (by decide +kernel)) rfl, tb_in (List.mem_of_getElem? (i := 524) (by decide +kernel)) rfl, by decide⟩
theorem mv_X8_placeCells : MV RX8 yX8_placeCells cX8_placeCells 4 none 0 := ⟨⟨rfl, by decide, by decide, by decide +kernel⟩, tb_in (List.mem_of_getElem? (i := 87) (by decide +kernel)) rfl, tb_in (List.mem_of_getElem? (i := 88) (by decide +kernel)) rfl, tb_in (List.mem_of_getElem? (i := 51) (by decide +kernel)) rfl, tb_in (List.mem_of_getElem? (i := 89) (by decide +kernel)) rfl, by decide⟩
theorem mv_X8_refreshNear : MV RX8 yX8_refreshNear cX8_refreshNear 5 none 0 := ⟨⟨rfl, by decide, by decide, by decide +kernel⟩, tb_in (List.mem_of_getElem? (i := 91) (by decide +kernel)) rfl, tb_in (List.mem_of_getElem? (i := 92) (by decide +kernel)) rfl, tb_in (List.mem_of_getElem? (i := 51) (by decide +kernel)) rfl, tb_in (List.mem_of_getElem? (i := 93) (by decide +kernel)) rfl, by decide⟩
theorem mv_X8_refreshOpen : MV RX8 yX8_refreshOpen cX8_refreshOpen 5 none 0 := ⟨⟨rfl, by decide, by decide, by decide +kernel⟩, tb_in (List.mem_of_getElem? (i := 110) (by decide +kernel)) rfl, tb_in (List.mem_of_getElem? (i := 111) (by decide +kernel)) rfl, tb_in (List.mem_of_getElem? (i := 51) (by decide +kernel)) rfl, tb_in (List.mem_of_getElem? (i := 112) (by decide +kernel)) rfl, by decide⟩
theorem mv_X8_stepFrom : MV RX8 yX8_stepFrom cX8_stepFrom 3 (some .int) 2 := ⟨⟨rfl, by decide, by decide, by decide +kernel⟩, tb_in (List.mem_of_getElem? (i := 675) (by decide +kernel)) rfl, tb_in (List.mem_of_getElem? (i := 676) (by decide +kernel)) rfl, tb_in (List.mem_of_getElem? (i := 51) (by decide +kernel)) rfl, tb_in (List.mem_of_getElem? (i := 677) (by decide +kernel)) rfl, by decide⟩
theorem mv_X8_stepsDown : MV RX8 yX8_stepsDown cX8_stepsDown 4 (some .int) 2 := ⟨⟨rfl, by decide, by decide, by decide +kernel⟩, tb_in (List.mem_of_getElem? (i := 554) (by decide +kernel)) rfl, tb_in (List.mem_of_getElem? (i := 555) (by decide +kernel)) rfl, tb_in (List.mem_of_getElem? (i := 51) (by decide +kernel)) rfl, tb_in (List.mem_of_getElem? (i := 556) (by decide +kernel)) rfl, by decide⟩
theorem mv_X9_begin : MV RX9 yX9_begin cX9_begin 3 none 2 := ⟨⟨rfl, by decide, by decide, by decide +kernel⟩, tb_in (List.mem_of_getElem? (i := 667) (by decide +kernel)) rfl, tb_in (List.mem_of_getElem? (i := 668) (by decide +kernel)) rfl, tb_in (List.mem_of_getElem? (i := 55) (by decide +kernel)) rfl, tb_in (List.mem_of_getElem? (i := 669) (by decide +kernel)) rfl, by decide⟩
theorem mv_X9_cellAt : MV RX9 yX9_cellAt cX9_cellAt 3 (some .int) 1 := ⟨⟨rfl, by decide, by decide, by decide +kernel⟩, tb_in (List.mem_of_getElem? (i := 633) (by decide +kernel)) rfl, tb_in (List.mem_of_getElem? (i := 634) (by decide +kernel)) rfl, tb_in (List.mem_of_getElem? (i := 55) (by decide +kernel)) rfl, tb_in (List.mem_of_getElem? (i := 635) (by decide +kernel)) rfl, by decide⟩
theorem mv_X9_goOn : MV RX9 yX9_goOn cX9_goOn 4 none 2 := ⟨⟨rfl, by decide, by decide, by decide +kernel⟩, tb_in (List.mem_of_getElem? (i := 683) (by decide +kernel)) rfl, tb_in (List.mem_of_getElem? (i := 684) (by decide +kernel)) rfl, tb_in (List.mem_of_getElem? (i := 55) (by decide +kernel)) rfl, tb_in (List.mem_of_getElem? (i := 685) (by decide +kernel)) rfl, by decide⟩
theorem mv_X9_length : MV RX9 yX9_length cX9_length 1 (some .int) 0 := ⟨⟨rfl, by decide, by decide, by decide +kernel⟩, tb_in (List.mem_of_getElem? (i := 687) (by decide +kernel)) rfl, tb_in (List.mem_of_getElem? (i := 688) (by decide +kernel)) rfl, tb_in (List.mem_of_getElem? (i := 55) (by decide +kernel)) rfl, tb_in (List.mem_of_getElem? (i := 689) (by decide +kernel)) rfl, by decide⟩
theorem mv_X9_stepAt : MV RX9 yX9_stepAt cX9_stepAt 3 (some .int) 1 := ⟨⟨rfl, by decide, by decide, by decide +kernel⟩, tb_in (List.mem_of_getElem? (i := 639) (by decide +kernel)) rfl, tb_in (List.mem_of_getElem? (i := 640) (by decide +kernel)) rfl, tb_in (List.mem_of_getElem? (i := 55) (by decide +kernel)) rfl, tb_in (List.mem_of_getElem? (i := 641) (by decide +kernel)) rfl, by decide⟩
theorem mv_X9_tell : MV RX9 yX9_tell cX9_tell 3 (some .int) 2 := ⟨⟨rfl, by decide, by decide, by decide +kernel⟩, tb_in (List.mem_of_getElem? (i := 700) (by decide +kernel)) rfl, tb_in (List.mem_of_getElem? (i := 701) (by decide +kernel)) rfl, tb_in (List.mem_of_getElem? (i := 55) (by decide +kernel)) rfl, tb_in (List.mem_of_getElem? (i := 702) (by decide +kernel)) rfl, by decide⟩
theorem lk_RX10_9 : Cond.methodLink RX10 9 yX8_init ∈ tb := tb_in (List.mem_of_getElem? (i := 75) (by decide +kernel)) rfl
theorem lk_RX10_18 : Cond.methodLink RX10 18 yX2_init ∈ tb := tb_in (List.mem_of_getElem? (i := 192) (by decide +kernel)) rfl
theorem lk_RX10_25 : Cond.methodLink RX10 25 yX5_init ∈ tb := tb_in (List.mem_of_getElem? (i := 311) (by decide +kernel)) rfl
theorem lk_RX10_34 : Cond.methodLink RX10 34 yX6_init ∈ tb := tb_in (List.mem_of_getElem? (i := 327) (by decide +kernel)) rfl
theorem lk_RX10_41 : Cond.methodLink RX10 41 yX3_init ∈ tb := tb_in (List.mem_of_getElem? (i := 358) (by decide +kernel)) rfl
theorem lk_RX10_50 : Cond.methodLink RX10 50 yX1_init ∈ tb := tb_in (List.mem_of_getElem? (i := 391) (by decide +kernel)) rfl
theorem lk_RX10_59 : Cond.methodLink RX10 59 yX4_init ∈ tb := tb_in (List.mem_of_getElem? (i := 414) (by decide +kernel)) rfl
theorem lk_RX10_66 : Cond.methodLink RX10 66 yX7_init ∈ tb := tb_in (List.mem_of_getElem? (i := 443) (by decide +kernel)) rfl
theorem lk_RX10_71 : Cond.methodLink RX10 71 yX10_isWithin ∈ tb := tb_in (List.mem_of_getElem? (i := 120) (by decide +kernel)) rfl
theorem lk_RX10_76 : Cond.methodLink RX10 76 yX8_lay ∈ tb := tb_in (List.mem_of_getElem? (i := 501) (by decide +kernel)) rfl
theorem lk_RX10_84 : Cond.methodLink RX10 84 yX5_silence ∈ tb := tb_in (List.mem_of_getElem? (i := 502) (by decide +kernel)) rfl
theorem lk_RX10_97 : Cond.methodLink RX10 97 yX10_refuseSpan ∈ tb := tb_in (List.mem_of_getElem? (i := 510) (by decide +kernel)) rfl
theorem lk_RX10_101 : Cond.methodLink RX10 101 yX8_addShut ∈ tb := tb_in (List.mem_of_getElem? (i := 518) (by decide +kernel)) rfl
theorem lk_RX10_108 : Cond.methodLink RX10 108 yX8_addFolk ∈ tb := tb_in (List.mem_of_getElem? (i := 529) (by decide +kernel)) rfl
theorem lk_RX10_111 : Cond.methodLink RX10 111 yX8_changeGlide ∈ tb := tb_in (List.mem_of_getElem? (i := 537) (by decide +kernel)) rfl
theorem lk_RX10_115 : Cond.methodLink RX10 115 yX8_changeNear ∈ tb := tb_in (List.mem_of_getElem? (i := 541) (by decide +kernel)) rfl
theorem lk_RX10_118 : Cond.methodLink RX10 118 yX10_refuseCellAt ∈ tb := tb_in (List.mem_of_getElem? (i := 549) (by decide +kernel)) rfl
theorem lk_RX10_122 : Cond.methodLink RX10 122 yX8_stepsDown ∈ tb := tb_in (List.mem_of_getElem? (i := 553) (by decide +kernel)) rfl
theorem lk_RX10_129 : Cond.methodLink RX10 129 yX10_holds ∈ tb := tb_in (List.mem_of_getElem? (i := 565) (by decide +kernel)) rfl
theorem lk_RX10_133 : Cond.methodLink RX10 133 yX10_oneIf ∈ tb := tb_in (List.mem_of_getElem? (i := 566) (by decide +kernel)) rfl
theorem lk_RX10_137 : Cond.methodLink RX10 137 yX8_hasCell ∈ tb := tb_in (List.mem_of_getElem? (i := 514) (by decide +kernel)) rfl
theorem lk_RX10_142 : Cond.methodLink RX10 142 yX10_isMinute ∈ tb := tb_in (List.mem_of_getElem? (i := 516) (by decide +kernel)) rfl
theorem lk_RX10_146 : Cond.methodLink RX10 146 yX2_isFull ∈ tb := tb_in (List.mem_of_getElem? (i := 574) (by decide +kernel)) rfl
theorem lk_RX10_151 : Cond.methodLink RX10 151 yX2_add ∈ tb := tb_in (List.mem_of_getElem? (i := 578) (by decide +kernel)) rfl
theorem lk_RX10_155 : Cond.methodLink RX10 155 yX0_between ∈ tb := tb_in (List.mem_of_getElem? (i := 583) (by decide +kernel)) rfl
theorem lk_RX10_160 : Cond.methodLink RX10 160 yX0_within ∈ tb := tb_in (List.mem_of_getElem? (i := 587) (by decide +kernel)) rfl
theorem lk_RX10_163 : Cond.methodLink RX10 163 yX0_like ∈ tb := tb_in (List.mem_of_getElem? (i := 591) (by decide +kernel)) rfl
theorem lk_RX10_167 : Cond.methodLink RX10 167 yX2_has ∈ tb := tb_in (List.mem_of_getElem? (i := 599) (by decide +kernel)) rfl
theorem lk_RX10_198 : Cond.methodLink RX10 198 yX10_refuseGiven ∈ tb := tb_in (List.mem_of_getElem? (i := 607) (by decide +kernel)) rfl
theorem lk_RX10_201 : Cond.methodLink RX10 201 yX10_endOfSoonest ∈ tb := tb_in (List.mem_of_getElem? (i := 611) (by decide +kernel)) rfl
theorem lk_RX10_205 : Cond.methodLink RX10 205 yX10_refuseTelling ∈ tb := tb_in (List.mem_of_getElem? (i := 695) (by decide +kernel)) rfl
theorem lk_RX10_208 : Cond.methodLink RX10 208 yX6_findSoonest ∈ tb := tb_in (List.mem_of_getElem? (i := 615) (by decide +kernel)) rfl
theorem lk_RX10_216 : Cond.methodLink RX10 216 yX9_tell ∈ tb := tb_in (List.mem_of_getElem? (i := 699) (by decide +kernel)) rfl
theorem lk_RX10_222 : Cond.methodLink RX10 222 yX10_giveIf ∈ tb := tb_in (List.mem_of_getElem? (i := 708) (by decide +kernel)) rfl
theorem lk_RX10_226 : Cond.methodLink RX10 226 yX3_findQuietest ∈ tb := tb_in (List.mem_of_getElem? (i := 715) (by decide +kernel)) rfl
theorem lk_RX10_229 : Cond.methodLink RX10 229 yX10_refuseNotGiven ∈ tb := tb_in (List.mem_of_getElem? (i := 764) (by decide +kernel)) rfl
theorem lk_RX10_235 : Cond.methodLink RX10 235 yX9_cellAt ∈ tb := tb_in (List.mem_of_getElem? (i := 772) (by decide +kernel)) rfl
theorem lk_RX10_238 : Cond.methodLink RX10 238 yX6_wouldMeet ∈ tb := tb_in (List.mem_of_getElem? (i := 777) (by decide +kernel)) rfl
theorem lk_RX10_242 : Cond.methodLink RX10 242 yX1_find ∈ tb := tb_in (List.mem_of_getElem? (i := 786) (by decide +kernel)) rfl
theorem lk_RX10_246 : Cond.methodLink RX10 246 yX1_number ∈ tb := tb_in (List.mem_of_getElem? (i := 825) (by decide +kernel)) rfl
theorem lk_RX10_249 : Cond.methodLink RX10 249 yX10_refuseSet ∈ tb := tb_in (List.mem_of_getElem? (i := 834) (by decide +kernel)) rfl
theorem lk_RX10_252 : Cond.methodLink RX10 252 yX4_findBest ∈ tb := tb_in (List.mem_of_getElem? (i := 840) (by decide +kernel)) rfl
theorem lk_RX10_259 : Cond.methodLink RX10 259 yX4_number ∈ tb := tb_in (List.mem_of_getElem? (i := 867) (by decide +kernel)) rfl
theorem lk_RX10_260 : Cond.methodLink RX10 260 yX4_carryOut ∈ tb := tb_in (List.mem_of_getElem? (i := 876) (by decide +kernel)) rfl
theorem lk_RX10_264 : Cond.methodLink RX10 264 yX7_see ∈ tb := tb_in (List.mem_of_getElem? (i := 884) (by decide +kernel)) rfl
theorem lk_RX10_267 : Cond.methodLink RX10 267 yX7_spread ∈ tb := tb_in (List.mem_of_getElem? (i := 892) (by decide +kernel)) rfl
theorem lk_RX10_273 : Cond.methodLink RX10 273 yJ13_bitCount_95d88 ∈ tb := tb_in (List.mem_of_getElem? (i := 902) (by decide +kernel)) rfl
theorem lk_RX10_279 : Cond.methodLink RX10 279 yX7_countTouched ∈ tb := tb_in (List.mem_of_getElem? (i := 916) (by decide +kernel)) rfl
theorem lk_RX10_282 : Cond.methodLink RX10 282 yX7_touched ∈ tb := tb_in (List.mem_of_getElem? (i := 936) (by decide +kernel)) rfl
theorem lk_RX10_285 : Cond.methodLink RX10 285 yX7_firstTouch ∈ tb := tb_in (List.mem_of_getElem? (i := 944) (by decide +kernel)) rfl
theorem lk_RX10_289 : Cond.methodLink RX10 289 yX5_listen ∈ tb := tb_in (List.mem_of_getElem? (i := 949) (by decide +kernel)) rfl
theorem lk_RX10_292 : Cond.methodLink RX10 292 yX5_heardIn ∈ tb := tb_in (List.mem_of_getElem? (i := 957) (by decide +kernel)) rfl
theorem lk_RX10_295 : Cond.methodLink RX10 295 yX5_loudestCell ∈ tb := tb_in (List.mem_of_getElem? (i := 970) (by decide +kernel)) rfl
theorem lk_RX10_298 : Cond.methodLink RX10 298 yX3_growth ∈ tb := tb_in (List.mem_of_getElem? (i := 979) (by decide +kernel)) rfl
theorem lk_RX10_301 : Cond.methodLink RX10 301 yX2_countGiven ∈ tb := tb_in (List.mem_of_getElem? (i := 995) (by decide +kernel)) rfl
theorem lk_RX10_304 : Cond.methodLink RX10 304 yX2_minutesGiven ∈ tb := tb_in (List.mem_of_getElem? (i := 1001) (by decide +kernel)) rfl
theorem lk_RX10_307 : Cond.methodLink RX10 307 yJ6_bitCount_0f7a4 ∈ tb := tb_in (List.mem_of_getElem? (i := 838) (by decide +kernel)) rfl
theorem lk_RX10_311 : Cond.methodLink RX10 311 yX2_givenOnes ∈ tb := tb_in (List.mem_of_getElem? (i := 839) (by decide +kernel)) rfl
theorem lk_RX1_31 : Cond.methodLink RX1 31 yX2_givenOnes ∈ tb := tb_in (List.mem_of_getElem? (i := 790) (by decide +kernel)) rfl
theorem lk_RX1_37 : Cond.methodLink RX1 37 yX6_hasWayWithout ∈ tb := tb_in (List.mem_of_getElem? (i := 794) (by decide +kernel)) rfl
theorem lk_RX1_43 : Cond.methodLink RX1 43 yX1_listGiven ∈ tb := tb_in (List.mem_of_getElem? (i := 798) (by decide +kernel)) rfl
theorem lk_RX1_47 : Cond.methodLink RX1 47 yX1_firstOfSize ∈ tb := tb_in (List.mem_of_getElem? (i := 803) (by decide +kernel)) rfl
theorem lk_RX1_51 : Cond.methodLink RX1 51 yX1_keep ∈ tb := tb_in (List.mem_of_getElem? (i := 817) (by decide +kernel)) rfl
theorem lk_RX1_59 : Cond.methodLink RX1 59 yJ6_bitCount_0f7a4 ∈ tb := tb_in (List.mem_of_getElem? (i := 807) (by decide +kernel)) rfl
theorem lk_RX1_64 : Cond.methodLink RX1 64 yX1_decoded ∈ tb := tb_in (List.mem_of_getElem? (i := 813) (by decide +kernel)) rfl
theorem lk_RX2_22 : Cond.methodLink RX2 22 yJ9_min_7cf53 ∈ tb := tb_in (List.mem_of_getElem? (i := 582) (by decide +kernel)) rfl
theorem lk_RX2_32 : Cond.methodLink RX2 32 yX2_givenOnes ∈ tb := tb_in (List.mem_of_getElem? (i := 999) (by decide +kernel)) rfl
theorem lk_RX2_36 : Cond.methodLink RX2 36 yJ6_bitCount_0f7a4 ∈ tb := tb_in (List.mem_of_getElem? (i := 1000) (by decide +kernel)) rfl
theorem lk_RX2_46 : Cond.methodLink RX2 46 yX9_length ∈ tb := tb_in (List.mem_of_getElem? (i := 1005) (by decide +kernel)) rfl
theorem lk_RX3_41 : Cond.methodLink RX3 41 yX6_clearFor ∈ tb := tb_in (List.mem_of_getElem? (i := 719) (by decide +kernel)) rfl
theorem lk_RX3_52 : Cond.methodLink RX3 52 yX5_heardFrom ∈ tb := tb_in (List.mem_of_getElem? (i := 720) (by decide +kernel)) rfl
theorem lk_RX3_65 : Cond.methodLink RX3 65 yX3_lookBack ∈ tb := tb_in (List.mem_of_getElem? (i := 730) (by decide +kernel)) rfl
theorem lk_RX3_68 : Cond.methodLink RX3 68 yX3_follow ∈ tb := tb_in (List.mem_of_getElem? (i := 750) (by decide +kernel)) rfl
theorem lk_RX3_75 : Cond.methodLink RX3 75 yX3_beginAt ∈ tb := tb_in (List.mem_of_getElem? (i := 734) (by decide +kernel)) rfl
theorem lk_RX3_82 : Cond.methodLink RX3 82 yJ9_max_7cf53 ∈ tb := tb_in (List.mem_of_getElem? (i := 739) (by decide +kernel)) rfl
theorem lk_RX3_88 : Cond.methodLink RX3 88 yX3_stepBack ∈ tb := tb_in (List.mem_of_getElem? (i := 740) (by decide +kernel)) rfl
theorem lk_RX3_109 : Cond.methodLink RX3 109 yX3_leastNext ∈ tb := tb_in (List.mem_of_getElem? (i := 744) (by decide +kernel)) rfl
theorem lk_RX3_113 : Cond.methodLink RX3 113 yX8_stepFrom ∈ tb := tb_in (List.mem_of_getElem? (i := 748) (by decide +kernel)) rfl
theorem lk_RX3_116 : Cond.methodLink RX3 116 yX6_isAllowed ∈ tb := tb_in (List.mem_of_getElem? (i := 749) (by decide +kernel)) rfl
theorem lk_RX3_123 : Cond.methodLink RX3 123 yX9_begin ∈ tb := tb_in (List.mem_of_getElem? (i := 754) (by decide +kernel)) rfl
theorem lk_RX3_129 : Cond.methodLink RX3 129 yX3_firstStep ∈ tb := tb_in (List.mem_of_getElem? (i := 755) (by decide +kernel)) rfl
theorem lk_RX3_132 : Cond.methodLink RX3 132 yX9_goOn ∈ tb := tb_in (List.mem_of_getElem? (i := 759) (by decide +kernel)) rfl
theorem lk_RX4_34 : Cond.methodLink RX4 34 yJ6_bitCount_0f7a4 ∈ tb := tb_in (List.mem_of_getElem? (i := 844) (by decide +kernel)) rfl
theorem lk_RX4_51 : Cond.methodLink RX4 51 yX4_giveNext ∈ tb := tb_in (List.mem_of_getElem? (i := 847) (by decide +kernel)) rfl
theorem lk_RX4_64 : Cond.methodLink RX4 64 yX4_tryFrom ∈ tb := tb_in (List.mem_of_getElem? (i := 852) (by decide +kernel)) rfl
theorem lk_RX4_68 : Cond.methodLink RX4 68 yX4_leastCost ∈ tb := tb_in (List.mem_of_getElem? (i := 855) (by decide +kernel)) rfl
theorem lk_RX4_72 : Cond.methodLink RX4 72 yX4_keep ∈ tb := tb_in (List.mem_of_getElem? (i := 859) (by decide +kernel)) rfl
theorem lk_RX4_76 : Cond.methodLink RX4 76 yX6_findSoonest ∈ tb := tb_in (List.mem_of_getElem? (i := 851) (by decide +kernel)) rfl
theorem lk_RX5_23 : Cond.methodLink RX5 23 yX8_apart ∈ tb := tb_in (List.mem_of_getElem? (i := 728) (by decide +kernel)) rfl
theorem lk_RX5_39 : Cond.methodLink RX5 39 yX5_sound ∈ tb := tb_in (List.mem_of_getElem? (i := 724) (by decide +kernel)) rfl
theorem lk_RX5_61 : Cond.methodLink RX5 61 yX5_soundOf ∈ tb := tb_in (List.mem_of_getElem? (i := 961) (by decide +kernel)) rfl
theorem lk_RX5_76 : Cond.methodLink RX5 76 yX9_cellAt ∈ tb := tb_in (List.mem_of_getElem? (i := 965) (by decide +kernel)) rfl
theorem lk_RX5_80 : Cond.methodLink RX5 80 yX5_heardIn ∈ tb := tb_in (List.mem_of_getElem? (i := 974) (by decide +kernel)) rfl
theorem lk_RX6_37 : Cond.methodLink RX6 37 yJ9_min_7cf53 ∈ tb := tb_in (List.mem_of_getElem? (i := 631) (by decide +kernel)) rfl
theorem lk_RX6_46 : Cond.methodLink RX6 46 yJ9_max_7cf53 ∈ tb := tb_in (List.mem_of_getElem? (i := 623) (by decide +kernel)) rfl
theorem lk_RX6_49 : Cond.methodLink RX6 49 yX9_cellAt ∈ tb := tb_in (List.mem_of_getElem? (i := 632) (by decide +kernel)) rfl
theorem lk_RX6_53 : Cond.methodLink RX6 53 yX8_apart ∈ tb := tb_in (List.mem_of_getElem? (i := 781) (by decide +kernel)) rfl
theorem lk_RX6_90 : Cond.methodLink RX6 90 yX6_keepApart ∈ tb := tb_in (List.mem_of_getElem? (i := 627) (by decide +kernel)) rfl
theorem lk_RX6_94 : Cond.methodLink RX6 94 yX8_hasCell ∈ tb := tb_in (List.mem_of_getElem? (i := 636) (by decide +kernel)) rfl
theorem lk_RX6_103 : Cond.methodLink RX6 103 yX9_stepAt ∈ tb := tb_in (List.mem_of_getElem? (i := 638) (by decide +kernel)) rfl
theorem lk_RX6_106 : Cond.methodLink RX6 106 yX6_against ∈ tb := tb_in (List.mem_of_getElem? (i := 642) (by decide +kernel)) rfl
theorem lk_RX6_119 : Cond.methodLink RX6 119 yX6_clearFor ∈ tb := tb_in (List.mem_of_getElem? (i := 619) (by decide +kernel)) rfl
theorem lk_RX6_123 : Cond.methodLink RX6 123 yX6_findEnd ∈ tb := tb_in (List.mem_of_getElem? (i := 645) (by decide +kernel)) rfl
theorem lk_RX6_127 : Cond.methodLink RX6 127 yX6_follow ∈ tb := tb_in (List.mem_of_getElem? (i := 662) (by decide +kernel)) rfl
theorem lk_RX6_131 : Cond.methodLink RX6 131 yX6_ahead ∈ tb := tb_in (List.mem_of_getElem? (i := 649) (by decide +kernel)) rfl
theorem lk_RX6_142 : Cond.methodLink RX6 142 yX6_findStart ∈ tb := tb_in (List.mem_of_getElem? (i := 654) (by decide +kernel)) rfl
theorem lk_RX6_152 : Cond.methodLink RX6 152 yX6_behind ∈ tb := tb_in (List.mem_of_getElem? (i := 658) (by decide +kernel)) rfl
theorem lk_RX6_157 : Cond.methodLink RX6 157 yX9_begin ∈ tb := tb_in (List.mem_of_getElem? (i := 666) (by decide +kernel)) rfl
theorem lk_RX6_161 : Cond.methodLink RX6 161 yX6_firstStep ∈ tb := tb_in (List.mem_of_getElem? (i := 670) (by decide +kernel)) rfl
theorem lk_RX6_164 : Cond.methodLink RX6 164 yX8_stepFrom ∈ tb := tb_in (List.mem_of_getElem? (i := 674) (by decide +kernel)) rfl
theorem lk_RX6_167 : Cond.methodLink RX6 167 yX9_goOn ∈ tb := tb_in (List.mem_of_getElem? (i := 682) (by decide +kernel)) rfl
theorem lk_RX6_170 : Cond.methodLink RX6 170 yX6_isAllowed ∈ tb := tb_in (List.mem_of_getElem? (i := 678) (by decide +kernel)) rfl
theorem lk_RX7_37 : Cond.methodLink RX7 37 yX7_spreadInto ∈ tb := tb_in (List.mem_of_getElem? (i := 896) (by decide +kernel)) rfl
theorem lk_RX7_41 : Cond.methodLink RX7 41 yX8_besideOf ∈ tb := tb_in (List.mem_of_getElem? (i := 900) (by decide +kernel)) rfl
theorem lk_RX7_57 : Cond.methodLink RX7 57 yJ9_max_7cf53 ∈ tb := tb_in (List.mem_of_getElem? (i := 928) (by decide +kernel)) rfl
theorem lk_RX7_66 : Cond.methodLink RX7 66 yX9_cellAt ∈ tb := tb_in (List.mem_of_getElem? (i := 929) (by decide +kernel)) rfl
theorem lk_RX7_90 : Cond.methodLink RX7 90 yX7_firstTouch ∈ tb := tb_in (List.mem_of_getElem? (i := 924) (by decide +kernel)) rfl
theorem lk_RX7_97 : Cond.methodLink RX7 97 yX7_touches ∈ tb := tb_in (List.mem_of_getElem? (i := 920) (by decide +kernel)) rfl
theorem lk_RX8_38 : Cond.methodLink RX8 38 yX8_lay ∈ tb := tb_in (List.mem_of_getElem? (i := 79) (by decide +kernel)) rfl
theorem lk_RX8_45 : Cond.methodLink RX8 45 yJ9_min_7cf53 ∈ tb := tb_in (List.mem_of_getElem? (i := 83) (by decide +kernel)) rfl
theorem lk_RX8_58 : Cond.methodLink RX8 58 yX8_placeCells ∈ tb := tb_in (List.mem_of_getElem? (i := 86) (by decide +kernel)) rfl
theorem lk_RX8_67 : Cond.methodLink RX8 67 yX8_refreshNear ∈ tb := tb_in (List.mem_of_getElem? (i := 90) (by decide +kernel)) rfl
theorem lk_RX8_70 : Cond.methodLink RX8 70 yX8_refreshOpen ∈ tb := tb_in (List.mem_of_getElem? (i := 109) (by decide +kernel)) rfl
theorem lk_RX8_79 : Cond.methodLink RX8 79 yX8_mark ∈ tb := tb_in (List.mem_of_getElem? (i := 522) (by decide +kernel)) rfl
theorem lk_RX8_83 : Cond.methodLink RX8 83 yJ9_max_7cf53 ∈ tb := tb_in (List.mem_of_getElem? (i := 106) (by decide +kernel)) rfl
theorem lk_RX8_86 : Cond.methodLink RX8 86 yX8_apart ∈ tb := tb_in (List.mem_of_getElem? (i := 94) (by decide +kernel)) rfl
theorem lk_RX8_89 : Cond.methodLink RX8 89 yX8_downBy ∈ tb := tb_in (List.mem_of_getElem? (i := 113) (by decide +kernel)) rfl
theorem lk_RX8_99 : Cond.methodLink RX8 99 yX8_besideOf ∈ tb := tb_in (List.mem_of_getElem? (i := 124) (by decide +kernel)) rfl
theorem lk_RX8_108 : Cond.methodLink RX8 108 yX8_hasCell ∈ tb := tb_in (List.mem_of_getElem? (i := 98) (by decide +kernel)) rfl
theorem lk_RX8_112 : Cond.methodLink RX8 112 yJ9_abs_0f7a4 ∈ tb := tb_in (List.mem_of_getElem? (i := 103) (by decide +kernel)) rfl
theorem lk_RX9_25 : Cond.methodLink RX9 25 yX9_length ∈ tb := tb_in (List.mem_of_getElem? (i := 686) (by decide +kernel)) rfl
theorem lk_RL_9 : Cond.methodLink RL 9 yX10_init ∈ tb := tb_in (List.mem_of_getElem? (i := 67) (by decide +kernel)) rfl
theorem lk_RL_12 : Cond.methodLink RL 12 yX11_init ∈ tb := tb_in (List.mem_of_getElem? (i := 1008) (by decide +kernel)) rfl
theorem lk_RL_13 : Cond.methodLink RL 13 yX10_air ∈ tb := tb_in (List.mem_of_getElem? (i := 496) (by decide +kernel)) rfl
theorem lk_RL_17 : Cond.methodLink RL 17 yX11_air ∈ tb := tb_in (List.mem_of_getElem? (i := 1115) (by decide +kernel)) rfl
theorem lk_RL_18 : Cond.methodLink RL 18 yX10_shut ∈ tb := tb_in (List.mem_of_getElem? (i := 506) (by decide +kernel)) rfl
theorem lk_RL_22 : Cond.methodLink RL 22 yX11_shut ∈ tb := tb_in (List.mem_of_getElem? (i := 1125) (by decide +kernel)) rfl
theorem lk_RL_23 : Cond.methodLink RL 23 yX10_folk ∈ tb := tb_in (List.mem_of_getElem? (i := 525) (by decide +kernel)) rfl
theorem lk_RL_26 : Cond.methodLink RL 26 yX11_folk ∈ tb := tb_in (List.mem_of_getElem? (i := 1143) (by decide +kernel)) rfl
theorem lk_RL_27 : Cond.methodLink RL 27 yX10_rule ∈ tb := tb_in (List.mem_of_getElem? (i := 533) (by decide +kernel)) rfl
theorem lk_RL_30 : Cond.methodLink RL 30 yX11_rule ∈ tb := tb_in (List.mem_of_getElem? (i := 1147) (by decide +kernel)) rfl
theorem lk_RL_31 : Cond.methodLink RL 31 yX10_down ∈ tb := tb_in (List.mem_of_getElem? (i := 545) (by decide +kernel)) rfl
theorem lk_RL_34 : Cond.methodLink RL 34 yX11_down ∈ tb := tb_in (List.mem_of_getElem? (i := 1153) (by decide +kernel)) rfl
theorem lk_RL_35 : Cond.methodLink RL 35 yX10_open ∈ tb := tb_in (List.mem_of_getElem? (i := 561) (by decide +kernel)) rfl
theorem lk_RL_38 : Cond.methodLink RL 38 yX11_open ∈ tb := tb_in (List.mem_of_getElem? (i := 1176) (by decide +kernel)) rfl
theorem lk_RL_39 : Cond.methodLink RL 39 yX10_ask ∈ tb := tb_in (List.mem_of_getElem? (i := 569) (by decide +kernel)) rfl
theorem lk_RL_43 : Cond.methodLink RL 43 yX11_ask ∈ tb := tb_in (List.mem_of_getElem? (i := 1188) (by decide +kernel)) rfl
theorem lk_RL_44 : Cond.methodLink RL 44 yX10_about ∈ tb := tb_in (List.mem_of_getElem? (i := 595) (by decide +kernel)) rfl
theorem lk_RL_47 : Cond.methodLink RL 47 yX11_about ∈ tb := tb_in (List.mem_of_getElem? (i := 1195) (by decide +kernel)) rfl
theorem lk_RL_48 : Cond.methodLink RL 48 yX10_soonest ∈ tb := tb_in (List.mem_of_getElem? (i := 603) (by decide +kernel)) rfl
theorem lk_RL_52 : Cond.methodLink RL 52 yX11_soonest ∈ tb := tb_in (List.mem_of_getElem? (i := 1203) (by decide +kernel)) rfl
theorem lk_RL_53 : Cond.methodLink RL 53 yX10_soonestAt ∈ tb := tb_in (List.mem_of_getElem? (i := 691) (by decide +kernel)) rfl
theorem lk_RL_56 : Cond.methodLink RL 56 yX11_soonestAt ∈ tb := tb_in (List.mem_of_getElem? (i := 1268) (by decide +kernel)) rfl
theorem lk_RL_57 : Cond.methodLink RL 57 yX10_give ∈ tb := tb_in (List.mem_of_getElem? (i := 704) (by decide +kernel)) rfl
theorem lk_RL_60 : Cond.methodLink RL 60 yX11_give ∈ tb := tb_in (List.mem_of_getElem? (i := 1276) (by decide +kernel)) rfl
theorem lk_RL_61 : Cond.methodLink RL 61 yX10_giveQuiet ∈ tb := tb_in (List.mem_of_getElem? (i := 711) (by decide +kernel)) rfl
theorem lk_RL_64 : Cond.methodLink RL 64 yX11_giveQuiet ∈ tb := tb_in (List.mem_of_getElem? (i := 1434) (by decide +kernel)) rfl
theorem lk_RL_65 : Cond.methodLink RL 65 yX10_take ∈ tb := tb_in (List.mem_of_getElem? (i := 760) (by decide +kernel)) rfl
theorem lk_RL_68 : Cond.methodLink RL 68 yX11_take ∈ tb := tb_in (List.mem_of_getElem? (i := 1284) (by decide +kernel)) rfl
theorem lk_RL_69 : Cond.methodLink RL 69 yX10_where ∈ tb := tb_in (List.mem_of_getElem? (i := 768) (by decide +kernel)) rfl
theorem lk_RL_72 : Cond.methodLink RL 72 yX11_where ∈ tb := tb_in (List.mem_of_getElem? (i := 1288) (by decide +kernel)) rfl
theorem lk_RL_73 : Cond.methodLink RL 73 yX10_meet ∈ tb := tb_in (List.mem_of_getElem? (i := 773) (by decide +kernel)) rfl
theorem lk_RL_76 : Cond.methodLink RL 76 yX11_meet ∈ tb := tb_in (List.mem_of_getElem? (i := 1296) (by decide +kernel)) rfl
theorem lk_RL_77 : Cond.methodLink RL 77 yX10_bars ∈ tb := tb_in (List.mem_of_getElem? (i := 782) (by decide +kernel)) rfl
theorem lk_RL_80 : Cond.methodLink RL 80 yX11_bars ∈ tb := tb_in (List.mem_of_getElem? (i := 1300) (by decide +kernel)) rfl
theorem lk_RL_81 : Cond.methodLink RL 81 yX10_bar ∈ tb := tb_in (List.mem_of_getElem? (i := 821) (by decide +kernel)) rfl
theorem lk_RL_84 : Cond.methodLink RL 84 yX11_bar ∈ tb := tb_in (List.mem_of_getElem? (i := 1318) (by decide +kernel)) rfl
theorem lk_RL_85 : Cond.methodLink RL 85 yX10_atOnce ∈ tb := tb_in (List.mem_of_getElem? (i := 830) (by decide +kernel)) rfl
theorem lk_RL_88 : Cond.methodLink RL 88 yX11_atOnce ∈ tb := tb_in (List.mem_of_getElem? (i := 1325) (by decide +kernel)) rfl
theorem lk_RL_89 : Cond.methodLink RL 89 yX10_order ∈ tb := tb_in (List.mem_of_getElem? (i := 863) (by decide +kernel)) rfl
theorem lk_RL_92 : Cond.methodLink RL 92 yX11_order ∈ tb := tb_in (List.mem_of_getElem? (i := 1349) (by decide +kernel)) rfl
theorem lk_RL_93 : Cond.methodLink RL 93 yX10_giveAll ∈ tb := tb_in (List.mem_of_getElem? (i := 872) (by decide +kernel)) rfl
theorem lk_RL_96 : Cond.methodLink RL 96 yX11_giveAll ∈ tb := tb_in (List.mem_of_getElem? (i := 1353) (by decide +kernel)) rfl
theorem lk_RL_97 : Cond.methodLink RL 97 yX10_silent ∈ tb := tb_in (List.mem_of_getElem? (i := 880) (by decide +kernel)) rfl
theorem lk_RL_100 : Cond.methodLink RL 100 yX11_silent ∈ tb := tb_in (List.mem_of_getElem? (i := 1357) (by decide +kernel)) rfl
theorem lk_RL_101 : Cond.methodLink RL 101 yX10_could ∈ tb := tb_in (List.mem_of_getElem? (i := 888) (by decide +kernel)) rfl
theorem lk_RL_104 : Cond.methodLink RL 104 yX11_could ∈ tb := tb_in (List.mem_of_getElem? (i := 1361) (by decide +kernel)) rfl
theorem lk_RL_105 : Cond.methodLink RL 105 yX10_couldBe ∈ tb := tb_in (List.mem_of_getElem? (i := 908) (by decide +kernel)) rfl
theorem lk_RL_108 : Cond.methodLink RL 108 yX11_couldBe ∈ tb := tb_in (List.mem_of_getElem? (i := 1377) (by decide +kernel)) rfl
theorem lk_RL_109 : Cond.methodLink RL 109 yX10_ledOff ∈ tb := tb_in (List.mem_of_getElem? (i := 912) (by decide +kernel)) rfl
theorem lk_RL_113 : Cond.methodLink RL 113 yX11_ledOff ∈ tb := tb_in (List.mem_of_getElem? (i := 1381) (by decide +kernel)) rfl
theorem lk_RL_114 : Cond.methodLink RL 114 yX10_led ∈ tb := tb_in (List.mem_of_getElem? (i := 932) (by decide +kernel)) rfl
theorem lk_RL_117 : Cond.methodLink RL 117 yX11_led ∈ tb := tb_in (List.mem_of_getElem? (i := 1389) (by decide +kernel)) rfl
theorem lk_RL_118 : Cond.methodLink RL 118 yX10_ledAt ∈ tb := tb_in (List.mem_of_getElem? (i := 940) (by decide +kernel)) rfl
theorem lk_RL_121 : Cond.methodLink RL 121 yX11_ledAt ∈ tb := tb_in (List.mem_of_getElem? (i := 1393) (by decide +kernel)) rfl
theorem lk_RL_122 : Cond.methodLink RL 122 yX10_ears ∈ tb := tb_in (List.mem_of_getElem? (i := 945) (by decide +kernel)) rfl
theorem lk_RL_125 : Cond.methodLink RL 125 yX11_ears ∈ tb := tb_in (List.mem_of_getElem? (i := 1397) (by decide +kernel)) rfl
theorem lk_RL_126 : Cond.methodLink RL 126 yX10_noise ∈ tb := tb_in (List.mem_of_getElem? (i := 953) (by decide +kernel)) rfl
theorem lk_RL_129 : Cond.methodLink RL 129 yX11_noise ∈ tb := tb_in (List.mem_of_getElem? (i := 1402) (by decide +kernel)) rfl
theorem lk_RL_130 : Cond.methodLink RL 130 yX10_worst ∈ tb := tb_in (List.mem_of_getElem? (i := 966) (by decide +kernel)) rfl
theorem lk_RL_134 : Cond.methodLink RL 134 yX11_worst ∈ tb := tb_in (List.mem_of_getElem? (i := 1414) (by decide +kernel)) rfl
theorem lk_RL_135 : Cond.methodLink RL 135 yX10_quietest ∈ tb := tb_in (List.mem_of_getElem? (i := 975) (by decide +kernel)) rfl
theorem lk_RL_138 : Cond.methodLink RL 138 yX11_quietest ∈ tb := tb_in (List.mem_of_getElem? (i := 1418) (by decide +kernel)) rfl
theorem lk_RL_139 : Cond.methodLink RL 139 yX10_price ∈ tb := tb_in (List.mem_of_getElem? (i := 983) (by decide +kernel)) rfl
theorem lk_RL_142 : Cond.methodLink RL 142 yX11_price ∈ tb := tb_in (List.mem_of_getElem? (i := 1426) (by decide +kernel)) rfl
theorem lk_RL_143 : Cond.methodLink RL 143 yX10_quietAt ∈ tb := tb_in (List.mem_of_getElem? (i := 987) (by decide +kernel)) rfl
theorem lk_RL_146 : Cond.methodLink RL 146 yX11_quietAt ∈ tb := tb_in (List.mem_of_getElem? (i := 1430) (by decide +kernel)) rfl
theorem lk_RL_147 : Cond.methodLink RL 147 yX10_count ∈ tb := tb_in (List.mem_of_getElem? (i := 991) (by decide +kernel)) rfl
theorem lk_RL_150 : Cond.methodLink RL 150 yX11_count ∈ tb := tb_in (List.mem_of_getElem? (i := 1438) (by decide +kernel)) rfl
theorem lk_RX11_76 : Cond.methodLink RX11 76 yX11_layAir ∈ tb := tb_in (List.mem_of_getElem? (i := 1013) (by decide +kernel)) rfl
theorem lk_RX11_82 : Cond.methodLink RX11 82 yX11_in ∈ tb := tb_in (List.mem_of_getElem? (i := 1121) (by decide +kernel)) rfl
theorem lk_RX11_101 : Cond.methodLink RX11 101 yX11_cells ∈ tb := tb_in (List.mem_of_getElem? (i := 1133) (by decide +kernel)) rfl
theorem lk_RX11_110 : Cond.methodLink RX11 110 yX11_isCell ∈ tb := tb_in (List.mem_of_getElem? (i := 1129) (by decide +kernel)) rfl
theorem lk_RX11_115 : Cond.methodLink RX11 115 yX11_isMinute ∈ tb := tb_in (List.mem_of_getElem? (i := 1138) (by decide +kernel)) rfl
theorem lk_RX11_126 : Cond.methodLink RX11 126 yX11_size ∈ tb := tb_in (List.mem_of_getElem? (i := 1165) (by decide +kernel)) rfl
theorem lk_RX11_130 : Cond.methodLink RX11 130 yX11_along ∈ tb := tb_in (List.mem_of_getElem? (i := 1161) (by decide +kernel)) rfl
theorem lk_RX11_134 : Cond.methodLink RX11 134 yX11_aside ∈ tb := tb_in (List.mem_of_getElem? (i := 1168) (by decide +kernel)) rfl
theorem lk_RX11_137 : Cond.methodLink RX11 137 yX11_hasFolk ∈ tb := tb_in (List.mem_of_getElem? (i := 1172) (by decide +kernel)) rfl
theorem lk_RX11_141 : Cond.methodLink RX11 141 yX11_downOf ∈ tb := tb_in (List.mem_of_getElem? (i := 1157) (by decide +kernel)) rfl
theorem lk_RX11_144 : Cond.methodLink RX11 144 yX11_isShut ∈ tb := tb_in (List.mem_of_getElem? (i := 1184) (by decide +kernel)) rfl
theorem lk_RX11_147 : Cond.methodLink RX11 147 yX11_isOpen ∈ tb := tb_in (List.mem_of_getElem? (i := 1180) (by decide +kernel)) rfl
theorem lk_RX11_155 : Cond.methodLink RX11 155 yX11_isAsk ∈ tb := tb_in (List.mem_of_getElem? (i := 1199) (by decide +kernel)) rfl
theorem lk_RX11_158 : Cond.methodLink RX11 158 yX11_layNear ∈ tb := tb_in (List.mem_of_getElem? (i := 1223) (by decide +kernel)) rfl
theorem lk_RX11_161 : Cond.methodLink RX11 161 yX11_layChange ∈ tb := tb_in (List.mem_of_getElem? (i := 1227) (by decide +kernel)) rfl
theorem lk_RX11_164 : Cond.methodLink RX11 164 yX11_step ∈ tb := tb_in (List.mem_of_getElem? (i := 1231) (by decide +kernel)) rfl
theorem lk_RX11_167 : Cond.methodLink RX11 167 yX11_isFree ∈ tb := tb_in (List.mem_of_getElem? (i := 1251) (by decide +kernel)) rfl
theorem lk_RX11_171 : Cond.methodLink RX11 171 yX11_goes ∈ tb := tb_in (List.mem_of_getElem? (i := 1247) (by decide +kernel)) rfl
theorem lk_RX11_175 : Cond.methodLink RX11 175 yX11_layLatest ∈ tb := tb_in (List.mem_of_getElem? (i := 1243) (by decide +kernel)) rfl
theorem lk_RX11_185 : Cond.methodLink RX11 185 yX11_isLeast ∈ tb := tb_in (List.mem_of_getElem? (i := 1264) (by decide +kernel)) rfl
theorem lk_RX11_188 : Cond.methodLink RX11 188 yX11_layOpen ∈ tb := tb_in (List.mem_of_getElem? (i := 1215) (by decide +kernel)) rfl
theorem lk_RX11_191 : Cond.methodLink RX11 191 yX11_layBits ∈ tb := tb_in (List.mem_of_getElem? (i := 1219) (by decide +kernel)) rfl
theorem lk_RX11_194 : Cond.methodLink RX11 194 yX11_hasWay ∈ tb := tb_in (List.mem_of_getElem? (i := 1239) (by decide +kernel)) rfl
theorem lk_RX11_197 : Cond.methodLink RX11 197 yX11_layRest ∈ tb := tb_in (List.mem_of_getElem? (i := 1255) (by decide +kernel)) rfl
theorem lk_RX11_201 : Cond.methodLink RX11 201 yX11_laySteps ∈ tb := tb_in (List.mem_of_getElem? (i := 1260) (by decide +kernel)) rfl
theorem lk_RX11_205 : Cond.methodLink RX11 205 yX11_mayAsk ∈ tb := tb_in (List.mem_of_getElem? (i := 1207) (by decide +kernel)) rfl
theorem lk_RX11_208 : Cond.methodLink RX11 208 yX11_layAll ∈ tb := tb_in (List.mem_of_getElem? (i := 1211) (by decide +kernel)) rfl
theorem lk_RX11_211 : Cond.methodLink RX11 211 yX11_laySoonest ∈ tb := tb_in (List.mem_of_getElem? (i := 1235) (by decide +kernel)) rfl
theorem lk_RX11_214 : Cond.methodLink RX11 214 yX11_told ∈ tb := tb_in (List.mem_of_getElem? (i := 1272) (by decide +kernel)) rfl
theorem lk_RX11_217 : Cond.methodLink RX11 217 yX11_keep ∈ tb := tb_in (List.mem_of_getElem? (i := 1280) (by decide +kernel)) rfl
theorem lk_RX11_220 : Cond.methodLink RX11 220 yX11_cellAt ∈ tb := tb_in (List.mem_of_getElem? (i := 1292) (by decide +kernel)) rfl
theorem lk_RX11_223 : Cond.methodLink RX11 223 yX11_givenSet ∈ tb := tb_in (List.mem_of_getElem? (i := 1308) (by decide +kernel)) rfl
theorem lk_RX11_226 : Cond.methodLink RX11 226 yX11_ones ∈ tb := tb_in (List.mem_of_getElem? (i := 1312) (by decide +kernel)) rfl
theorem lk_RX11_229 : Cond.methodLink RX11 229 yX11_isFirst ∈ tb := tb_in (List.mem_of_getElem? (i := 1315) (by decide +kernel)) rfl
theorem lk_RX11_232 : Cond.methodLink RX11 232 yX11_barSet ∈ tb := tb_in (List.mem_of_getElem? (i := 1304) (by decide +kernel)) rfl
theorem lk_RX11_235 : Cond.methodLink RX11 235 yX11_nth ∈ tb := tb_in (List.mem_of_getElem? (i := 1322) (by decide +kernel)) rfl
theorem lk_RX11_241 : Cond.methodLink RX11 241 yX11_layRow ∈ tb := tb_in (List.mem_of_getElem? (i := 1337) (by decide +kernel)) rfl
theorem lk_RX11_244 : Cond.methodLink RX11 244 yX11_goRow ∈ tb := tb_in (List.mem_of_getElem? (i := 1341) (by decide +kernel)) rfl
theorem lk_RX11_247 : Cond.methodLink RX11 247 yX11_takeRow ∈ tb := tb_in (List.mem_of_getElem? (i := 1345) (by decide +kernel)) rfl
theorem lk_RX11_250 : Cond.methodLink RX11 250 yX11_maySet ∈ tb := tb_in (List.mem_of_getElem? (i := 1329) (by decide +kernel)) rfl
theorem lk_RX11_253 : Cond.methodLink RX11 253 yX11_layOrders ∈ tb := tb_in (List.mem_of_getElem? (i := 1333) (by decide +kernel)) rfl
theorem lk_RX11_262 : Cond.methodLink RX11 262 yX11_isSeenBy ∈ tb := tb_in (List.mem_of_getElem? (i := 1369) (by decide +kernel)) rfl
theorem lk_RX11_265 : Cond.methodLink RX11 265 yX11_spread ∈ tb := tb_in (List.mem_of_getElem? (i := 1373) (by decide +kernel)) rfl
theorem lk_RX11_268 : Cond.methodLink RX11 268 yX11_layCould ∈ tb := tb_in (List.mem_of_getElem? (i := 1365) (by decide +kernel)) rfl
theorem lk_RX11_271 : Cond.methodLink RX11 271 yX11_ledOf ∈ tb := tb_in (List.mem_of_getElem? (i := 1385) (by decide +kernel)) rfl
theorem lk_RX11_276 : Cond.methodLink RX11 276 yX11_loud ∈ tb := tb_in (List.mem_of_getElem? (i := 1410) (by decide +kernel)) rfl
theorem lk_RX11_279 : Cond.methodLink RX11 279 yX11_noiseOf ∈ tb := tb_in (List.mem_of_getElem? (i := 1406) (by decide +kernel)) rfl
theorem lk_RX11_282 : Cond.methodLink RX11 282 yX11_layQuietest ∈ tb := tb_in (List.mem_of_getElem? (i := 1422) (by decide +kernel)) rfl
theorem nk_RX0_9 : (RX0, 9, yX9_init, RX10) ∈ nests := by decide +kernel
theorem nk_RX1_55 : (RX1, 55, yX10_isIn, RX10) ∈ nests := by decide +kernel
theorem nk_RX2_17 : (RX2, 17, yX0_init, RX10) ∈ nests := by decide +kernel
theorem nk_RX3_105 : (RX3, 105, yX10_holds, RX10) ∈ nests := by decide +kernel
theorem nk_RX4_47 : (RX4, 47, yX10_isIn, RX10) ∈ nests := by decide +kernel
theorem nk_RX6_82 : (RX6, 82, yX10_isIn, RX10) ∈ nests := by decide +kernel
theorem nk_RX6_138 : (RX6, 138, yX10_holds, RX10) ∈ nests := by decide +kernel
theorem nk_RX7_70 : (RX7, 70, yX10_holds, RX10) ∈ nests := by decide +kernel
theorem nk_RX8_95 : (RX8, 95, yX10_isMinute, RX10) ∈ nests := by decide +kernel
theorem nk_RX8_103 : (RX8, 103, yX10_holds, RX10) ∈ nests := by decide +kernel
theorem kc_RX10_75 : Cond.constant RX10 75 (-900002 : Int32) ∈ tb := tb_in (List.mem_of_getElem? (i := 500) (by decide +kernel)) rfl
theorem kc_RX10_141 : Cond.constant RX10 141 (-900001 : Int32) ∈ tb := tb_in (List.mem_of_getElem? (i := 515) (by decide +kernel)) rfl
theorem kc_RX10_145 : Cond.constant RX10 145 (-900003 : Int32) ∈ tb := tb_in (List.mem_of_getElem? (i := 573) (by decide +kernel)) rfl
theorem kc_RX10_150 : Cond.constant RX10 150 (-900004 : Int32) ∈ tb := tb_in (List.mem_of_getElem? (i := 517) (by decide +kernel)) rfl
theorem kc_RX10_221 : Cond.constant RX10 221 (-900009 : Int32) ∈ tb := tb_in (List.mem_of_getElem? (i := 690) (by decide +kernel)) rfl
theorem kc_RX1_30 : Cond.constant RX1 30 (-900009 : Int32) ∈ tb := tb_in (List.mem_of_getElem? (i := 829) (by decide +kernel)) rfl
theorem kc_RX3_58 : Cond.constant RX3 58 (1000000000 : Int32) ∈ tb := tb_in (List.mem_of_getElem? (i := 729) (by decide +kernel)) rfl
theorem kc_RX4_33 : Cond.constant RX4 33 (-900009 : Int32) ∈ tb := tb_in (List.mem_of_getElem? (i := 871) (by decide +kernel)) rfl
theorem kc_RX4_40 : Cond.constant RX4 40 (1000000000 : Int32) ∈ tb := tb_in (List.mem_of_getElem? (i := 845) (by decide +kernel)) rfl
theorem kc_RX7_74 : Cond.constant RX7 74 (-900009 : Int32) ∈ tb := tb_in (List.mem_of_getElem? (i := 931) (by decide +kernel)) rfl
theorem kc_RX8_107 : Cond.constant RX8 107 (-900009 : Int32) ∈ tb := tb_in (List.mem_of_getElem? (i := 560) (by decide +kernel)) rfl
theorem kc_RX8_111 : Cond.constant RX8 111 (1000000000 : Int32) ∈ tb := tb_in (List.mem_of_getElem? (i := 102) (by decide +kernel)) rfl
theorem kc_RX9_29 : Cond.constant RX9 29 (-900009 : Int32) ∈ tb := tb_in (List.mem_of_getElem? (i := 703) (by decide +kernel)) rfl
theorem kc_RX11_66 : Cond.constant RX11 66 (-900009 : Int32) ∈ tb := tb_in (List.mem_of_getElem? (i := 1012) (by decide +kernel)) rfl
theorem kc_RX11_109 : Cond.constant RX11 109 (-900002 : Int32) ∈ tb := tb_in (List.mem_of_getElem? (i := 1124) (by decide +kernel)) rfl
theorem kc_RX11_114 : Cond.constant RX11 114 (-900001 : Int32) ∈ tb := tb_in (List.mem_of_getElem? (i := 1137) (by decide +kernel)) rfl
theorem kc_RX11_118 : Cond.constant RX11 118 (-900004 : Int32) ∈ tb := tb_in (List.mem_of_getElem? (i := 1142) (by decide +kernel)) rfl
theorem kc_RX11_154 : Cond.constant RX11 154 (-900003 : Int32) ∈ tb := tb_in (List.mem_of_getElem? (i := 1194) (by decide +kernel)) rfl
theorem kc_RX11_184 : Cond.constant RX11 184 (100000000 : Int32) ∈ tb := tb_in (List.mem_of_getElem? (i := 1259) (by decide +kernel)) rfl
theorem kc_RJ6_265 : Cond.constant RJ6 265 (1431655765 : Int32) ∈ tb := tb_in (List.mem_of_getElem? (i := 810) (by decide +kernel)) rfl
theorem kc_RJ6_266 : Cond.constant RJ6 266 (858993459 : Int32) ∈ tb := tb_in (List.mem_of_getElem? (i := 811) (by decide +kernel)) rfl
theorem kc_RJ6_267 : Cond.constant RJ6 267 (252645135 : Int32) ∈ tb := tb_in (List.mem_of_getElem? (i := 812) (by decide +kernel)) rfl
theorem kl_RX6_101 : Cond.constantLong RX6 101 (-1 : Int64) ∈ tb := tb_in (List.mem_of_getElem? (i := 637) (by decide +kernel)) rfl
theorem kl_RX7_50 : Cond.constantLong RX7 50 (-1 : Int64) ∈ tb := tb_in (List.mem_of_getElem? (i := 901) (by decide +kernel)) rfl
theorem kl_RX8_93 : Cond.constantLong RX8 93 (-1 : Int64) ∈ tb := tb_in (List.mem_of_getElem? (i := 123) (by decide +kernel)) rfl
theorem kl_RX11_80 : Cond.constantLong RX11 80 (59 : Int64) ∈ tb := tb_in (List.mem_of_getElem? (i := 1141) (by decide +kernel)) rfl
theorem kl_RX11_105 : Cond.constantLong RX11 105 (2 : Int64) ∈ tb := tb_in (List.mem_of_getElem? (i := 1119) (by decide +kernel)) rfl
theorem kl_RX11_107 : Cond.constantLong RX11 107 (6 : Int64) ∈ tb := tb_in (List.mem_of_getElem? (i := 1120) (by decide +kernel)) rfl
theorem kl_RX11_119 : Cond.constantLong RX11 119 (4 : Int64) ∈ tb := tb_in (List.mem_of_getElem? (i := 1151) (by decide +kernel)) rfl
theorem kl_RX11_121 : Cond.constantLong RX11 121 (3 : Int64) ∈ tb := tb_in (List.mem_of_getElem? (i := 1152) (by decide +kernel)) rfl
theorem kl_RX11_150 : Cond.constantLong RX11 150 (30 : Int64) ∈ tb := tb_in (List.mem_of_getElem? (i := 1192) (by decide +kernel)) rfl
theorem kl_RX11_152 : Cond.constantLong RX11 152 (9 : Int64) ∈ tb := tb_in (List.mem_of_getElem? (i := 1193) (by decide +kernel)) rfl
theorem kl_RX11_274 : Cond.constantLong RX11 274 (99 : Int64) ∈ tb := tb_in (List.mem_of_getElem? (i := 1401) (by decide +kernel)) rfl
theorem kl_RJ13_314 : Cond.constantLong RJ13 314 (6148914691236517205 : Int64) ∈ tb := tb_in (List.mem_of_getElem? (i := 905) (by decide +kernel)) rfl
theorem kl_RJ13_316 : Cond.constantLong RJ13 316 (3689348814741910323 : Int64) ∈ tb := tb_in (List.mem_of_getElem? (i := 906) (by decide +kernel)) rfl
theorem kl_RJ13_318 : Cond.constantLong RJ13 318 (1085102592571150095 : Int64) ∈ tb := tb_in (List.mem_of_getElem? (i := 907) (by decide +kernel)) rfl
theorem kI_m1 : Int32.ofInt (-1) = (-1 : Int32) := by decide
theorem kI_0 : Int32.ofInt (0) = (0 : Int32) := by decide
theorem kI_1 : Int32.ofInt (1) = (1 : Int32) := by decide
theorem kI_2 : Int32.ofInt (2) = (2 : Int32) := by decide
theorem kI_3 : Int32.ofInt (3) = (3 : Int32) := by decide
theorem kI_4 : Int32.ofInt (4) = (4 : Int32) := by decide
theorem kI_5 : Int32.ofInt (5) = (5 : Int32) := by decide
theorem kI_8 : Int32.ofInt (8) = (8 : Int32) := by decide
theorem kB_6 : (Int8.ofInt (6)).toInt32 = (6 : Int32) := by decide
theorem kB_7 : (Int8.ofInt (7)).toInt32 = (7 : Int32) := by decide
theorem kB_8 : (Int8.ofInt (8)).toInt32 = (8 : Int32) := by decide
theorem kB_9 : (Int8.ofInt (9)).toInt32 = (9 : Int32) := by decide
theorem kB_10 : (Int8.ofInt (10)).toInt32 = (10 : Int32) := by decide
theorem kB_16 : (Int8.ofInt (16)).toInt32 = (16 : Int32) := by decide
theorem kB_20 : (Int8.ofInt (20)).toInt32 = (20 : Int32) := by decide
theorem kB_30 : (Int8.ofInt (30)).toInt32 = (30 : Int32) := by decide
theorem kB_31 : (Int8.ofInt (31)).toInt32 = (31 : Int32) := by decide
theorem kB_32 : (Int8.ofInt (32)).toInt32 = (32 : Int32) := by decide
theorem kB_36 : (Int8.ofInt (36)).toInt32 = (36 : Int32) := by decide
theorem kB_59 : (Int8.ofInt (59)).toInt32 = (59 : Int32) := by decide
theorem kB_60 : (Int8.ofInt (60)).toInt32 = (60 : Int32) := by decide
theorem kB_63 : (Int8.ofInt (63)).toInt32 = (63 : Int32) := by decide
theorem kB_80 : (Int8.ofInt (80)).toInt32 = (80 : Int32) := by decide
theorem kB_99 : (Int8.ofInt (99)).toInt32 = (99 : Int32) := by decide
theorem kB_100 : (Int8.ofInt (100)).toInt32 = (100 : Int32) := by decide
theorem kB_127 : (Int8.ofInt (127)).toInt32 = (127 : Int32) := by decide
theorem kS_600 : (Int16.ofInt (600)).toInt32 = (600 : Int32) := by decide
theorem kS_2160 : (Int16.ofInt (2160)).toInt32 = (2160 : Int32) := by decide
theorem kS_2340 : (Int16.ofInt (2340)).toInt32 = (2340 : Int32) := by decide
theorem kS_10800 : (Int16.ofInt (10800)).toInt32 = (10800 : Int32) := by decide
theorem kL_0 : Int64.ofNat ((0 : Fin 2) : Nat) = (0 : Int64) := by decide
theorem kL_1 : Int64.ofNat ((1 : Fin 2) : Nat) = (1 : Int64) := by decide
end
