section
-- ===== PART A: goes FIRST, ahead of the names: the tables' words, and 'selects' of the private methods out of them =====
/-- a private method of a class that the tables say can be made, by its rows of tables_1 -/
def lw_okq (q : MethodName × Nat) : Prop := (q.1.cls ≠ "java/lang/invoke/MethodHandle" ∧ q.1.cls ≠ "java/lang/invoke/VarHandle") ∧ Cond.instantiable q.1.cls q.2 ∈ tables_1 ∧ Cond.privateMethod q.1 ∈ tables_1 ∧ Cond.instanceMethod q.1 ∈ tables_1
theorem lw_p0 : lw_okq (⟨"StandingLine", "tryDays", "()I"⟩, 10) := ⟨⟨by decide +kernel, by decide +kernel⟩, List.mem_of_getElem? (i := 18) (by decide +kernel), List.mem_of_getElem? (i := 395) (by decide +kernel), List.mem_of_getElem? (i := 396) (by decide +kernel)⟩
theorem lw_p1 : lw_okq (⟨"StandingLine", "tellPerson", "(II)I"⟩, 10) := ⟨⟨by decide +kernel, by decide +kernel⟩, List.mem_of_getElem? (i := 18) (by decide +kernel), List.mem_of_getElem? (i := 776) (by decide +kernel), List.mem_of_getElem? (i := 777) (by decide +kernel)⟩
theorem lw_p2 : lw_okq (⟨"StandingLine", "tellVillage", "(I)I"⟩, 10) := ⟨⟨by decide +kernel, by decide +kernel⟩, List.mem_of_getElem? (i := 18) (by decide +kernel), List.mem_of_getElem? (i := 780) (by decide +kernel), List.mem_of_getElem? (i := 781) (by decide +kernel)⟩
theorem lw_p3 : lw_okq (⟨"StandingLineModel", "placeOf", "(I)I"⟩, 43) := ⟨⟨by decide +kernel, by decide +kernel⟩, List.mem_of_getElem? (i := 785) (by decide +kernel), List.mem_of_getElem? (i := 938) (by decide +kernel), List.mem_of_getElem? (i := 939) (by decide +kernel)⟩
theorem lw_p4 : lw_okq (⟨"StandingLineModel", "whoAt", "(II)I"⟩, 43) := ⟨⟨by decide +kernel, by decide +kernel⟩, List.mem_of_getElem? (i := 785) (by decide +kernel), List.mem_of_getElem? (i := 942) (by decide +kernel), List.mem_of_getElem? (i := 943) (by decide +kernel)⟩
theorem lw_p5 : lw_okq (⟨"StandingLineModel", "drop", "(I)V"⟩, 43) := ⟨⟨by decide +kernel, by decide +kernel⟩, List.mem_of_getElem? (i := 785) (by decide +kernel), List.mem_of_getElem? (i := 950) (by decide +kernel), List.mem_of_getElem? (i := 951) (by decide +kernel)⟩
theorem lw_p6 : lw_okq (⟨"StandingLineModel", "readOn", "(II)I"⟩, 43) := ⟨⟨by decide +kernel, by decide +kernel⟩, List.mem_of_getElem? (i := 785) (by decide +kernel), List.mem_of_getElem? (i := 985) (by decide +kernel), List.mem_of_getElem? (i := 986) (by decide +kernel)⟩
theorem lw_p7 : lw_okq (⟨"StandingLineModel", "begin", "(I)I"⟩, 43) := ⟨⟨by decide +kernel, by decide +kernel⟩, List.mem_of_getElem? (i := 785) (by decide +kernel), List.mem_of_getElem? (i := 989) (by decide +kernel), List.mem_of_getElem? (i := 990) (by decide +kernel)⟩
theorem lw_p8 : lw_okq (⟨"StandingLineModel", "close", "(III)I"⟩, 43) := ⟨⟨by decide +kernel, by decide +kernel⟩, List.mem_of_getElem? (i := 785) (by decide +kernel), List.mem_of_getElem? (i := 998) (by decide +kernel), List.mem_of_getElem? (i := 999) (by decide +kernel)⟩
theorem lw_p9 : lw_okq (⟨"StandingLineModel", "deed", "(I)I"⟩, 43) := ⟨⟨by decide +kernel, by decide +kernel⟩, List.mem_of_getElem? (i := 785) (by decide +kernel), List.mem_of_getElem? (i := 1002) (by decide +kernel), List.mem_of_getElem? (i := 1003) (by decide +kernel)⟩
theorem lw_p10 : lw_okq (⟨"StandingLineModel", "refusal", "()I"⟩, 43) := ⟨⟨by decide +kernel, by decide +kernel⟩, List.mem_of_getElem? (i := 785) (by decide +kernel), List.mem_of_getElem? (i := 1012) (by decide +kernel), List.mem_of_getElem? (i := 1013) (by decide +kernel)⟩
theorem lw_p11 : lw_okq (⟨"StandingLineModel", "keepNow", "()V"⟩, 43) := ⟨⟨by decide +kernel, by decide +kernel⟩, List.mem_of_getElem? (i := 785) (by decide +kernel), List.mem_of_getElem? (i := 1016) (by decide +kernel), List.mem_of_getElem? (i := 1017) (by decide +kernel)⟩
theorem lw_p12 : lw_okq (⟨"StandingLineModel", "goDays", "()V"⟩, 43) := ⟨⟨by decide +kernel, by decide +kernel⟩, List.mem_of_getElem? (i := 785) (by decide +kernel), List.mem_of_getElem? (i := 1021) (by decide +kernel), List.mem_of_getElem? (i := 1022) (by decide +kernel)⟩
theorem lw_p13 : lw_okq (⟨"StandingLineModel", "whyNot", "(IIII)I"⟩, 43) := ⟨⟨by decide +kernel, by decide +kernel⟩, List.mem_of_getElem? (i := 785) (by decide +kernel), List.mem_of_getElem? (i := 1025) (by decide +kernel), List.mem_of_getElem? (i := 1026) (by decide +kernel)⟩
theorem lw_p14 : lw_okq (⟨"StandingLineModel", "whyNotWalk", "(III)I"⟩, 43) := ⟨⟨by decide +kernel, by decide +kernel⟩, List.mem_of_getElem? (i := 785) (by decide +kernel), List.mem_of_getElem? (i := 1029) (by decide +kernel), List.mem_of_getElem? (i := 1030) (by decide +kernel)⟩
theorem lw_p15 : lw_okq (⟨"StandingLineModel", "happen", "(IIII)V"⟩, 43) := ⟨⟨by decide +kernel, by decide +kernel⟩, List.mem_of_getElem? (i := 785) (by decide +kernel), List.mem_of_getElem? (i := 1039) (by decide +kernel), List.mem_of_getElem? (i := 1040) (by decide +kernel)⟩
def lw_privs_1 : List (MethodName × Nat) := [(⟨"StandingLine", "tryDays", "()I"⟩, 10), (⟨"StandingLine", "tellPerson", "(II)I"⟩, 10), (⟨"StandingLine", "tellVillage", "(I)I"⟩, 10), (⟨"StandingLineModel", "placeOf", "(I)I"⟩, 43), (⟨"StandingLineModel", "whoAt", "(II)I"⟩, 43), (⟨"StandingLineModel", "drop", "(I)V"⟩, 43), (⟨"StandingLineModel", "readOn", "(II)I"⟩, 43), (⟨"StandingLineModel", "begin", "(I)I"⟩, 43), (⟨"StandingLineModel", "close", "(III)I"⟩, 43), (⟨"StandingLineModel", "deed", "(I)I"⟩, 43), (⟨"StandingLineModel", "refusal", "()I"⟩, 43), (⟨"StandingLineModel", "keepNow", "()V"⟩, 43), (⟨"StandingLineModel", "goDays", "()V"⟩, 43), (⟨"StandingLineModel", "whyNot", "(IIII)I"⟩, 43), (⟨"StandingLineModel", "whyNotWalk", "(III)I"⟩, 43), (⟨"StandingLineModel", "happen", "(IIII)V"⟩, 43)]
theorem lw_r1 : ∀ q ∈ lw_privs_1, lw_okq q := List.forall_mem_cons.mpr ⟨lw_p0, List.forall_mem_cons.mpr ⟨lw_p1, List.forall_mem_cons.mpr ⟨lw_p2, List.forall_mem_cons.mpr ⟨lw_p3, List.forall_mem_cons.mpr ⟨lw_p4, List.forall_mem_cons.mpr ⟨lw_p5, List.forall_mem_cons.mpr ⟨lw_p6, List.forall_mem_cons.mpr ⟨lw_p7, List.forall_mem_cons.mpr ⟨lw_p8, List.forall_mem_cons.mpr ⟨lw_p9, List.forall_mem_cons.mpr ⟨lw_p10, List.forall_mem_cons.mpr ⟨lw_p11, List.forall_mem_cons.mpr ⟨lw_p12, List.forall_mem_cons.mpr ⟨lw_p13, List.forall_mem_cons.mpr ⟨lw_p14, List.forall_mem_cons.mpr ⟨lw_p15, fun _ h => absurd h List.not_mem_nil⟩⟩⟩⟩⟩⟩⟩⟩⟩⟩⟩⟩⟩⟩⟩⟩
theorem lw_p16 : lw_okq (⟨"StandingLineModel", "walk", "(III)V"⟩, 43) := ⟨⟨by decide +kernel, by decide +kernel⟩, List.mem_of_getElem? (i := 785) (by decide +kernel), List.mem_of_getElem? (i := 1043) (by decide +kernel), List.mem_of_getElem? (i := 1044) (by decide +kernel)⟩
theorem lw_p17 : lw_okq (⟨"StandingLineModel", "inherit", "(II)V"⟩, 43) := ⟨⟨by decide +kernel, by decide +kernel⟩, List.mem_of_getElem? (i := 785) (by decide +kernel), List.mem_of_getElem? (i := 1047) (by decide +kernel), List.mem_of_getElem? (i := 1048) (by decide +kernel)⟩
theorem lw_p18 : lw_okq (⟨"StandingLineModel", "back", "(I)I"⟩, 43) := ⟨⟨by decide +kernel, by decide +kernel⟩, List.mem_of_getElem? (i := 785) (by decide +kernel), List.mem_of_getElem? (i := 1051) (by decide +kernel), List.mem_of_getElem? (i := 1052) (by decide +kernel)⟩
theorem lw_p19 : lw_okq (⟨"StandingLineModel", "ofPerson", "(II)I"⟩, 43) := ⟨⟨by decide +kernel, by decide +kernel⟩, List.mem_of_getElem? (i := 785) (by decide +kernel), List.mem_of_getElem? (i := 1060) (by decide +kernel), List.mem_of_getElem? (i := 1061) (by decide +kernel)⟩
theorem lw_p20 : lw_okq (⟨"StandingLineModel", "layLine", "()V"⟩, 43) := ⟨⟨by decide +kernel, by decide +kernel⟩, List.mem_of_getElem? (i := 785) (by decide +kernel), List.mem_of_getElem? (i := 1068) (by decide +kernel), List.mem_of_getElem? (i := 1069) (by decide +kernel)⟩
theorem lw_p21 : lw_okq (⟨"StandingLineModel", "persons", "()I"⟩, 43) := ⟨⟨by decide +kernel, by decide +kernel⟩, List.mem_of_getElem? (i := 785) (by decide +kernel), List.mem_of_getElem? (i := 1072) (by decide +kernel), List.mem_of_getElem? (i := 1073) (by decide +kernel)⟩
theorem lw_p22 : lw_okq (⟨"StandingLineModel", "layLineOf", "(I)V"⟩, 43) := ⟨⟨by decide +kernel, by decide +kernel⟩, List.mem_of_getElem? (i := 785) (by decide +kernel), List.mem_of_getElem? (i := 1076) (by decide +kernel), List.mem_of_getElem? (i := 1077) (by decide +kernel)⟩
theorem lw_p23 : lw_okq (⟨"StandingLineModel", "addPoint", "(III)V"⟩, 43) := ⟨⟨by decide +kernel, by decide +kernel⟩, List.mem_of_getElem? (i := 785) (by decide +kernel), List.mem_of_getElem? (i := 1080) (by decide +kernel), List.mem_of_getElem? (i := 1081) (by decide +kernel)⟩
theorem lw_p24 : lw_okq (⟨"StandingLineModel", "sideOf", "(II)I"⟩, 43) := ⟨⟨by decide +kernel, by decide +kernel⟩, List.mem_of_getElem? (i := 785) (by decide +kernel), List.mem_of_getElem? (i := 1084) (by decide +kernel), List.mem_of_getElem? (i := 1085) (by decide +kernel)⟩
theorem lw_p25 : lw_okq (⟨"StandingLineModel", "isOn", "(III)Z"⟩, 43) := ⟨⟨by decide +kernel, by decide +kernel⟩, List.mem_of_getElem? (i := 785) (by decide +kernel), List.mem_of_getElem? (i := 1088) (by decide +kernel), List.mem_of_getElem? (i := 1089) (by decide +kernel)⟩
theorem lw_p26 : lw_okq (⟨"StandingLineModel", "turnOf", "(III)I"⟩, 43) := ⟨⟨by decide +kernel, by decide +kernel⟩, List.mem_of_getElem? (i := 785) (by decide +kernel), List.mem_of_getElem? (i := 1095) (by decide +kernel), List.mem_of_getElem? (i := 1096) (by decide +kernel)⟩
theorem lw_p27 : lw_okq (⟨"StandingLineModel", "isNorthOf", "(III)Z"⟩, 43) := ⟨⟨by decide +kernel, by decide +kernel⟩, List.mem_of_getElem? (i := 785) (by decide +kernel), List.mem_of_getElem? (i := 1102) (by decide +kernel), List.mem_of_getElem? (i := 1103) (by decide +kernel)⟩
theorem lw_p28 : lw_okq (⟨"StandingLineModel", "southOf", "()I"⟩, 43) := ⟨⟨by decide +kernel, by decide +kernel⟩, List.mem_of_getElem? (i := 785) (by decide +kernel), List.mem_of_getElem? (i := 1110) (by decide +kernel), List.mem_of_getElem? (i := 1111) (by decide +kernel)⟩
theorem lw_p29 : lw_okq (⟨"StandingLineModel", "pinched", "()I"⟩, 43) := ⟨⟨by decide +kernel, by decide +kernel⟩, List.mem_of_getElem? (i := 785) (by decide +kernel), List.mem_of_getElem? (i := 1114) (by decide +kernel), List.mem_of_getElem? (i := 1115) (by decide +kernel)⟩
theorem lw_p30 : lw_okq (⟨"StandingLineModel", "goesBack", "(I)Z"⟩, 43) := ⟨⟨by decide +kernel, by decide +kernel⟩, List.mem_of_getElem? (i := 785) (by decide +kernel), List.mem_of_getElem? (i := 1118) (by decide +kernel), List.mem_of_getElem? (i := 1119) (by decide +kernel)⟩
theorem lw_p31 : lw_okq (⟨"StandingLineModel", "haveCommon", "(II)Z"⟩, 43) := ⟨⟨by decide +kernel, by decide +kernel⟩, List.mem_of_getElem? (i := 785) (by decide +kernel), List.mem_of_getElem? (i := 1122) (by decide +kernel), List.mem_of_getElem? (i := 1123) (by decide +kernel)⟩
def lw_privs_2 : List (MethodName × Nat) := [(⟨"StandingLineModel", "walk", "(III)V"⟩, 43), (⟨"StandingLineModel", "inherit", "(II)V"⟩, 43), (⟨"StandingLineModel", "back", "(I)I"⟩, 43), (⟨"StandingLineModel", "ofPerson", "(II)I"⟩, 43), (⟨"StandingLineModel", "layLine", "()V"⟩, 43), (⟨"StandingLineModel", "persons", "()I"⟩, 43), (⟨"StandingLineModel", "layLineOf", "(I)V"⟩, 43), (⟨"StandingLineModel", "addPoint", "(III)V"⟩, 43), (⟨"StandingLineModel", "sideOf", "(II)I"⟩, 43), (⟨"StandingLineModel", "isOn", "(III)Z"⟩, 43), (⟨"StandingLineModel", "turnOf", "(III)I"⟩, 43), (⟨"StandingLineModel", "isNorthOf", "(III)Z"⟩, 43), (⟨"StandingLineModel", "southOf", "()I"⟩, 43), (⟨"StandingLineModel", "pinched", "()I"⟩, 43), (⟨"StandingLineModel", "goesBack", "(I)Z"⟩, 43), (⟨"StandingLineModel", "haveCommon", "(II)Z"⟩, 43)]
theorem lw_r2 : ∀ q ∈ lw_privs_2, lw_okq q := List.forall_mem_cons.mpr ⟨lw_p16, List.forall_mem_cons.mpr ⟨lw_p17, List.forall_mem_cons.mpr ⟨lw_p18, List.forall_mem_cons.mpr ⟨lw_p19, List.forall_mem_cons.mpr ⟨lw_p20, List.forall_mem_cons.mpr ⟨lw_p21, List.forall_mem_cons.mpr ⟨lw_p22, List.forall_mem_cons.mpr ⟨lw_p23, List.forall_mem_cons.mpr ⟨lw_p24, List.forall_mem_cons.mpr ⟨lw_p25, List.forall_mem_cons.mpr ⟨lw_p26, List.forall_mem_cons.mpr ⟨lw_p27, List.forall_mem_cons.mpr ⟨lw_p28, List.forall_mem_cons.mpr ⟨lw_p29, List.forall_mem_cons.mpr ⟨lw_p30, List.forall_mem_cons.mpr ⟨lw_p31, fun _ h => absurd h List.not_mem_nil⟩⟩⟩⟩⟩⟩⟩⟩⟩⟩⟩⟩⟩⟩⟩⟩
theorem lw_p32 : lw_okq (⟨"StandingLineModel", "villagesOn", "(I)I"⟩, 43) := ⟨⟨by decide +kernel, by decide +kernel⟩, List.mem_of_getElem? (i := 785) (by decide +kernel), List.mem_of_getElem? (i := 1133) (by decide +kernel), List.mem_of_getElem? (i := 1134) (by decide +kernel)⟩
theorem lw_p33 : lw_okq (⟨"StandingLineModel", "trySway", "(IIII)V"⟩, 43) := ⟨⟨by decide +kernel, by decide +kernel⟩, List.mem_of_getElem? (i := 785) (by decide +kernel), List.mem_of_getElem? (i := 1145) (by decide +kernel), List.mem_of_getElem? (i := 1146) (by decide +kernel)⟩
theorem lw_p34 : lw_okq (⟨"StandingLineModel", "put", "(III)V"⟩, 43) := ⟨⟨by decide +kernel, by decide +kernel⟩, List.mem_of_getElem? (i := 785) (by decide +kernel), List.mem_of_getElem? (i := 1152) (by decide +kernel), List.mem_of_getElem? (i := 1153) (by decide +kernel)⟩
theorem lw_p35 : lw_okq (⟨"StandingLineModel", "southNow", "()I"⟩, 43) := ⟨⟨by decide +kernel, by decide +kernel⟩, List.mem_of_getElem? (i := 785) (by decide +kernel), List.mem_of_getElem? (i := 1160) (by decide +kernel), List.mem_of_getElem? (i := 1161) (by decide +kernel)⟩
theorem lw_p36 : lw_okq (⟨"StandingLineModel", "canStep", "(II)Z"⟩, 43) := ⟨⟨by decide +kernel, by decide +kernel⟩, List.mem_of_getElem? (i := 785) (by decide +kernel), List.mem_of_getElem? (i := 1167) (by decide +kernel), List.mem_of_getElem? (i := 1168) (by decide +kernel)⟩
theorem lw_p37 : lw_okq (⟨"StandingLineModel", "southBy", "(II)I"⟩, 43) := ⟨⟨by decide +kernel, by decide +kernel⟩, List.mem_of_getElem? (i := 785) (by decide +kernel), List.mem_of_getElem? (i := 1171) (by decide +kernel), List.mem_of_getElem? (i := 1172) (by decide +kernel)⟩
theorem lw_p38 : lw_okq (⟨"StandingLineModel", "laySides", "()V"⟩, 43) := ⟨⟨by decide +kernel, by decide +kernel⟩, List.mem_of_getElem? (i := 785) (by decide +kernel), List.mem_of_getElem? (i := 1183) (by decide +kernel), List.mem_of_getElem? (i := 1184) (by decide +kernel)⟩
theorem lw_p39 : lw_okq (⟨"StandingLineModel", "isSame", "(I)Z"⟩, 43) := ⟨⟨by decide +kernel, by decide +kernel⟩, List.mem_of_getElem? (i := 785) (by decide +kernel), List.mem_of_getElem? (i := 1187) (by decide +kernel), List.mem_of_getElem? (i := 1188) (by decide +kernel)⟩
theorem lw_p40 : lw_okq (⟨"StandingLineModel", "waysOf", "(I)I"⟩, 43) := ⟨⟨by decide +kernel, by decide +kernel⟩, List.mem_of_getElem? (i := 785) (by decide +kernel), List.mem_of_getElem? (i := 1191) (by decide +kernel), List.mem_of_getElem? (i := 1192) (by decide +kernel)⟩
theorem lw_p41 : lw_okq (⟨"StandingLineModel", "findMoves", "()V"⟩, 43) := ⟨⟨by decide +kernel, by decide +kernel⟩, List.mem_of_getElem? (i := 785) (by decide +kernel), List.mem_of_getElem? (i := 1207) (by decide +kernel), List.mem_of_getElem? (i := 1208) (by decide +kernel)⟩
theorem lw_p42 : lw_okq (⟨"StandingLineModel", "lookAt", "(I)V"⟩, 43) := ⟨⟨by decide +kernel, by decide +kernel⟩, List.mem_of_getElem? (i := 785) (by decide +kernel), List.mem_of_getElem? (i := 1211) (by decide +kernel), List.mem_of_getElem? (i := 1212) (by decide +kernel)⟩
theorem lw_p43 : lw_okq (⟨"StandingLineModel", "isAsSeen", "()Z"⟩, 43) := ⟨⟨by decide +kernel, by decide +kernel⟩, List.mem_of_getElem? (i := 785) (by decide +kernel), List.mem_of_getElem? (i := 1215) (by decide +kernel), List.mem_of_getElem? (i := 1216) (by decide +kernel)⟩
theorem lw_p44 : lw_okq (⟨"StandingLineModel", "tryMoves", "(I)V"⟩, 43) := ⟨⟨by decide +kernel, by decide +kernel⟩, List.mem_of_getElem? (i := 785) (by decide +kernel), List.mem_of_getElem? (i := 1219) (by decide +kernel), List.mem_of_getElem? (i := 1220) (by decide +kernel)⟩
theorem lw_p45 : lw_okq (⟨"StandingLineModel", "mostMoves", "(I)I"⟩, 43) := ⟨⟨by decide +kernel, by decide +kernel⟩, List.mem_of_getElem? (i := 785) (by decide +kernel), List.mem_of_getElem? (i := 1227) (by decide +kernel), List.mem_of_getElem? (i := 1228) (by decide +kernel)⟩
theorem lw_p46 : lw_okq (⟨"StandingLineModel", "answered", "(I)I"⟩, 43) := ⟨⟨by decide +kernel, by decide +kernel⟩, List.mem_of_getElem? (i := 785) (by decide +kernel), List.mem_of_getElem? (i := 1235) (by decide +kernel), List.mem_of_getElem? (i := 1236) (by decide +kernel)⟩
theorem lw_p47 : lw_okq (⟨"StandingLineModel", "northsBest", "()I"⟩, 43) := ⟨⟨by decide +kernel, by decide +kernel⟩, List.mem_of_getElem? (i := 785) (by decide +kernel), List.mem_of_getElem? (i := 1239) (by decide +kernel), List.mem_of_getElem? (i := 1240) (by decide +kernel)⟩
def lw_privs_3 : List (MethodName × Nat) := [(⟨"StandingLineModel", "villagesOn", "(I)I"⟩, 43), (⟨"StandingLineModel", "trySway", "(IIII)V"⟩, 43), (⟨"StandingLineModel", "put", "(III)V"⟩, 43), (⟨"StandingLineModel", "southNow", "()I"⟩, 43), (⟨"StandingLineModel", "canStep", "(II)Z"⟩, 43), (⟨"StandingLineModel", "southBy", "(II)I"⟩, 43), (⟨"StandingLineModel", "laySides", "()V"⟩, 43), (⟨"StandingLineModel", "isSame", "(I)Z"⟩, 43), (⟨"StandingLineModel", "waysOf", "(I)I"⟩, 43), (⟨"StandingLineModel", "findMoves", "()V"⟩, 43), (⟨"StandingLineModel", "lookAt", "(I)V"⟩, 43), (⟨"StandingLineModel", "isAsSeen", "()Z"⟩, 43), (⟨"StandingLineModel", "tryMoves", "(I)V"⟩, 43), (⟨"StandingLineModel", "mostMoves", "(I)I"⟩, 43), (⟨"StandingLineModel", "answered", "(I)I"⟩, 43), (⟨"StandingLineModel", "northsBest", "()I"⟩, 43)]
theorem lw_r3 : ∀ q ∈ lw_privs_3, lw_okq q := List.forall_mem_cons.mpr ⟨lw_p32, List.forall_mem_cons.mpr ⟨lw_p33, List.forall_mem_cons.mpr ⟨lw_p34, List.forall_mem_cons.mpr ⟨lw_p35, List.forall_mem_cons.mpr ⟨lw_p36, List.forall_mem_cons.mpr ⟨lw_p37, List.forall_mem_cons.mpr ⟨lw_p38, List.forall_mem_cons.mpr ⟨lw_p39, List.forall_mem_cons.mpr ⟨lw_p40, List.forall_mem_cons.mpr ⟨lw_p41, List.forall_mem_cons.mpr ⟨lw_p42, List.forall_mem_cons.mpr ⟨lw_p43, List.forall_mem_cons.mpr ⟨lw_p44, List.forall_mem_cons.mpr ⟨lw_p45, List.forall_mem_cons.mpr ⟨lw_p46, List.forall_mem_cons.mpr ⟨lw_p47, fun _ h => absurd h List.not_mem_nil⟩⟩⟩⟩⟩⟩⟩⟩⟩⟩⟩⟩⟩⟩⟩⟩
theorem lw_p48 : lw_okq (⟨"StandingLineModel", "strayOnce", "(II)V"⟩, 43) := ⟨⟨by decide +kernel, by decide +kernel⟩, List.mem_of_getElem? (i := 785) (by decide +kernel), List.mem_of_getElem? (i := 1249) (by decide +kernel), List.mem_of_getElem? (i := 1250) (by decide +kernel)⟩
theorem lw_p49 : lw_okq (⟨"StandingLineModel", "passAll", "()V"⟩, 43) := ⟨⟨by decide +kernel, by decide +kernel⟩, List.mem_of_getElem? (i := 785) (by decide +kernel), List.mem_of_getElem? (i := 1269) (by decide +kernel), List.mem_of_getElem? (i := 1270) (by decide +kernel)⟩
theorem lw_p50 : lw_okq (⟨"StandingLineModel", "pass", "(I)I"⟩, 43) := ⟨⟨by decide +kernel, by decide +kernel⟩, List.mem_of_getElem? (i := 785) (by decide +kernel), List.mem_of_getElem? (i := 1273) (by decide +kernel), List.mem_of_getElem? (i := 1274) (by decide +kernel)⟩
theorem lw_p51 : lw_okq (⟨"StandingLineModel", "passRow", "([I)V"⟩, 43) := ⟨⟨by decide +kernel, by decide +kernel⟩, List.mem_of_getElem? (i := 785) (by decide +kernel), List.mem_of_getElem? (i := 1277) (by decide +kernel), List.mem_of_getElem? (i := 1278) (by decide +kernel)⟩
theorem lw_p52 : lw_okq (⟨"StandingLineModel", "toldOf", "(II)I"⟩, 43) := ⟨⟨by decide +kernel, by decide +kernel⟩, List.mem_of_getElem? (i := 785) (by decide +kernel), List.mem_of_getElem? (i := 1292) (by decide +kernel), List.mem_of_getElem? (i := 1293) (by decide +kernel)⟩
def lw_privs_4 : List (MethodName × Nat) := [(⟨"StandingLineModel", "strayOnce", "(II)V"⟩, 43), (⟨"StandingLineModel", "passAll", "()V"⟩, 43), (⟨"StandingLineModel", "pass", "(I)I"⟩, 43), (⟨"StandingLineModel", "passRow", "([I)V"⟩, 43), (⟨"StandingLineModel", "toldOf", "(II)I"⟩, 43)]
theorem lw_r4 : ∀ q ∈ lw_privs_4, lw_okq q := List.forall_mem_cons.mpr ⟨lw_p48, List.forall_mem_cons.mpr ⟨lw_p49, List.forall_mem_cons.mpr ⟨lw_p50, List.forall_mem_cons.mpr ⟨lw_p51, List.forall_mem_cons.mpr ⟨lw_p52, fun _ h => absurd h List.not_mem_nil⟩⟩⟩⟩⟩
def lw_privs : List (MethodName × Nat) := lw_privs_1 ++ (lw_privs_2 ++ (lw_privs_3 ++ (lw_privs_4)))
def lw_tbl : List Cond := k2_sels lw_privs ++ tables_1
theorem lw_privs_ok : ∀ q ∈ lw_privs, lw_okq q := by
  show ∀ q ∈ lw_privs_1 ++ (lw_privs_2 ++ (lw_privs_3 ++ (lw_privs_4))), lw_okq q
  exact List.forall_mem_append.mpr ⟨lw_r1, List.forall_mem_append.mpr ⟨lw_r2, List.forall_mem_append.mpr ⟨lw_r3, lw_r4⟩⟩⟩
def RX0 : String := "StandingLine$Book"
def TX0 : u_T := fun k => match k with
  | 0 => ("StandingLine$Book", "line", "LStandingLine$Border;", true)
  | 1 => ("StandingLine$Book", "villages", "LStandingLine$Villages;", true)
  | 2 => ("StandingLine$Book", "sights", "LStandingLine$Sights;", true)
  | _ => ("StandingLine$Book", "isKept", "Z", false)
def tyX0 : Nat → FieldType := fun k => match k with
  | 0 => .object "StandingLine$Border"
  | 1 => .object "StandingLine$Villages"
  | 2 => .object "StandingLine$Sights"
  | _ => .boolean
abbrev wsX00 : List Cond := u_ws RX0 TX0 4
theorem nmX0 : ∀ a, a < 4 → ∀ b, b < 4 → a ≠ b → (TX0 a).2.1 ≠ (TX0 b).2.1 := by decide +kernel
theorem tyX0_ok : ∀ k, k < 4 → parseFieldDescriptor (TX0 k).2.2.1 = some (tyX0 k) := by decide +kernel
abbrev cX0_init : ByteArray := prog_2_method_1_code
def yX0_init : MethodName := ⟨RX0, "<init>", "()V"⟩
abbrev cX0_copyFrom : ByteArray := prog_2_method_2_code
def yX0_copyFrom : MethodName := ⟨RX0, "copyFrom", "(LStandingLine$Book;)V"⟩
def RX1 : String := "StandingLine$Border"
def TX1 : u_T := fun k => match k with
  | 0 => ("StandingLine$Border", "xs", "[I", true)
  | 1 => ("StandingLine$Border", "ys", "[I", true)
  | 2 => ("StandingLine$Border", "walked", "[I", true)
  | 3 => ("StandingLine$Border", "row", "[I", true)
  | 4 => ("StandingLine$Border", "count", "I", false)
  | 5 => ("StandingLine$Border", "west", "I", false)
  | 6 => ("StandingLine$Border", "east", "I", false)
  | _ => ("StandingLine$Border", "reach", "I", false)
def tyX1 : Nat → FieldType := fun k => match k with
  | 0 => .array .int
  | 1 => .array .int
  | 2 => .array .int
  | 3 => .array .int
  | 4 => .int
  | 5 => .int
  | 6 => .int
  | _ => .int
abbrev wsX10 : List Cond := u_ws RX1 TX1 8
theorem nmX1 : ∀ a, a < 8 → ∀ b, b < 8 → a ≠ b → (TX1 a).2.1 ≠ (TX1 b).2.1 := by decide +kernel
theorem tyX1_ok : ∀ k, k < 8 → parseFieldDescriptor (TX1 k).2.2.1 = some (tyX1 k) := by decide +kernel
abbrev cX1_init : ByteArray := prog_3_method_1_code
def yX1_init : MethodName := ⟨RX1, "<init>", "()V"⟩
abbrev cX1_copyFrom : ByteArray := prog_3_method_2_code
def yX1_copyFrom : MethodName := ⟨RX1, "copyFrom", "(LStandingLine$Border;)V"⟩
abbrev cX1_placeOf : ByteArray := prog_3_method_3_code
def yX1_placeOf : MethodName := ⟨RX1, "placeOf", "(I)I"⟩
abbrev cX1_holds : ByteArray := prog_3_method_4_code
def yX1_holds : MethodName := ⟨RX1, "holds", "(I)Z"⟩
abbrev cX1_whoInPlace : ByteArray := prog_3_method_5_code
def yX1_whoInPlace : MethodName := ⟨RX1, "whoInPlace", "(I)I"⟩
abbrev cX1_bitsOfPersons : ByteArray := prog_3_method_6_code
def yX1_bitsOfPersons : MethodName := ⟨RX1, "bitsOfPersons", "()I"⟩
abbrev cX1_measure : ByteArray := prog_3_method_7_code
def yX1_measure : MethodName := ⟨RX1, "measure", "(I)I"⟩
abbrev cX1_factOf : ByteArray := prog_3_method_8_code
def yX1_factOf : MethodName := ⟨RX1, "factOf", "(II)I"⟩
abbrev cX1_isTaken : ByteArray := prog_3_method_9_code
def yX1_isTaken : MethodName := ⟨RX1, "isTaken", "(III)Z"⟩
abbrev cX1_enter : ByteArray := prog_3_method_10_code
def yX1_enter : MethodName := ⟨RX1, "enter", "(IIII)V"⟩
abbrev cX1_drop : ByteArray := prog_3_method_11_code
def yX1_drop : MethodName := ⟨RX1, "drop", "(I)V"⟩
abbrev cX1_put : ByteArray := prog_3_method_12_code
def yX1_put : MethodName := ⟨RX1, "put", "(III)V"⟩
abbrev cX1_inherit : ByteArray := prog_3_method_13_code
def yX1_inherit : MethodName := ⟨RX1, "inherit", "(II)V"⟩
abbrev cX1_endDay : ByteArray := prog_3_method_14_code
def yX1_endDay : MethodName := ⟨RX1, "endDay", "()V"⟩
abbrev cX1_whyNoWalk : ByteArray := prog_3_method_15_code
def yX1_whyNoWalk : MethodName := ⟨RX1, "whyNoWalk", "(III)I"⟩
abbrev cX1_canStep : ByteArray := prog_3_method_16_code
def yX1_canStep : MethodName := ⟨RX1, "canStep", "(II)Z"⟩
abbrev cX1_shift : ByteArray := prog_3_method_17_code
def yX1_shift : MethodName := ⟨RX1, "shift", "(III)V"⟩
abbrev cX1_walk : ByteArray := prog_3_method_18_code
def yX1_walk : MethodName := ⟨RX1, "walk", "(III)V"⟩
abbrev cX1_pieces : ByteArray := prog_3_method_19_code
def yX1_pieces : MethodName := ⟨RX1, "pieces", "()I"⟩
abbrev cX1_cornerX : ByteArray := prog_3_method_20_code
def yX1_cornerX : MethodName := ⟨RX1, "cornerX", "(I)I"⟩
abbrev cX1_cornerY : ByteArray := prog_3_method_21_code
def yX1_cornerY : MethodName := ⟨RX1, "cornerY", "(I)I"⟩
abbrev cX1_twiceSouth : ByteArray := prog_3_method_22_code
def yX1_twiceSouth : MethodName := ⟨RX1, "twiceSouth", "()I"⟩
abbrev cX1_unfairness : ByteArray := prog_3_method_23_code
def yX1_unfairness : MethodName := ⟨RX1, "unfairness", "()I"⟩
abbrev cX1_sideOf : ByteArray := prog_3_method_24_code
def yX1_sideOf : MethodName := ⟨RX1, "sideOf", "(II)I"⟩
abbrev cX1_sideAmong : ByteArray := prog_3_method_25_code
def yX1_sideAmong : MethodName := ⟨RX1, "sideAmong", "(IIII)I"⟩
abbrev cX1_joinSides : ByteArray := prog_3_method_26_code
def yX1_joinSides : MethodName := ⟨RX1, "joinSides", "(II)I"⟩
abbrev cX1_sideOfPiece : ByteArray := prog_3_method_27_code
def yX1_sideOfPiece : MethodName := ⟨RX1, "sideOfPiece", "(IIIIII)I"⟩
abbrev cX1_firstPinch : ByteArray := prog_3_method_28_code
def yX1_firstPinch : MethodName := ⟨RX1, "firstPinch", "()I"⟩
abbrev cX1_foldsBack : ByteArray := prog_3_method_29_code
def yX1_foldsBack : MethodName := ⟨RX1, "foldsBack", "(I)Z"⟩
abbrev cX1_meet : ByteArray := prog_3_method_30_code
def yX1_meet : MethodName := ⟨RX1, "meet", "(II)Z"⟩
abbrev cX1_isCornerOn : ByteArray := prog_3_method_31_code
def yX1_isCornerOn : MethodName := ⟨RX1, "isCornerOn", "(II)Z"⟩
abbrev cX1_parts : ByteArray := prog_3_method_32_code
def yX1_parts : MethodName := ⟨RX1, "parts", "(II)Z"⟩
abbrev cX1_turnTo : ByteArray := prog_3_method_33_code
def yX1_turnTo : MethodName := ⟨RX1, "turnTo", "(II)I"⟩
def RX2 : String := "StandingLine$Days"
def TX2 : u_T := fun k => match k with
  | 0 => ("StandingLine$Days", "acts", "I", false)
  | 1 => ("StandingLine$Days", "steps", "I", false)
  | 2 => ("StandingLine$Days", "failed", "I", false)
  | _ => ("StandingLine$Days", "why", "I", false)
def tyX2 : Nat → FieldType := fun k => match k with
  | 0 => .int
  | 1 => .int
  | 2 => .int
  | _ => .int
abbrev wsX20 : List Cond := u_ws RX2 TX2 4
theorem nmX2 : ∀ a, a < 4 → ∀ b, b < 4 → a ≠ b → (TX2 a).2.1 ≠ (TX2 b).2.1 := by decide +kernel
theorem tyX2_ok : ∀ k, k < 4 → parseFieldDescriptor (TX2 k).2.2.1 = some (tyX2 k) := by decide +kernel
abbrev cX2_init : ByteArray := prog_4_method_1_code
def yX2_init : MethodName := ⟨RX2, "<init>", "()V"⟩
abbrev cX2_pass : ByteArray := prog_4_method_2_code
def yX2_pass : MethodName := ⟨RX2, "pass", "(LStandingLine$Pad;LStandingLine$Border;)V"⟩
abbrev cX2_signsOfAct : ByteArray := prog_4_method_3_code
def yX2_signsOfAct : MethodName := ⟨RX2, "signsOfAct", "(LStandingLine$Pad;I)I"⟩
abbrev cX2_passAct : ByteArray := prog_4_method_4_code
def yX2_passAct : MethodName := ⟨RX2, "passAct", "(LStandingLine$Pad;ILStandingLine$Border;)I"⟩
abbrev cX2_passDeath : ByteArray := prog_4_method_5_code
def yX2_passDeath : MethodName := ⟨RX2, "passDeath", "(LStandingLine$Border;I)I"⟩
abbrev cX2_passHeir : ByteArray := prog_4_method_6_code
def yX2_passHeir : MethodName := ⟨RX2, "passHeir", "(LStandingLine$Border;II)I"⟩
abbrev cX2_passWalk : ByteArray := prog_4_method_7_code
def yX2_passWalk : MethodName := ⟨RX2, "passWalk", "(LStandingLine$Border;III)I"⟩
def RX3 : String := "StandingLine$Deaths"
def TX3 : u_T := fun k => match k with
  | 0 => ("StandingLine$Deaths", "ways", "[I", true)
  | 1 => ("StandingLine$Deaths", "total", "I", false)
  | _ => ("StandingLine$Deaths", "first", "I", false)
def tyX3 : Nat → FieldType := fun k => match k with
  | 0 => .array .int
  | 1 => .int
  | _ => .int
abbrev wsX30 : List Cond := u_ws RX3 TX3 3
theorem nmX3 : ∀ a, a < 3 → ∀ b, b < 3 → a ≠ b → (TX3 a).2.1 ≠ (TX3 b).2.1 := by decide +kernel
theorem tyX3_ok : ∀ k, k < 3 → parseFieldDescriptor (TX3 k).2.2.1 = some (tyX3 k) := by decide +kernel
abbrev cX3_init : ByteArray := prog_5_method_1_code
def yX3_init : MethodName := ⟨RX3, "<init>", "()V"⟩
abbrev cX3_count : ByteArray := prog_5_method_2_code
def yX3_count : MethodName := ⟨RX3, "count", "(LStandingLine$Book;LStandingLine$Border;)V"⟩
abbrev cX3_keepOnly : ByteArray := prog_5_method_3_code
def yX3_keepOnly : MethodName := ⟨RX3, "keepOnly", "(LStandingLine$Border;LStandingLine$Border;I)V"⟩
abbrev cX3_waysBehindDeath : ByteArray := prog_5_method_4_code
def yX3_waysBehindDeath : MethodName := ⟨RX3, "waysBehindDeath", "(I)I"⟩
abbrev cX3_firstToDie : ByteArray := prog_5_method_5_code
def yX3_firstToDie : MethodName := ⟨RX3, "firstToDie", "(I)I"⟩
def RX4 : String := "StandingLine$Moves"
def TX4 : u_T := fun k => match k with
  | 0 => ("StandingLine$Moves", "left", "[I", true)
  | 1 => ("StandingLine$Moves", "count", "I", false)
  | _ => ("StandingLine$Moves", "persons", "I", false)
def tyX4 : Nat → FieldType := fun k => match k with
  | 0 => .array .int
  | 1 => .int
  | _ => .int
abbrev wsX40 : List Cond := u_ws RX4 TX4 3
theorem nmX4 : ∀ a, a < 3 → ∀ b, b < 3 → a ≠ b → (TX4 a).2.1 ≠ (TX4 b).2.1 := by decide +kernel
theorem tyX4_ok : ∀ k, k < 3 → parseFieldDescriptor (TX4 k).2.2.1 = some (tyX4 k) := by decide +kernel
abbrev cX4_init : ByteArray := prog_6_method_1_code
def yX4_init : MethodName := ⟨RX4, "<init>", "()V"⟩
abbrev cX4_gather : ByteArray := prog_6_method_2_code
def yX4_gather : MethodName := ⟨RX4, "gather", "(LStandingLine$Book;LStandingLine$Border;)V"⟩
abbrev cX4_gatherOf : ByteArray := prog_6_method_3_code
def yX4_gatherOf : MethodName := ⟨RX4, "gatherOf", "(LStandingLine$Book;LStandingLine$Border;I)V"⟩
abbrev cX4_take : ByteArray := prog_6_method_4_code
def yX4_take : MethodName := ⟨RX4, "take", "(LStandingLine$Villages;LStandingLine$Border;I)V"⟩
abbrev cX4_mostLeft : ByteArray := prog_6_method_5_code
def yX4_mostLeft : MethodName := ⟨RX4, "mostLeft", "(I)I"⟩
abbrev cX4_bestToAsk : ByteArray := prog_6_method_6_code
def yX4_bestToAsk : MethodName := ⟨RX4, "bestToAsk", "(LStandingLine$Villages;)I"⟩
def RX5 : String := "StandingLine$Pad"
def TX5 : u_T := fun k => match k with
  | 0 => ("StandingLine$Pad", "signs", "[I", true)
  | _ => ("StandingLine$Pad", "length", "I", false)
def tyX5 : Nat → FieldType := fun k => match k with
  | 0 => .array .int
  | _ => .int
abbrev wsX50 : List Cond := u_ws RX5 TX5 2
theorem nmX5 : ∀ a, a < 2 → ∀ b, b < 2 → a ≠ b → (TX5 a).2.1 ≠ (TX5 b).2.1 := by decide +kernel
theorem tyX5_ok : ∀ k, k < 2 → parseFieldDescriptor (TX5 k).2.2.1 = some (tyX5 k) := by decide +kernel
abbrev cX5_init : ByteArray := prog_7_method_1_code
def yX5_init : MethodName := ⟨RX5, "<init>", "()V"⟩
abbrev cX5_add : ByteArray := prog_7_method_2_code
def yX5_add : MethodName := ⟨RX5, "add", "(I)V"⟩
abbrev cX5_signAt : ByteArray := prog_7_method_3_code
def yX5_signAt : MethodName := ⟨RX5, "signAt", "(I)I"⟩
abbrev cX5_firstFault : ByteArray := prog_7_method_4_code
def yX5_firstFault : MethodName := ⟨RX5, "firstFault", "()I"⟩
abbrev cX5_dueBehind : ByteArray := prog_7_method_5_code
def yX5_dueBehind : MethodName := ⟨RX5, "dueBehind", "(II)I"⟩
abbrev cX5_isLetter : ByteArray := prog_7_method_6_code
def yX5_isLetter : MethodName := ⟨RX5, "isLetter", "(I)Z"⟩
abbrev cX5_directionOf : ByteArray := prog_7_method_7_code
def yX5_directionOf : MethodName := ⟨RX5, "directionOf", "(I)I"⟩
def RX6 : String := "StandingLine$Sights"
def TX6 : u_T := fun k => match k with
  | 0 => ("StandingLine$Sights", "xs", "[I", true)
  | 1 => ("StandingLine$Sights", "ys", "[I", true)
  | 2 => ("StandingLine$Sights", "sides", "[I", true)
  | _ => ("StandingLine$Sights", "count", "I", false)
def tyX6 : Nat → FieldType := fun k => match k with
  | 0 => .array .int
  | 1 => .array .int
  | 2 => .array .int
  | _ => .int
abbrev wsX60 : List Cond := u_ws RX6 TX6 4
theorem nmX6 : ∀ a, a < 4 → ∀ b, b < 4 → a ≠ b → (TX6 a).2.1 ≠ (TX6 b).2.1 := by decide +kernel
theorem tyX6_ok : ∀ k, k < 4 → parseFieldDescriptor (TX6 k).2.2.1 = some (tyX6 k) := by decide +kernel
abbrev cX6_init : ByteArray := prog_8_method_1_code
def yX6_init : MethodName := ⟨RX6, "<init>", "()V"⟩
abbrev cX6_copyFrom : ByteArray := prog_8_method_2_code
def yX6_copyFrom : MethodName := ⟨RX6, "copyFrom", "(LStandingLine$Sights;)V"⟩
abbrev cX6_add : ByteArray := prog_8_method_3_code
def yX6_add : MethodName := ⟨RX6, "add", "(III)V"⟩
abbrev cX6_fit : ByteArray := prog_8_method_4_code
def yX6_fit : MethodName := ⟨RX6, "fit", "(LStandingLine$Border;)Z"⟩
def RX7 : String := "StandingLine$Stray"
def TX7 : u_T := fun k => match k with
  | 0 => ("StandingLine$Stray", "ways", "[I", true)
  | 1 => ("StandingLine$Stray", "before", "[I", true)
  | 2 => ("StandingLine$Stray", "startX", "I", false)
  | _ => ("StandingLine$Stray", "startY", "I", false)
def tyX7 : Nat → FieldType := fun k => match k with
  | 0 => .array .int
  | 1 => .array .int
  | 2 => .int
  | _ => .int
abbrev wsX70 : List Cond := u_ws RX7 TX7 4
theorem nmX7 : ∀ a, a < 4 → ∀ b, b < 4 → a ≠ b → (TX7 a).2.1 ≠ (TX7 b).2.1 := by decide +kernel
theorem tyX7_ok : ∀ k, k < 4 → parseFieldDescriptor (TX7 k).2.2.1 = some (tyX7 k) := by decide +kernel
abbrev cX7_init : ByteArray := prog_9_method_1_code
def yX7_init : MethodName := ⟨RX7, "<init>", "()V"⟩
abbrev cX7_at : ByteArray := prog_9_method_2_code
def yX7_at : MethodName := ⟨RX7, "at", "(II)I"⟩
abbrev cX7_walk : ByteArray := prog_9_method_3_code
def yX7_walk : MethodName := ⟨RX7, "walk", "(III)V"⟩
abbrev cX7_clearWays : ByteArray := prog_9_method_4_code
def yX7_clearWays : MethodName := ⟨RX7, "clearWays", "()V"⟩
abbrev cX7_spread : ByteArray := prog_9_method_5_code
def yX7_spread : MethodName := ⟨RX7, "spread", "(I)V"⟩
abbrev cX7_spreadFrom : ByteArray := prog_9_method_6_code
def yX7_spreadFrom : MethodName := ⟨RX7, "spreadFrom", "(III)V"⟩
abbrev cX7_waysTo : ByteArray := prog_9_method_7_code
def yX7_waysTo : MethodName := ⟨RX7, "waysTo", "(LStandingLine$Border;I)I"⟩
def RX8 : String := "StandingLine$Sway"
def TX8 : u_T := fun k => match k with
  | 0 => ("StandingLine$Sway", "steps", "I", false)
  | 1 => ("StandingLine$Sway", "who", "I", false)
  | _ => ("StandingLine$Sway", "where", "I", false)
def tyX8 : Nat → FieldType := fun k => match k with
  | 0 => .int
  | 1 => .int
  | _ => .int
abbrev wsX80 : List Cond := u_ws RX8 TX8 3
theorem nmX8 : ∀ a, a < 3 → ∀ b, b < 3 → a ≠ b → (TX8 a).2.1 ≠ (TX8 b).2.1 := by decide +kernel
theorem tyX8_ok : ∀ k, k < 3 → parseFieldDescriptor (TX8 k).2.2.1 = some (tyX8 k) := by decide +kernel
abbrev cX8_init : ByteArray := prog_10_method_1_code
def yX8_init : MethodName := ⟨RX8, "<init>", "()V"⟩
abbrev cX8_isFound : ByteArray := prog_10_method_2_code
def yX8_isFound : MethodName := ⟨RX8, "isFound", "()Z"⟩
abbrev cX8_find : ByteArray := prog_10_method_3_code
def yX8_find : MethodName := ⟨RX8, "find", "(LStandingLine$Border;III)V"⟩
abbrev cX8_tryPerson : ByteArray := prog_10_method_4_code
def yX8_tryPerson : MethodName := ⟨RX8, "tryPerson", "(LStandingLine$Border;IIII)V"⟩
def RX9 : String := "StandingLine$Villages"
def TX9 : u_T := fun k => match k with
  | 0 => ("StandingLine$Villages", "xs", "[I", true)
  | 1 => ("StandingLine$Villages", "ys", "[I", true)
  | _ => ("StandingLine$Villages", "bits", "I", false)
def tyX9 : Nat → FieldType := fun k => match k with
  | 0 => .array .int
  | 1 => .array .int
  | _ => .int
abbrev wsX90 : List Cond := u_ws RX9 TX9 3
theorem nmX9 : ∀ a, a < 3 → ∀ b, b < 3 → a ≠ b → (TX9 a).2.1 ≠ (TX9 b).2.1 := by decide +kernel
theorem tyX9_ok : ∀ k, k < 3 → parseFieldDescriptor (TX9 k).2.2.1 = some (tyX9 k) := by decide +kernel
abbrev cX9_init : ByteArray := prog_11_method_1_code
def yX9_init : MethodName := ⟨RX9, "<init>", "()V"⟩
abbrev cX9_copyFrom : ByteArray := prog_11_method_2_code
def yX9_copyFrom : MethodName := ⟨RX9, "copyFrom", "(LStandingLine$Villages;)V"⟩
abbrev cX9_holds : ByteArray := prog_11_method_3_code
def yX9_holds : MethodName := ⟨RX9, "holds", "(I)Z"⟩
abbrev cX9_put : ByteArray := prog_11_method_4_code
def yX9_put : MethodName := ⟨RX9, "put", "(III)V"⟩
abbrev cX9_bitsOn : ByteArray := prog_11_method_5_code
def yX9_bitsOn : MethodName := ⟨RX9, "bitsOn", "(LStandingLine$Border;I)I"⟩
def RX10 : String := "StandingLine$Year"
def TX10 : u_T := fun k => match k with
  | _ => ("StandingLine$Year", "steps", "I", false)
def tyX10 : Nat → FieldType := fun k => match k with
  | _ => .int
abbrev wsX100 : List Cond := u_ws RX10 TX10 1
theorem nmX10 : ∀ a, a < 1 → ∀ b, b < 1 → a ≠ b → (TX10 a).2.1 ≠ (TX10 b).2.1 := by decide +kernel
theorem tyX10_ok : ∀ k, k < 1 → parseFieldDescriptor (TX10 k).2.2.1 = some (tyX10 k) := by decide +kernel
abbrev cX10_init : ByteArray := prog_12_method_1_code
def yX10_init : MethodName := ⟨RX10, "<init>", "()V"⟩
abbrev cX10_pass : ByteArray := prog_12_method_2_code
def yX10_pass : MethodName := ⟨RX10, "pass", "(LStandingLine$Border;II)V"⟩
abbrev cX10_walkIfPossible : ByteArray := prog_12_method_3_code
def yX10_walkIfPossible : MethodName := ⟨RX10, "walkIfPossible", "(LStandingLine$Border;III)V"⟩
def RX11 : String := "StandingLine"
def TX11 : u_T := fun k => match k with
  | 0 => ("StandingLine", "book", "LStandingLine$Book;", true)
  | 1 => ("StandingLine", "images", "[LStandingLine$Book;", true)
  | 2 => ("StandingLine", "pad", "LStandingLine$Pad;", true)
  | 3 => ("StandingLine", "days", "LStandingLine$Days;", true)
  | 4 => ("StandingLine", "trial", "LStandingLine$Border;", true)
  | 5 => ("StandingLine", "sways", "LStandingLine$Sway;", true)
  | 6 => ("StandingLine", "deaths", "LStandingLine$Deaths;", true)
  | 7 => ("StandingLine", "moves", "LStandingLine$Moves;", true)
  | 8 => ("StandingLine", "stray", "LStandingLine$Stray;", true)
  | _ => ("StandingLine", "drawn", "LStandingLine$Year;", true)
def tyX11 : Nat → FieldType := fun k => match k with
  | 0 => .object "StandingLine$Book"
  | 1 => .array (.object "StandingLine$Book")
  | 2 => .object "StandingLine$Pad"
  | 3 => .object "StandingLine$Days"
  | 4 => .object "StandingLine$Border"
  | 5 => .object "StandingLine$Sway"
  | 6 => .object "StandingLine$Deaths"
  | 7 => .object "StandingLine$Moves"
  | 8 => .object "StandingLine$Stray"
  | _ => .object "StandingLine$Year"
abbrev wsX110 : List Cond := u_ws RX11 TX11 10
theorem nmX11 : ∀ a, a < 10 → ∀ b, b < 10 → a ≠ b → (TX11 a).2.1 ≠ (TX11 b).2.1 := by decide +kernel
theorem tyX11_ok : ∀ k, k < 10 → parseFieldDescriptor (TX11 k).2.2.1 = some (tyX11 k) := by decide +kernel
abbrev cX11_init : ByteArray := prog_1_method_1_code
def yX11_init : MethodName := ⟨RX11, "<init>", "()V"⟩
abbrev cX11_stand : ByteArray := prog_1_method_2_code
def yX11_stand : MethodName := ⟨RX11, "stand", "(IIII)I"⟩
abbrev cX11_leave : ByteArray := prog_1_method_3_code
def yX11_leave : MethodName := ⟨RX11, "leave", "(I)I"⟩
abbrev cX11_set : ByteArray := prog_1_method_4_code
def yX11_set : MethodName := ⟨RX11, "set", "(II)I"⟩
abbrev cX11_village : ByteArray := prog_1_method_5_code
def yX11_village : MethodName := ⟨RX11, "village", "(III)I"⟩
abbrev cX11_raze : ByteArray := prog_1_method_6_code
def yX11_raze : MethodName := ⟨RX11, "raze", "(I)I"⟩
abbrev cX11_say : ByteArray := prog_1_method_7_code
def yX11_say : MethodName := ⟨RX11, "say", "(I)I"⟩
abbrev cX11_wipe : ByteArray := prog_1_method_8_code
def yX11_wipe : MethodName := ⟨RX11, "wipe", "()I"⟩
abbrev cX11_fault : ByteArray := prog_1_method_9_code
def yX11_fault : MethodName := ⟨RX11, "fault", "()I"⟩
abbrev cX11_judge : ByteArray := prog_1_method_10_code
def yX11_judge : MethodName := ⟨RX11, "judge", "(I)I"⟩
abbrev cX11_behind : ByteArray := prog_1_method_11_code
def yX11_behind : MethodName := ⟨RX11, "behind", "(II)I"⟩
abbrev cX11_side : ByteArray := prog_1_method_12_code
def yX11_side : MethodName := ⟨RX11, "side", "(II)I"⟩
abbrev cX11_south : ByteArray := prog_1_method_13_code
def yX11_south : MethodName := ⟨RX11, "south", "(I)I"⟩
abbrev cX11_lies : ByteArray := prog_1_method_14_code
def yX11_lies : MethodName := ⟨RX11, "lies", "(I)I"⟩
abbrev cX11_done : ByteArray := prog_1_method_15_code
def yX11_done : MethodName := ⟨RX11, "done", "()I"⟩
abbrev cX11_sway : ByteArray := prog_1_method_16_code
def yX11_sway : MethodName := ⟨RX11, "sway", "(IIII)I"⟩
abbrev cX11_fair : ByteArray := prog_1_method_17_code
def yX11_fair : MethodName := ⟨RX11, "fair", "(I)I"⟩
abbrev cX11_cedes : ByteArray := prog_1_method_18_code
def yX11_cedes : MethodName := ⟨RX11, "cedes", "(I)I"⟩
abbrev cX11_orders : ByteArray := prog_1_method_19_code
def yX11_orders : MethodName := ⟨RX11, "orders", "(I)I"⟩
abbrev cX11_seen : ByteArray := prog_1_method_20_code
def yX11_seen : MethodName := ⟨RX11, "seen", "(III)I"⟩
abbrev cX11_forget : ByteArray := prog_1_method_21_code
def yX11_forget : MethodName := ⟨RX11, "forget", "()I"⟩
abbrev cX11_moved : ByteArray := prog_1_method_22_code
def yX11_moved : MethodName := ⟨RX11, "moved", "(I)I"⟩
abbrev cX11_ask : ByteArray := prog_1_method_23_code
def yX11_ask : MethodName := ⟨RX11, "ask", "(I)I"⟩
abbrev cX11_crowns : ByteArray := prog_1_method_24_code
def yX11_crowns : MethodName := ⟨RX11, "crowns", "(I)I"⟩
abbrev cX11_goat : ByteArray := prog_1_method_25_code
def yX11_goat : MethodName := ⟨RX11, "goat", "(IIIII)J"⟩
abbrev cX11_year : ByteArray := prog_1_method_26_code
def yX11_year : MethodName := ⟨RX11, "year", "(III)I"⟩
abbrev cX11_image : ByteArray := prog_1_method_27_code
def yX11_image : MethodName := ⟨RX11, "image", "(I)I"⟩
abbrev cX11_restore : ByteArray := prog_1_method_28_code
def yX11_restore : MethodName := ⟨RX11, "restore", "(I)I"⟩
abbrev cX11_told : ByteArray := prog_1_method_29_code
def yX11_told : MethodName := ⟨RX11, "told", "(I)I"⟩
abbrev cX11_tellPerson : ByteArray := prog_1_method_30_code
def yX11_tellPerson : MethodName := ⟨RX11, "tellPerson", "(II)I"⟩
abbrev cX11_tellVillage : ByteArray := prog_1_method_31_code
def yX11_tellVillage : MethodName := ⟨RX11, "tellVillage", "(I)I"⟩
abbrev cX11_tryDays : ByteArray := prog_1_method_32_code
def yX11_tryDays : MethodName := ⟨RX11, "tryDays", "()I"⟩
abbrev cX11_playTurns : ByteArray := prog_1_method_33_code
def yX11_playTurns : MethodName := ⟨RX11, "playTurns", "(LStandingLine$Border;II)I"⟩
abbrev cX11_isPerson : ByteArray := prog_1_method_34_code
def yX11_isPerson : MethodName := ⟨RX11, "isPerson", "(I)Z"⟩
abbrev cX11_isLand : ByteArray := prog_1_method_35_code
def yX11_isLand : MethodName := ⟨RX11, "isLand", "(II)Z"⟩
abbrev cX11_isSide : ByteArray := prog_1_method_36_code
def yX11_isSide : MethodName := ⟨RX11, "isSide", "(I)Z"⟩
abbrev cX11_pointCode : ByteArray := prog_1_method_37_code
def yX11_pointCode : MethodName := ⟨RX11, "pointCode", "(II)I"⟩
def RX12 : String := "StandingLineModel"
def TX12 : u_T := fun k => match k with
  | 0 => ("StandingLineModel", "many", "I", false)
  | 1 => ("StandingLineModel", "row", "[I", true)
  | 2 => ("StandingLineModel", "xs", "[I", true)
  | 3 => ("StandingLineModel", "ys", "[I", true)
  | 4 => ("StandingLineModel", "walked", "[I", true)
  | 5 => ("StandingLineModel", "west", "I", false)
  | 6 => ("StandingLineModel", "east", "I", false)
  | 7 => ("StandingLineModel", "reach", "I", false)
  | 8 => ("StandingLineModel", "villages", "I", false)
  | 9 => ("StandingLineModel", "villageX", "[I", true)
  | 10 => ("StandingLineModel", "villageY", "[I", true)
  | 11 => ("StandingLineModel", "sightX", "[I", true)
  | 12 => ("StandingLineModel", "sightY", "[I", true)
  | 13 => ("StandingLineModel", "sightSide", "[I", true)
  | 14 => ("StandingLineModel", "sights", "I", false)
  | 15 => ("StandingLineModel", "pad", "[I", true)
  | 16 => ("StandingLineModel", "padMany", "I", false)
  | 17 => ("StandingLineModel", "act", "[I", true)
  | 18 => ("StandingLineModel", "who", "[I", true)
  | 19 => ("StandingLineModel", "which", "[I", true)
  | 20 => ("StandingLineModel", "far", "[I", true)
  | 21 => ("StandingLineModel", "acts", "I", false)
  | 22 => ("StandingLineModel", "stepMany", "I", false)
  | 23 => ("StandingLineModel", "had", "[I", true)
  | 24 => ("StandingLineModel", "badAct", "I", false)
  | 25 => ("StandingLineModel", "badWhy", "I", false)
  | 26 => ("StandingLineModel", "lineX", "[I", true)
  | 27 => ("StandingLineModel", "lineY", "[I", true)
  | 28 => ("StandingLineModel", "pieces", "I", false)
  | 29 => ("StandingLineModel", "swayBy", "I", false)
  | 30 => ("StandingLineModel", "swayWho", "I", false)
  | 31 => ("StandingLineModel", "swayTo", "I", false)
  | 32 => ("StandingLineModel", "ways", "[I", true)
  | 33 => ("StandingLineModel", "sidesNow", "[I", true)
  | 34 => ("StandingLineModel", "moves", "I", false)
  | 35 => ("StandingLineModel", "movers", "I", false)
  | 36 => ("StandingLineModel", "movesBy", "[I", true)
  | 37 => ("StandingLineModel", "strays", "[J", true)
  | 38 => ("StandingLineModel", "straysThen", "[J", true)
  | 39 => ("StandingLineModel", "kept", "[I", true)
  | 40 => ("StandingLineModel", "isKept", "[Z", true)
  | 41 => ("StandingLineModel", "keptAt", "I", false)
  | _ => ("StandingLineModel", "isWriting", "Z", false)
def tyX12 : Nat → FieldType := fun k => match k with
  | 0 => .int
  | 1 => .array .int
  | 2 => .array .int
  | 3 => .array .int
  | 4 => .array .int
  | 5 => .int
  | 6 => .int
  | 7 => .int
  | 8 => .int
  | 9 => .array .int
  | 10 => .array .int
  | 11 => .array .int
  | 12 => .array .int
  | 13 => .array .int
  | 14 => .int
  | 15 => .array .int
  | 16 => .int
  | 17 => .array .int
  | 18 => .array .int
  | 19 => .array .int
  | 20 => .array .int
  | 21 => .int
  | 22 => .int
  | 23 => .array .int
  | 24 => .int
  | 25 => .int
  | 26 => .array .int
  | 27 => .array .int
  | 28 => .int
  | 29 => .int
  | 30 => .int
  | 31 => .int
  | 32 => .array .int
  | 33 => .array .int
  | 34 => .int
  | 35 => .int
  | 36 => .array .int
  | 37 => .array .long
  | 38 => .array .long
  | 39 => .array .int
  | 40 => .array .boolean
  | 41 => .int
  | _ => .boolean
abbrev wsX120 : List Cond := u_ws RX12 TX12 43
theorem nmX12 : ∀ a, a < 43 → ∀ b, b < 43 → a ≠ b → (TX12 a).2.1 ≠ (TX12 b).2.1 := by decide +kernel
theorem tyX12_ok : ∀ k, k < 43 → parseFieldDescriptor (TX12 k).2.2.1 = some (tyX12 k) := by decide +kernel
abbrev cX12_init : ByteArray := prog_14_method_1_code
def yX12_init : MethodName := ⟨RX12, "<init>", "()V"⟩
abbrev cX12_in : ByteArray := prog_14_method_3_code
def yX12_in : MethodName := ⟨RX12, "in", "(JJJ)Z"⟩
abbrev cX12_ones : ByteArray := prog_14_method_4_code
def yX12_ones : MethodName := ⟨RX12, "ones", "(I)I"⟩
abbrev cX12_size : ByteArray := prog_14_method_5_code
def yX12_size : MethodName := ⟨RX12, "size", "(I)I"⟩
abbrev cX12_isLand : ByteArray := prog_14_method_6_code
def yX12_isLand : MethodName := ⟨RX12, "isLand", "(II)Z"⟩
abbrev cX12_isNumber : ByteArray := prog_14_method_7_code
def yX12_isNumber : MethodName := ⟨RX12, "isNumber", "(I)Z"⟩
abbrev cX12_placeOf : ByteArray := prog_14_method_8_code
def yX12_placeOf : MethodName := ⟨RX12, "placeOf", "(I)I"⟩
abbrev cX12_persons : ByteArray := prog_14_method_9_code
def yX12_persons : MethodName := ⟨RX12, "persons", "()I"⟩
abbrev cX12_whoAt : ByteArray := prog_14_method_10_code
def yX12_whoAt : MethodName := ⟨RX12, "whoAt", "(II)I"⟩
abbrev cX12_stand : ByteArray := prog_14_method_11_code
def yX12_stand : MethodName := ⟨RX12, "stand", "(IIII)I"⟩
abbrev cX12_drop : ByteArray := prog_14_method_12_code
def yX12_drop : MethodName := ⟨RX12, "drop", "(I)V"⟩
abbrev cX12_leave : ByteArray := prog_14_method_13_code
def yX12_leave : MethodName := ⟨RX12, "leave", "(I)I"⟩
abbrev cX12_set : ByteArray := prog_14_method_14_code
def yX12_set : MethodName := ⟨RX12, "set", "(II)I"⟩
abbrev cX12_village : ByteArray := prog_14_method_15_code
def yX12_village : MethodName := ⟨RX12, "village", "(III)I"⟩
abbrev cX12_raze : ByteArray := prog_14_method_16_code
def yX12_raze : MethodName := ⟨RX12, "raze", "(I)I"⟩
abbrev cX12_say : ByteArray := prog_14_method_17_code
def yX12_say : MethodName := ⟨RX12, "say", "(I)I"⟩
abbrev cX12_wipe : ByteArray := prog_14_method_18_code
def yX12_wipe : MethodName := ⟨RX12, "wipe", "()I"⟩
abbrev cX12_isLetter : ByteArray := prog_14_method_19_code
def yX12_isLetter : MethodName := ⟨RX12, "isLetter", "(I)Z"⟩
abbrev cX12_close : ByteArray := prog_14_method_20_code
def yX12_close : MethodName := ⟨RX12, "close", "(III)I"⟩
abbrev cX12_begin : ByteArray := prog_14_method_21_code
def yX12_begin : MethodName := ⟨RX12, "begin", "(I)I"⟩
abbrev cX12_deed : ByteArray := prog_14_method_22_code
def yX12_deed : MethodName := ⟨RX12, "deed", "(I)I"⟩
abbrev cX12_readOn : ByteArray := prog_14_method_23_code
def yX12_readOn : MethodName := ⟨RX12, "readOn", "(II)I"⟩
abbrev cX12_fault : ByteArray := prog_14_method_24_code
def yX12_fault : MethodName := ⟨RX12, "fault", "()I"⟩
abbrev cX12_eastBy : ByteArray := prog_14_method_25_code
def yX12_eastBy : MethodName := ⟨RX12, "eastBy", "(I)I"⟩
abbrev cX12_northBy : ByteArray := prog_14_method_26_code
def yX12_northBy : MethodName := ⟨RX12, "northBy", "(I)I"⟩
abbrev cX12_whyNotWalk : ByteArray := prog_14_method_27_code
def yX12_whyNotWalk : MethodName := ⟨RX12, "whyNotWalk", "(III)I"⟩
abbrev cX12_whyNot : ByteArray := prog_14_method_28_code
def yX12_whyNot : MethodName := ⟨RX12, "whyNot", "(IIII)I"⟩
abbrev cX12_walk : ByteArray := prog_14_method_29_code
def yX12_walk : MethodName := ⟨RX12, "walk", "(III)V"⟩
abbrev cX12_inherit : ByteArray := prog_14_method_30_code
def yX12_inherit : MethodName := ⟨RX12, "inherit", "(II)V"⟩
abbrev cX12_happen : ByteArray := prog_14_method_31_code
def yX12_happen : MethodName := ⟨RX12, "happen", "(IIII)V"⟩
abbrev cX12_keepNow : ByteArray := prog_14_method_32_code
def yX12_keepNow : MethodName := ⟨RX12, "keepNow", "()V"⟩
abbrev cX12_back : ByteArray := prog_14_method_33_code
def yX12_back : MethodName := ⟨RX12, "back", "(I)I"⟩
abbrev cX12_goDays : ByteArray := prog_14_method_34_code
def yX12_goDays : MethodName := ⟨RX12, "goDays", "()V"⟩
abbrev cX12_refusal : ByteArray := prog_14_method_35_code
def yX12_refusal : MethodName := ⟨RX12, "refusal", "()I"⟩
abbrev cX12_judge : ByteArray := prog_14_method_36_code
def yX12_judge : MethodName := ⟨RX12, "judge", "(I)I"⟩
abbrev cX12_ofPerson : ByteArray := prog_14_method_37_code
def yX12_ofPerson : MethodName := ⟨RX12, "ofPerson", "(II)I"⟩
abbrev cX12_behind : ByteArray := prog_14_method_38_code
def yX12_behind : MethodName := ⟨RX12, "behind", "(II)I"⟩
abbrev cX12_addPoint : ByteArray := prog_14_method_39_code
def yX12_addPoint : MethodName := ⟨RX12, "addPoint", "(III)V"⟩
abbrev cX12_layLineOf : ByteArray := prog_14_method_40_code
def yX12_layLineOf : MethodName := ⟨RX12, "layLineOf", "(I)V"⟩
abbrev cX12_layLine : ByteArray := prog_14_method_41_code
def yX12_layLine : MethodName := ⟨RX12, "layLine", "()V"⟩
abbrev cX12_turn : ByteArray := prog_14_method_42_code
def yX12_turn : MethodName := ⟨RX12, "turn", "(IIIIII)I"⟩
abbrev cX12_turnOf : ByteArray := prog_14_method_43_code
def yX12_turnOf : MethodName := ⟨RX12, "turnOf", "(III)I"⟩
abbrev cX12_isBetween : ByteArray := prog_14_method_44_code
def yX12_isBetween : MethodName := ⟨RX12, "isBetween", "(III)Z"⟩
abbrev cX12_isOn : ByteArray := prog_14_method_45_code
def yX12_isOn : MethodName := ⟨RX12, "isOn", "(III)Z"⟩
abbrev cX12_isNorthOf : ByteArray := prog_14_method_46_code
def yX12_isNorthOf : MethodName := ⟨RX12, "isNorthOf", "(III)Z"⟩
abbrev cX12_sideOf : ByteArray := prog_14_method_47_code
def yX12_sideOf : MethodName := ⟨RX12, "sideOf", "(II)I"⟩
abbrev cX12_southOf : ByteArray := prog_14_method_48_code
def yX12_southOf : MethodName := ⟨RX12, "southOf", "()I"⟩
abbrev cX12_signOf : ByteArray := prog_14_method_49_code
def yX12_signOf : MethodName := ⟨RX12, "signOf", "(I)I"⟩
abbrev cX12_haveCommon : ByteArray := prog_14_method_50_code
def yX12_haveCommon : MethodName := ⟨RX12, "haveCommon", "(II)Z"⟩
abbrev cX12_goesBack : ByteArray := prog_14_method_51_code
def yX12_goesBack : MethodName := ⟨RX12, "goesBack", "(I)Z"⟩
abbrev cX12_pinched : ByteArray := prog_14_method_52_code
def yX12_pinched : MethodName := ⟨RX12, "pinched", "()I"⟩
abbrev cX12_villagesOn : ByteArray := prog_14_method_53_code
def yX12_villagesOn : MethodName := ⟨RX12, "villagesOn", "(I)I"⟩
abbrev cX12_side : ByteArray := prog_14_method_54_code
def yX12_side : MethodName := ⟨RX12, "side", "(II)I"⟩
abbrev cX12_south : ByteArray := prog_14_method_55_code
def yX12_south : MethodName := ⟨RX12, "south", "(I)I"⟩
abbrev cX12_lies : ByteArray := prog_14_method_56_code
def yX12_lies : MethodName := ⟨RX12, "lies", "(I)I"⟩
abbrev cX12_done : ByteArray := prog_14_method_57_code
def yX12_done : MethodName := ⟨RX12, "done", "()I"⟩
abbrev cX12_put : ByteArray := prog_14_method_58_code
def yX12_put : MethodName := ⟨RX12, "put", "(III)V"⟩
abbrev cX12_trySway : ByteArray := prog_14_method_59_code
def yX12_trySway : MethodName := ⟨RX12, "trySway", "(IIII)V"⟩
abbrev cX12_sway : ByteArray := prog_14_method_60_code
def yX12_sway : MethodName := ⟨RX12, "sway", "(IIII)I"⟩
abbrev cX12_canStep : ByteArray := prog_14_method_61_code
def yX12_canStep : MethodName := ⟨RX12, "canStep", "(II)Z"⟩
abbrev cX12_southNow : ByteArray := prog_14_method_62_code
def yX12_southNow : MethodName := ⟨RX12, "southNow", "()I"⟩
abbrev cX12_southBy : ByteArray := prog_14_method_63_code
def yX12_southBy : MethodName := ⟨RX12, "southBy", "(II)I"⟩
abbrev cX12_unfair : ByteArray := prog_14_method_64_code
def yX12_unfair : MethodName := ⟨RX12, "unfair", "(I)I"⟩
abbrev cX12_fair : ByteArray := prog_14_method_65_code
def yX12_fair : MethodName := ⟨RX12, "fair", "(I)I"⟩
abbrev cX12_cedes : ByteArray := prog_14_method_66_code
def yX12_cedes : MethodName := ⟨RX12, "cedes", "(I)I"⟩
abbrev cX12_laySides : ByteArray := prog_14_method_67_code
def yX12_laySides : MethodName := ⟨RX12, "laySides", "()V"⟩
abbrev cX12_isSame : ByteArray := prog_14_method_68_code
def yX12_isSame : MethodName := ⟨RX12, "isSame", "(I)Z"⟩
abbrev cX12_waysOf : ByteArray := prog_14_method_69_code
def yX12_waysOf : MethodName := ⟨RX12, "waysOf", "(I)I"⟩
abbrev cX12_orders : ByteArray := prog_14_method_70_code
def yX12_orders : MethodName := ⟨RX12, "orders", "(I)I"⟩
abbrev cX12_seen : ByteArray := prog_14_method_71_code
def yX12_seen : MethodName := ⟨RX12, "seen", "(III)I"⟩
abbrev cX12_forget : ByteArray := prog_14_method_72_code
def yX12_forget : MethodName := ⟨RX12, "forget", "()I"⟩
abbrev cX12_isAsSeen : ByteArray := prog_14_method_73_code
def yX12_isAsSeen : MethodName := ⟨RX12, "isAsSeen", "()Z"⟩
abbrev cX12_lookAt : ByteArray := prog_14_method_74_code
def yX12_lookAt : MethodName := ⟨RX12, "lookAt", "(I)V"⟩
abbrev cX12_tryMoves : ByteArray := prog_14_method_75_code
def yX12_tryMoves : MethodName := ⟨RX12, "tryMoves", "(I)V"⟩
abbrev cX12_findMoves : ByteArray := prog_14_method_76_code
def yX12_findMoves : MethodName := ⟨RX12, "findMoves", "()V"⟩
abbrev cX12_moved : ByteArray := prog_14_method_77_code
def yX12_moved : MethodName := ⟨RX12, "moved", "(I)I"⟩
abbrev cX12_mostMoves : ByteArray := prog_14_method_78_code
def yX12_mostMoves : MethodName := ⟨RX12, "mostMoves", "(I)I"⟩
abbrev cX12_ask : ByteArray := prog_14_method_79_code
def yX12_ask : MethodName := ⟨RX12, "ask", "(I)I"⟩
abbrev cX12_northsBest : ByteArray := prog_14_method_80_code
def yX12_northsBest : MethodName := ⟨RX12, "northsBest", "()I"⟩
abbrev cX12_answered : ByteArray := prog_14_method_81_code
def yX12_answered : MethodName := ⟨RX12, "answered", "(I)I"⟩
abbrev cX12_crowns : ByteArray := prog_14_method_82_code
def yX12_crowns : MethodName := ⟨RX12, "crowns", "(I)I"⟩
abbrev cX12_lowest : ByteArray := prog_14_method_83_code
def yX12_lowest : MethodName := ⟨RX12, "lowest", "(JJI)J"⟩
abbrev cX12_strayOnce : ByteArray := prog_14_method_84_code
def yX12_strayOnce : MethodName := ⟨RX12, "strayOnce", "(II)V"⟩
abbrev cX12_goat : ByteArray := prog_14_method_85_code
def yX12_goat : MethodName := ⟨RX12, "goat", "(IIIII)J"⟩
abbrev cX12_year : ByteArray := prog_14_method_86_code
def yX12_year : MethodName := ⟨RX12, "year", "(III)I"⟩
abbrev cX12_pass : ByteArray := prog_14_method_87_code
def yX12_pass : MethodName := ⟨RX12, "pass", "(I)I"⟩
abbrev cX12_passRow : ByteArray := prog_14_method_88_code
def yX12_passRow : MethodName := ⟨RX12, "passRow", "([I)V"⟩
abbrev cX12_passAll : ByteArray := prog_14_method_89_code
def yX12_passAll : MethodName := ⟨RX12, "passAll", "()V"⟩
abbrev cX12_image : ByteArray := prog_14_method_90_code
def yX12_image : MethodName := ⟨RX12, "image", "(I)I"⟩
abbrev cX12_restore : ByteArray := prog_14_method_91_code
def yX12_restore : MethodName := ⟨RX12, "restore", "(I)I"⟩
abbrev cX12_toldOf : ByteArray := prog_14_method_92_code
def yX12_toldOf : MethodName := ⟨RX12, "toldOf", "(II)I"⟩
abbrev cX12_told : ByteArray := prog_14_method_93_code
def yX12_told : MethodName := ⟨RX12, "told", "(I)I"⟩
def RJ6 : String := "java/lang/Integer"
abbrev cJ6_bitCount_0f7a4 : ByteArray := prog_15_method_49_code
def yJ6_bitCount_0f7a4 : MethodName := ⟨RJ6, "bitCount", "(I)I"⟩
abbrev cJ6_signum_0f7a4 : ByteArray := prog_15_method_56_code
def yJ6_signum_0f7a4 : MethodName := ⟨RJ6, "signum", "(I)I"⟩
def RJ9 : String := "java/lang/Math"
abbrev cJ9_abs_0f7a4 : ByteArray := prog_16_method_59_code
def yJ9_abs_0f7a4 : MethodName := ⟨RJ9, "abs", "(I)I"⟩
abbrev cJ9_max_7cf53 : ByteArray := prog_16_method_65_code
def yJ9_max_7cf53 : MethodName := ⟨RJ9, "max", "(II)I"⟩
abbrev cJ9_min_7cf53 : ByteArray := prog_16_method_69_code
def yJ9_min_7cf53 : MethodName := ⟨RJ9, "min", "(II)I"⟩
def RJ10 : String := "java/lang/System"
def RL : String := "StandingLineLaw"
abbrev cL_law : ByteArray := code
def yL_law : MethodName := ⟨RL, "law", "([I)Z"⟩
abbrev vwCl : List vw_C := [(RX0, TX0, 4), (RX1, TX1, 8), (RX2, TX2, 4), (RX3, TX3, 3), (RX4, TX4, 3), (RX5, TX5, 2), (RX6, TX6, 4), (RX7, TX7, 4), (RX8, TX8, 3), (RX9, TX9, 3), (RX10, TX10, 1), (RX11, TX11, 10), (RX12, TX12, 43)]
end
section
/-! THE SMALL MACHINE: numbers are Int, a world is a function from cells and places to Int, references carry the kind of their cell -/
abbrev mj_V : Type := Int ⊕ (Int ⊕ ((Nat × Nat) × Nat))
abbrev iV (x : Int) : mj_V := Sum.inl x
abbrev jV (x : Int) : mj_V := Sum.inr (Sum.inl x)
abbrev rV (t n o : Nat) : mj_V := Sum.inr (Sum.inr ((t, n), o))
abbrev mj_W : Type := Nat → Int → Int
abbrev mj_L : Type := List (Option mj_V)
abbrev mj_E : Type := Nat × Instr × Nat × Nat × Nat × Int × List (Int × Nat)
abbrev mj_InR (x : Int) : Prop := -2147483648 ≤ x ∧ x ≤ 2147483647
abbrev mj_InL (x : Int) : Prop := -9223372036854775808 ≤ x ∧ x ≤ 9223372036854775807
def mj_up (σ : mj_W) (o : Nat) (i v : Int) : mj_W := fun o' i' => if o' = o ∧ i' = i then v else σ o' i'
def mj_cp (σ : mj_W) (a b : Nat) (n : Int) : mj_W := fun o' i' => if o' = b ∧ 0 ≤ i' ∧ i' < n then σ a i' else σ o' i'
def mj_vc (A k : Prop) : Prop := A ∧ k
theorem mj_vci {A k : Prop} (a : A) (b : k) : mj_vc A k := ⟨a, b⟩
theorem mj_ite {c a b : Prop} [Decidable c] (h1 : c → a) (h2 : ¬ c → b) : if c then a else b := by
  by_cases h : c
  · rw [if_pos h]; exact h1 h
  · rw [if_neg h]; exact h2 h
def mj_and (x y : Int) : Int := (Int32.ofInt x &&& Int32.ofInt y).toInt
def mj_or (x y : Int) : Int := (Int32.ofInt x ||| Int32.ofInt y).toInt
def mj_xor (x y : Int) : Int := (Int32.ofInt x ^^^ Int32.ofInt y).toInt
def mj_shl (x y : Int) : Int := (Int32.ofInt x <<< (Int32.ofInt y &&& 31)).toInt
def mj_shr (x y : Int) : Int := (Int32.ofInt x >>> (Int32.ofInt y &&& 31)).toInt
def mj_ush (x y : Int) : Int := ((Int32.ofInt x).toUInt32 >>> ((Int32.ofInt y).toUInt32 &&& Int32.toUInt32 31)).toInt32.toInt
def mj_east (i : Int) : Int := if i = 1 then 1 else if i = 3 then -1 else 0
def mj_north (i : Int) : Int := if i = 0 then 1 else if i = 2 then -1 else 0
/-- what each field of a class is: 0 an int, 1 a boolean, 2 a reference (how far its cell lies behind, its kind) -/
def mj_ft : List (List (Nat × Nat × Nat × Nat)) :=
 [
   [(2,1,1,0),(2,6,9,0),(2,9,6,0),(1,0,0,0)],
   [(2,1,20,8),(2,2,20,8),(2,3,20,8),(2,4,20,8),(0,0,0,0),(0,0,0,0),(0,0,0,0),(0,0,0,0)],
   [(0,0,0,0),(0,0,0,0),(0,0,0,0),(0,0,0,0)],
   [(2,1,20,256),(0,0,0,0),(0,0,0,0)],
   [(2,1,20,24),(0,0,0,0),(0,0,0,0)],
   [(2,1,20,60),(0,0,0,0)],
   [(2,1,20,8),(2,2,20,8),(2,3,20,8),(0,0,0,0)],
   [(2,1,20,169),(2,2,20,169),(0,0,0,0),(0,0,0,0)],
   [(0,0,0,0),(0,0,0,0),(0,0,0,0)],
   [(2,1,20,8),(2,2,20,8),(0,0,0,0)],
   [(0,0,0,0)],
   [(2,1,0,0),(2,14,23,2),(2,41,5,0),(2,43,2,0),(2,44,1,0),(2,49,8,0),(2,50,3,0),(2,52,4,0),(2,54,7,0),(2,57,10,0)],
   [(0,0,0,0),(2,1,20,8),(2,2,20,8),(2,3,20,8),(2,4,20,8),(0,0,0,0),(0,0,0,0),(0,0,0,0),(0,0,0,0),(2,5,20,8),(2,6,20,8),(2,7,20,8),(2,8,20,8),(2,9,20,8),(0,0,0,0),(2,10,20,60),(0,0,0,0),(2,11,20,60),(2,12,20,60),(2,13,20,60),(2,14,20,60),(0,0,0,0),(0,0,0,0),(2,15,20,33),(0,0,0,0),(0,0,0,0),(2,16,20,10),(2,17,20,10),(0,0,0,0),(0,0,0,0),(0,0,0,0),(0,0,0,0),(2,18,20,256),(2,19,20,8),(0,0,0,0),(0,0,0,0),(2,20,20,24),(2,21,22,169),(2,22,22,169),(2,23,20,180),(2,24,21,2),(0,0,0,0),(1,0,0,0)] ]
/-- of each cell its kind: a class and 0; 20 ints, 21 booleans, 22 longs, 23 books, and how many -/
def mj_kd : List (Nat × Nat) :=
 [(11,0), (0,0), (1,0), (20,8), (20,8), (20,8), (20,8), (9,0), (20,8), (20,8), (6,0), (20,8), (20,8), (20,8), (23,2), (0,0), (1,0), (20,8), (20,8), (20,8), (20,8), (9,0), (20,8), (20,8), (6,0), (20,8), (20,8), (20,8), (0,0), (1,0), (20,8), (20,8), (20,8), (20,8), (9,0), (20,8), (20,8), (6,0), (20,8), (20,8), (20,8), (5,0), (20,60), (2,0), (1,0), (20,8), (20,8), (20,8), (20,8), (8,0), (3,0), (20,256), (4,0), (20,24), (7,0), (20,169), (20,169), (10,0), (12,0), (20,8), (20,8), (20,8), (20,8), (20,8), (20,8), (20,8), (20,8), (20,8), (20,60), (20,60), (20,60), (20,60), (20,60), (20,33), (20,10), (20,10), (20,256), (20,8), (20,24), (22,169), (22,169), (20,180), (21,2)]
def mj_fi (t j : Nat) : Nat × Nat × Nat × Nat := (mj_ft.getD t []).getD j (9,0,0,0)
def mj_ld (l : mj_L) (i : Nat) : Option mj_V := match l[i]? with
  | some x => x
  | none => none
def mj_kl (l : mj_L) (i : Nat) : mj_L := match i with
  | 0 => l
  | j + 1 => match mj_ld l j with
    | some (.inr (.inl _)) => l.set j none
    | _ => l
def mj_sto1 (l : mj_L) (i : Nat) (v : mj_V) : mj_L := (mj_kl l i).set i (some v)
def mj_sto2 (l : mj_L) (i : Nat) (v : mj_V) : mj_L := ((mj_kl l i).set i (some v)).set (i + 1) none
/-- the same, told to a continuation: the list is laid out at once -/
def mj_stK : mj_L → Nat → mj_V → (mj_L → Prop) → Prop
  | [], _, _, c => c []
  | _ :: l, 0, v, c => c (some v :: l)
  | x :: l, 1, v, c => match x with
    | some (.inr (.inl _)) => mj_stK l 0 v (fun l' => c (none :: l'))
    | _ => mj_stK l 0 v (fun l' => c (x :: l'))
  | x :: l, i + 2, v, c => mj_stK l (i + 1) v (fun l' => c (x :: l'))
def mj_stN : mj_L → Nat → (mj_L → Prop) → Prop
  | [], _, c => c []
  | _ :: l, 0, c => c (none :: l)
  | x :: l, i + 1, c => mj_stN l i (fun l' => c (x :: l'))
theorem mj_stN_eq : ∀ (l : mj_L) (i : Nat) (c : mj_L → Prop), mj_stN l i c = c (l.set i none)
  | [], _, _ => rfl
  | _ :: _, 0, _ => rfl
  | x :: l, i + 1, c => mj_stN_eq l i (fun l' => c (x :: l'))
theorem mj_stK_eq : ∀ (l : mj_L) (i : Nat) (v : mj_V) (c : mj_L → Prop), mj_stK l i v c = c (mj_sto1 l i v)
  | [], 0, _, _ => rfl
  | [], 1, _, _ => rfl
  | [], i + 2, _, _ => rfl
  | _ :: _, 0, _, _ => rfl
  | none :: l, 1, v, c => mj_stK_eq l 0 v (fun l' => c (none :: l'))
  | some (.inl x) :: l, 1, v, c => mj_stK_eq l 0 v (fun l' => c (some (.inl x) :: l'))
  | some (.inr (.inl x)) :: l, 1, v, c => mj_stK_eq l 0 v (fun l' => c (none :: l'))
  | some (.inr (.inr x)) :: l, 1, v, c => mj_stK_eq l 0 v (fun l' => c (some (.inr (.inr x)) :: l'))
  | x :: l, i + 2, v, c => by
    have h := mj_stK_eq l (i + 1) v (fun l' => c (x :: l'))
    show mj_stK l (i + 1) v (fun l' => c (x :: l')) = _
    rw [h]
    unfold mj_sto1 mj_kl
    have e : mj_ld (x :: l) (i + 1) = mj_ld l i := rfl
    simp only [e]
    split <;> rfl
def mj_msk : mj_L → List Bool → mj_L
  | x :: l, true :: m => x :: mj_msk l m
  | _ :: l, false :: m => none :: mj_msk l m
  | l, [] => l
  | [], _ => []
def mj_sw (f : Nat → Prop) (x : Int) (d : Nat) : List (Int × Nat) → Prop
  | [] => f d
  | q :: r => if x = q.1 then f q.2 else mj_sw f x d r
def mj_br (c : Jvm.ClassFile.Cond) (x y : Int) (kt kf : Prop) : Prop := match c with
  | .eq => if x = y then kt else kf
  | .ne => if x = y then kf else kt
  | .lt => if x < y then kt else kf
  | .ge => if x < y then kf else kt
  | .gt => if y < x then kt else kf
  | .le => if y < x then kf else kt
def mj_cc (b : Nat) : Jvm.ClassFile.Cond := match b with
  | 0 => .eq | 1 => .ne | 2 => .lt | 3 => .ge | 4 => .gt | _ => .le
/-- how many words a stack takes -/
def mj_sz : List mj_V → Nat
  | [] => 0
  | .inl _ :: r => mj_sz r + 1
  | .inr (.inl _) :: r => mj_sz r + 2
  | .inr (.inr _) :: r => mj_sz r + 1
def mj_push (k : mj_L → List mj_V → mj_W → Prop) (loc : mj_L) (st : List mj_V) (r : Option mj_V) (σ : mj_W) : Prop := match r with
  | none => k loc st σ
  | some v => k loc (v :: st) σ
section
variable (k : Nat → mj_L → List mj_V → mj_W → Prop) (K : Option mj_V → mj_W → Prop) (C : Nat → List mj_V → mj_W → (Option mj_V → mj_W → Prop) → Prop) (Sx : Option (Int → Int))
def mj_x_ild (nx a : Nat) (loc : mj_L) (st : List mj_V) (σ : mj_W) : Prop := match mj_ld loc a with
  | some (.inl x) => k nx loc (iV x :: st) σ
  | _ => False
def mj_x_jld (nx a : Nat) (loc : mj_L) (st : List mj_V) (σ : mj_W) : Prop := match mj_ld loc a with
  | some (.inr (.inl x)) => k nx loc (jV x :: st) σ
  | _ => False
def mj_x_rld (nx a : Nat) (loc : mj_L) (st : List mj_V) (σ : mj_W) : Prop := match mj_ld loc a with
  | some (.inr (.inr q)) => k nx loc (.inr (.inr q) :: st) σ
  | _ => False
def mj_x_ist (nx a : Nat) (loc : mj_L) (st : List mj_V) (σ : mj_W) : Prop := match st with
  | .inl x :: r => mj_stK loc a (iV x) (fun l' => k nx l' r σ)
  | _ => False
def mj_x_rst (nx a : Nat) (loc : mj_L) (st : List mj_V) (σ : mj_W) : Prop := match st with
  | .inr (.inr q) :: r => mj_stK loc a (.inr (.inr q)) (fun l' => k nx l' r σ)
  | _ => False
def mj_x_jst (nx a : Nat) (loc : mj_L) (st : List mj_V) (σ : mj_W) : Prop := match st with
  | .inr (.inl x) :: r => mj_stK loc a (jV x) (fun l' => mj_stN l' (a + 1) (fun l' => k nx l' r σ))
  | _ => False
def mj_x_inc (nx a : Nat) (im : Int) (loc : mj_L) (st : List mj_V) (σ : mj_W) : Prop := match mj_ld loc a with
  | some (.inl x) => mj_vc (mj_InR (x + im)) (mj_stK loc a (iV (x + im)) (fun l' => k nx l' st σ))
  | _ => False
def mj_x_bin (f : Int → Int → Int) (nx : Nat) (loc : mj_L) (st : List mj_V) (σ : mj_W) : Prop := match st with
  | .inl y :: .inl x :: r => k nx loc (iV (f x y) :: r) σ
  | _ => False
def mj_x_iadd (nx : Nat) (loc : mj_L) (st : List mj_V) (σ : mj_W) : Prop := match st with
  | .inl y :: .inl x :: r => mj_vc (mj_InR (x + y)) (k nx loc (iV (x + y) :: r) σ)
  | _ => False
def mj_x_isub (nx : Nat) (loc : mj_L) (st : List mj_V) (σ : mj_W) : Prop := match st with
  | .inl y :: .inl x :: r => mj_vc (mj_InR (x - y)) (k nx loc (iV (x - y) :: r) σ)
  | _ => False
def mj_x_imul (nx : Nat) (loc : mj_L) (st : List mj_V) (σ : mj_W) : Prop := match st with
  | .inl y :: .inl x :: r => mj_vc (mj_InR (x * y)) (k nx loc (iV (x * y) :: r) σ)
  | _ => False
def mj_x_idiv (nx : Nat) (loc : mj_L) (st : List mj_V) (σ : mj_W) : Prop := match st with
  | .inl y :: .inl x :: r => mj_vc (0 ≤ x ∧ 0 < y) (k nx loc (iV (x / y) :: r) σ)
  | _ => False
def mj_x_irem (nx : Nat) (loc : mj_L) (st : List mj_V) (σ : mj_W) : Prop := match st with
  | .inl y :: .inl x :: r => mj_vc (0 ≤ x ∧ 0 < y) (k nx loc (iV (x % y) :: r) σ)
  | _ => False
def mj_x_ladd (nx : Nat) (loc : mj_L) (st : List mj_V) (σ : mj_W) : Prop := match st with
  | .inr (.inl y) :: .inr (.inl x) :: r => mj_vc (mj_InL (x + y)) (k nx loc (jV (x + y) :: r) σ)
  | _ => False
def mj_x_lmul (nx : Nat) (loc : mj_L) (st : List mj_V) (σ : mj_W) : Prop := match st with
  | .inr (.inl y) :: .inr (.inl x) :: r => mj_vc (mj_InL (x * y)) (k nx loc (jV (x * y) :: r) σ)
  | _ => False
def mj_x_ldiv (nx : Nat) (loc : mj_L) (st : List mj_V) (σ : mj_W) : Prop := match st with
  | .inr (.inl y) :: .inr (.inl x) :: r => mj_vc (0 ≤ x ∧ 0 < y) (k nx loc (jV (x / y) :: r) σ)
  | _ => False
def mj_x_lrem (nx : Nat) (loc : mj_L) (st : List mj_V) (σ : mj_W) : Prop := match st with
  | .inr (.inl y) :: .inr (.inl x) :: r => mj_vc (0 ≤ x ∧ 0 < y) (k nx loc (jV (x % y) :: r) σ)
  | _ => False
def mj_x_neg (nx : Nat) (loc : mj_L) (st : List mj_V) (σ : mj_W) : Prop := match st with
  | .inl x :: r => mj_vc (mj_InR (-x)) (k nx loc (iV (-x) :: r) σ)
  | _ => False
def mj_x_i2l (nx : Nat) (loc : mj_L) (st : List mj_V) (σ : mj_W) : Prop := match st with
  | .inl x :: r => k nx loc (jV x :: r) σ
  | _ => False
def mj_x_l2i (nx : Nat) (loc : mj_L) (st : List mj_V) (σ : mj_W) : Prop := match st with
  | .inr (.inl x) :: r => mj_vc (mj_InR x) (k nx loc (iV x :: r) σ)
  | _ => False
def mj_x_dup (nx : Nat) (loc : mj_L) (st : List mj_V) (σ : mj_W) : Prop := match st with
  | .inl x :: r => k nx loc (iV x :: iV x :: r) σ
  | .inr (.inr q) :: r => k nx loc (.inr (.inr q) :: .inr (.inr q) :: r) σ
  | _ => False
def mj_x_dup2 (nx : Nat) (loc : mj_L) (st : List mj_V) (σ : mj_W) : Prop := match st with
  | .inl x :: .inr (.inr q) :: r => k nx loc (iV x :: .inr (.inr q) :: iV x :: .inr (.inr q) :: r) σ
  | _ => False
def mj_x_if (c : Jvm.ClassFile.Cond) (nx a : Nat) (loc : mj_L) (st : List mj_V) (σ : mj_W) : Prop := match st with
  | .inl x :: r => mj_br c x 0 (k a loc r σ) (k nx loc r σ)
  | _ => False
def mj_x_icmp (c : Jvm.ClassFile.Cond) (nx a : Nat) (loc : mj_L) (st : List mj_V) (σ : mj_W) : Prop := match st with
  | .inl y :: .inl x :: r => mj_br c x y (k a loc r σ) (k nx loc r σ)
  | _ => False
def mj_x_lcmp (b nx a : Nat) (loc : mj_L) (st : List mj_V) (σ : mj_W) : Prop := match st with
  | .inr (.inl y) :: .inr (.inl x) :: r => mj_br (mj_cc b) x y (k a loc r σ) (k nx loc r σ)
  | _ => False
def mj_x_sw (a : Nat) (ts : List (Int × Nat)) (loc : mj_L) (st : List mj_V) (σ : mj_W) : Prop := match st with
  | .inl x :: r => mj_sw (fun t => k t loc r σ) x a ts
  | _ => False
def mj_x_get (nx a b : Nat) (im : Int) (loc : mj_L) (st : List mj_V) (σ : mj_W) : Prop := match st with
  | .inr (.inr ((t, _), o)) :: r => match Nat.beq t a with
    | true => match mj_fi a b with
      | (0, _, _, _) => k nx loc (iV (σ o im) :: r) σ
      | (1, _, _, _) => k nx loc (iV (σ o im) :: r) σ
      | (2, off, t', n') => k nx loc (rV t' n' (o + off) :: r) σ
      | _ => False
    | false => False
  | _ => False
def mj_x_put (nx a b : Nat) (im : Int) (loc : mj_L) (st : List mj_V) (σ : mj_W) : Prop := match st with
  | .inl x :: .inr (.inr ((t, _), o)) :: r => match Nat.beq t a with
    | true => match mj_fi a b with
      | (0, _, _, _) => k nx loc r (mj_up σ o im x)
      | (1, _, _, _) => mj_vc (x = 0 ∨ x = 1) (k nx loc r (mj_up σ o im x))
      | _ => False
    | false => False
  | _ => False
def mj_x_iald (nx : Nat) (loc : mj_L) (st : List mj_V) (σ : mj_W) : Prop := match st with
  | .inl i :: .inr (.inr ((t, n), o)) :: r => match t with
    | 20 => mj_vc (0 ≤ i ∧ i < (n : Int)) (k nx loc (iV (σ o i) :: r) σ)
    | 25 => mj_vc (0 ≤ i ∧ i < 4) (k nx loc (iV (mj_east i) :: r) σ)
    | 26 => mj_vc (0 ≤ i ∧ i < 4) (k nx loc (iV (mj_north i) :: r) σ)
    | 27 => match Sx with
      | some f => mj_vc (0 ≤ i ∧ i < (n : Int)) (k nx loc (iV (f i) :: r) σ)
      | none => False
    | _ => False
  | _ => False
def mj_x_iast (nx : Nat) (loc : mj_L) (st : List mj_V) (σ : mj_W) : Prop := match st with
  | .inl x :: .inl i :: .inr (.inr ((t, n), o)) :: r => match t with
    | 20 => mj_vc (0 ≤ i ∧ i < (n : Int)) (k nx loc r (mj_up σ o i x))
    | _ => False
  | _ => False
def mj_x_bald (nx : Nat) (loc : mj_L) (st : List mj_V) (σ : mj_W) : Prop := match st with
  | .inl i :: .inr (.inr ((t, n), o)) :: r => match t with
    | 21 => mj_vc (0 ≤ i ∧ i < (n : Int)) (k nx loc (iV (σ o i) :: r) σ)
    | _ => False
  | _ => False
def mj_x_bast (nx : Nat) (loc : mj_L) (st : List mj_V) (σ : mj_W) : Prop := match st with
  | .inl x :: .inl i :: .inr (.inr ((t, n), o)) :: r => match t with
    | 21 => mj_vc ((0 ≤ i ∧ i < (n : Int)) ∧ (x = 0 ∨ x = 1)) (k nx loc r (mj_up σ o i x))
    | _ => False
  | _ => False
def mj_x_jald (nx : Nat) (loc : mj_L) (st : List mj_V) (σ : mj_W) : Prop := match st with
  | .inl i :: .inr (.inr ((t, n), o)) :: r => match t with
    | 22 => mj_vc (0 ≤ i ∧ i < (n : Int)) (k nx loc (jV (σ o i) :: r) σ)
    | _ => False
  | _ => False
def mj_x_jast (nx : Nat) (loc : mj_L) (st : List mj_V) (σ : mj_W) : Prop := match st with
  | .inr (.inl x) :: .inl i :: .inr (.inr ((t, n), o)) :: r => match t with
    | 22 => mj_vc (0 ≤ i ∧ i < (n : Int)) (k nx loc r (mj_up σ o i x))
    | _ => False
  | _ => False
def mj_x_rald (nx : Nat) (loc : mj_L) (st : List mj_V) (σ : mj_W) : Prop := match st with
  | .inl i :: .inr (.inr ((t, _), o)) :: r => match t with
    | 23 => mj_vc (0 ≤ i ∧ i < 2) (if i = 0 then k nx loc (rV 0 0 (o + 1) :: r) σ else k nx loc (rV 0 0 (o + 14) :: r) σ)
    | _ => False
  | _ => False
def mj_x_len (nx : Nat) (loc : mj_L) (st : List mj_V) (σ : mj_W) : Prop := match st with
  | .inr (.inr ((t, n), _)) :: r => match t with
    | 27 => k nx loc (iV (n : Int) :: r) σ
    | _ => False
  | _ => False
def mj_x_call (nx a b : Nat) (loc : mj_L) (st : List mj_V) (σ : mj_W) : Prop := match Nat.ble (mj_sz (st.drop b)) 8, Nat.ble b st.length with
  | true, true => C a (st.take b).reverse σ (mj_push (k nx) loc (st.drop b))
  | _, _ => False
def mj_x_vcall (nx a b : Nat) (ts : List (Int × Nat)) (loc : mj_L) (st : List mj_V) (σ : mj_W) : Prop := match Nat.ble (mj_sz (st.drop b)) 8, Nat.ble b st.length, (st.take b).reverse, ts with
  | true, true, .inr (.inr ((t, n), o)) :: r, [q] => match Nat.beq t q.2 with
    | true => C a (rV t n o :: r) σ (mj_push (k nx) loc (st.drop b))
    | false => False
  | _, _, _, _ => False
def mj_x_inv (nx a b : Nat) (loc : mj_L) (st : List mj_V) (σ : mj_W) : Prop := match a with
  | 1000 => match st with
    | .inl n :: .inl dp :: .inr (.inr ((td, nd), d)) :: .inl sp :: .inr (.inr ((ts, ns), s)) :: r => match Nat.beq td 20, Nat.beq ts 20, Nat.ble r.length 4 with
      | true, true, true => mj_vc ((sp = 0 ∧ dp = 0) ∧ 0 ≤ n ∧ n ≤ (ns : Int) ∧ n ≤ (nd : Int)) (k nx loc r (mj_cp σ s d n))
      | _, _, _ => False
    | _ => False
  | 1001 => match st with
    | .inl y :: .inl x :: r => match Nat.ble r.length 4 with
      | true => k nx loc (iV (max x y) :: r) σ
      | false => False
    | _ => False
  | 1002 => match st with
    | .inl y :: .inl x :: r => match Nat.ble r.length 4 with
      | true => k nx loc (iV (min x y) :: r) σ
      | false => False
    | _ => False
  | 1003 => match st with
    | .inl x :: r => match Nat.ble r.length 4 with
      | true => mj_vc (-2147483648 < x) (k nx loc (iV (if x < 0 then -x else x) :: r) σ)
      | false => False
    | _ => False
  | _ => mj_x_call k C nx a b loc st σ
def mj_x_iret (b : Nat) (st : List mj_V) (σ : mj_W) : Prop := match st with
  | [.inl x] => match b with
    | 0 => K (some (iV x)) σ
    | _ => mj_vc (x = 0 ∨ x = 1) (K (some (iV x)) σ)
  | _ => False
def mj_x_jret (st : List mj_V) (σ : mj_W) : Prop := match st with
  | [.inr (.inl x)] => K (some (jV x)) σ
  | _ => False
def mj_x_vret (st : List mj_V) (σ : mj_W) : Prop := match st with
  | [] => K none σ
  | _ => False
def mj_x (q : mj_E) (loc : mj_L) (st : List mj_V) (σ : mj_W) : Prop := match q with
  | (_, ins, nx, a, b, im, ts) => match ins with
    | .iconst _ => k nx loc (iV im :: st) σ
    | .bipush _ => k nx loc (iV im :: st) σ
    | .sipush _ => k nx loc (iV im :: st) σ
    | .ldc _ => k nx loc (iV im :: st) σ
    | .ldc_w _ => k nx loc (iV im :: st) σ
    | .lconst _ => k nx loc (jV im :: st) σ
    | .ldc2_w _ => k nx loc (jV im :: st) σ
    | .iload _ => mj_x_ild k nx a loc st σ
    | .iload_n _ => mj_x_ild k nx a loc st σ
    | .lload _ => mj_x_jld k nx a loc st σ
    | .lload_n _ => mj_x_jld k nx a loc st σ
    | .aload _ => mj_x_rld k nx a loc st σ
    | .aload_n _ => mj_x_rld k nx a loc st σ
    | .istore _ => mj_x_ist k nx a loc st σ
    | .istore_n _ => mj_x_ist k nx a loc st σ
    | .astore _ => mj_x_rst k nx a loc st σ
    | .astore_n _ => mj_x_rst k nx a loc st σ
    | .lstore _ => mj_x_jst k nx a loc st σ
    | .iinc _ _ => mj_x_inc k nx a im loc st σ
    | .iadd => mj_x_iadd k nx loc st σ
    | .isub => mj_x_isub k nx loc st σ
    | .imul => mj_x_imul k nx loc st σ
    | .idiv => mj_x_idiv k nx loc st σ
    | .irem => mj_x_irem k nx loc st σ
    | .ineg => mj_x_neg k nx loc st σ
    | .iand => mj_x_bin k mj_and nx loc st σ
    | .ior => mj_x_bin k mj_or nx loc st σ
    | .ixor => mj_x_bin k mj_xor nx loc st σ
    | .ishl => mj_x_bin k mj_shl nx loc st σ
    | .ishr => mj_x_bin k mj_shr nx loc st σ
    | .iushr => mj_x_bin k mj_ush nx loc st σ
    | .ladd => mj_x_ladd k nx loc st σ
    | .lmul => mj_x_lmul k nx loc st σ
    | .ldiv => mj_x_ldiv k nx loc st σ
    | .lrem => mj_x_lrem k nx loc st σ
    | .i2l => mj_x_i2l k nx loc st σ
    | .l2i => mj_x_l2i k nx loc st σ
    | .dup => mj_x_dup k nx loc st σ
    | .dup2 => mj_x_dup2 k nx loc st σ
    | .goto _ => k nx loc st σ
    | .ifCond c _ => mj_x_if k c nx a loc st σ
    | .if_icmp c _ => mj_x_icmp k c nx a loc st σ
    | .lcmp => mj_x_lcmp k b nx a loc st σ
    | .tableswitch _ _ _ _ => mj_x_sw k a ts loc st σ
    | .lookupswitch _ _ => mj_x_sw k a ts loc st σ
    | .getfield _ => mj_x_get k nx a b im loc st σ
    | .putfield _ => mj_x_put k nx a b im loc st σ
    | .getstatic _ => match a with
      | 25 => k nx loc (rV 25 4 0 :: st) σ
      | 26 => k nx loc (rV 26 4 0 :: st) σ
      | _ => False
    | .iaload => mj_x_iald k Sx nx loc st σ
    | .iastore => mj_x_iast k nx loc st σ
    | .baload => mj_x_bald k nx loc st σ
    | .bastore => mj_x_bast k nx loc st σ
    | .laload => mj_x_jald k nx loc st σ
    | .lastore => mj_x_jast k nx loc st σ
    | .aaload => mj_x_rald k nx loc st σ
    | .arraylength => mj_x_len k nx loc st σ
    | .invokevirtual _ => mj_x_vcall k C nx a b ts loc st σ
    | .invokestatic _ => mj_x_inv k C nx a b loc st σ
    | .ireturn => mj_x_iret K b st σ
    | .lreturn => mj_x_jret K st σ
    | .return_ => mj_x_vret K st σ
    | _ => False
end
def mj_get (pc : Nat) : List (Nat × List mj_E) → Option mj_E
  | [] => none
  | q :: r => match Nat.ble q.1 pc with
    | true => mj_get pc r
    | false => q.2.find? (fun e => Nat.beq e.1 pc)
def mj_cut (pc : Nat) : List (Nat × List Bool) → Option (List Bool)
  | [] => none
  | q :: r => match Nat.beq q.1 pc with
    | true => some q.2
    | false => mj_cut pc r
def mj_wp (tb : List (Nat × List mj_E)) (cuts : List (Nat × List Bool)) (k0 : Nat → mj_L → List mj_V → mj_W → Prop) (K : Option mj_V → mj_W → Prop) (C : Nat → List mj_V → mj_W → (Option mj_V → mj_W → Prop) → Prop) (Sx : Option (Int → Int)) : Nat → Nat → mj_L → List mj_V → mj_W → Prop
  | 0, pc, loc, st, σ => k0 pc loc st σ
  | f + 1, pc, loc, st, σ => match mj_get pc tb with
    | none => False
    | some q => mj_x (fun pc' loc' st' σ' => match mj_cut pc' cuts with
        | some ms => k0 pc' (mj_msk loc' ms) st' σ'
        | none => mj_wp tb cuts k0 K C Sx f pc' loc' st' σ') K C Sx q loc st σ
end
section
/-! THE SMALL MACHINE HOLDS OF THE REAL ONE: words -/
/-- the tables' words that a method's contract may rest on -/
def mj_tb : List Cond := lw_tbl.filter goodWord
theorem mj_tb_mem {w : Cond} (h : w ∈ lw_tbl) (hg : goodWord w = true) : w ∈ mj_tb := List.mem_filter.mpr ⟨h, hg⟩
abbrev mj_Cs : Type := ClassId × ClassId × ClassId × ClassId
abbrev mj_Sa : Type := Nat × Nat × Nat × Nat × (Int → Int)
abbrev mj_NC : Nat := 83
def mj_v (ad : Nat → Nat) (sa : mj_Sa) : mj_V → Value
  | .inl x => .int (Int32.ofInt x)
  | .inr (.inl x) => .long (Int64.ofInt x)
  | .inr (.inr ((t, _), o)) => .ref (if t < 24 then ad o else if t = 25 then sa.1 else if t = 26 then sa.2.1 else sa.2.2.1)
def mj_fv (ad : Nat → Nat) (σ : mj_W) (t o j : Nat) : Value := if (mj_fi t j).1 = 2 then .ref (ad (o + (mj_fi t j).2.1)) else .int (Int32.ofInt (σ o (j : Int)))
def mj_fn (t : Nat) : Nat := (mj_ft.getD t []).length
def mj_ce (cs : mj_Cs) (ad : Nat → Nat) (σ : mj_W) (o : Nat) : va_E := match mj_kd.getD o (99, 0) with
  | (20, n) => .inl (cs.1, n, .inl (fun j => Int32.ofInt (σ o (j : Int))))
  | (21, n) => .inl (cs.2.1, n, .inl (fun j => Int32.ofInt (σ o (j : Int))))
  | (22, n) => .inl (cs.2.2.1, n, .inr (.inl (fun j => Int64.ofInt (σ o (j : Int)))))
  | (23, n) => .inl (cs.2.2.2, n, .inr (.inr (.inr (.inr (fun j => if j = 0 then some (ad (o + 1)) else some (ad (o + 14)))))))
  | (t, _) => .inr (t, (List.range (mj_fn t)).map (mj_fv ad σ t o))
def mj_ws (cs : mj_Cs) (ad : Nat → Nat) (σ : mj_W) : va_W := (List.range mj_NC).map (fun o => (ad o, mj_ce cs ad σ o))
def mj_ty (cs : mj_Cs) : List (ClassId × FieldType) := [(cs.1, .int), (cs.2.1, .boolean), (cs.2.2.1, .long), (cs.2.2.2, .object "StandingLine$Book")]
def mj_ln (o : Nat) : Nat := if (mj_kd.getD o (99, 0)).1 < 20 then mj_fn (mj_kd.getD o (99, 0)).1 else (mj_kd.getD o (99, 0)).2
/-- what every world holds: numbers within their types, and 0 beyond a cell's places -/
def mj_rg (σ : mj_W) : Prop := ∀ (o : Nat) (i : Int), (if mj_kd.getD o (99, 0) = (22, 169) then mj_InL (σ o i) else mj_InR (σ o i)) ∧ (¬ (0 ≤ i ∧ i < (mj_ln o : Int)) → σ o i = 0)
def mj_ok (sa : mj_Sa) : mj_V → Prop
  | .inl x => mj_InR x
  | .inr (.inl x) => mj_InL x
  | .inr (.inr ((t, n), o)) => (t < 24 ∧ o < mj_NC ∧ mj_kd.getD o (99, 0) = (t, n)) ∨ (t = 25 ∧ n = 4) ∨ (t = 26 ∧ n = 4) ∨ (t = 27 ∧ n = sa.2.2.2.1)
def mj_isN : Cond → Bool
  | .fieldLinkNest _ _ _ _ _ _ => true
  | .methodLinkNest _ _ _ _ => true
  | _ => false
/-- the words on nest mates' private members: they are carried along, state by state -/
def mj_Ns (U : State) : Prop := ∀ w ∈ lw_tbl, mj_isN w = true → va_Nw w U
def mj_St (A : Nat → Prop) (sa : mj_Sa) (U : State) : Prop := va_Z "StandingLine" "EAST_BY" "[I" (.ref sa.1) A U U.heap ∧ va_T .int sa.1 4 (fun j => .int (Int32.ofInt (mj_east (j : Int)))) A U U.heap ∧ va_Z "StandingLine" "NORTH_BY" "[I" (.ref sa.2.1) A U U.heap ∧ va_T .int sa.2.1 4 (fun j => .int (Int32.ofInt (mj_north (j : Int)))) A U U.heap ∧ mj_Ns U
def mj_Sc (A : Nat → Prop) (sa : mj_Sa) (U : State) : Prop := va_X sa.2.2.1 sa.2.2.2.1 (fun j => Int32.ofInt (sa.2.2.2.2 (j : Int))) U U.heap ∧ sa.2.2.1 < U.heap.size ∧ ¬ A sa.2.2.1 ∧ (∀ i, mj_InR (sa.2.2.2.2 i)) ∧ sa.2.2.2.1 < 2 ^ 31
def mj_Lh (ad : Nat → Nat) (sa : mj_Sa) (ls : Array Slot) (nL : Nat) (loc : mj_L) : Prop := ls.size = nL ∧ lv_wf ls ∧ ∀ (i : Nat) (v : mj_V), mj_ld loc i = some v → ls[i]? = some (.val (mj_v ad sa v)) ∧ mj_ok sa v
def mj_rm (n : Nat) : Room := { frames := n, cells := 0, slots := 0, locals := 64 * n }
def mj_Cx (p : Program) (R : Room) (s : State) (m : MethodId) (args : Array Value) (c : Code) (D : va_G) (cs : mj_Cs) (A : Nat → Prop) (ad : Nat → Nat) (sa : mj_Sa) (cu su : Nat) (own : String) (cc : ByteArray) (nL n : Nat) : Prop :=
  p.tables.exec = Jvm.exec ∧ c.code = cc ∧ c.maxLocals = nL ∧ s.vm.findClass own = some m.cls ∧ (∀ w ∈ mj_tb, w.before args s = true) ∧ va_K D vwCl (mj_ty cs) s ∧ (∀ σ : mj_W, va_D A (mj_ws cs ad σ)) ∧ mj_St A sa s ∧ mj_Sc A sa s ∧ (n ≤ R.frames ∧ 64 * n ≤ R.locals ∧ cu ≤ R.cells ∧ su ≤ R.slots)
def mj_B (p : Program) (l : Launch) (e : Env) (R : Room) (s : State) (m : MethodId) (args : Array Value) (below : List Frame) (meth : Method) (c : Code) (D : va_G) (cs : mj_Cs) (A : Nat → Prop) (ad : Nat → Nat) (sa : mj_Sa) (cu su : Nat) (Q : State → Prop) (nL pc : Nat) (loc : mj_L) (st : List mj_V) (σ : mj_W) : Prop :=
  ∀ (H : Heap) (locs : List Loc) (ls : Array Slot), va_P D vwCl (mj_ws cs ad σ) H → va_S A s.heap H locs → mj_rg σ → mj_Lh ad sa ls nL loc → (∀ v ∈ st, mj_ok sa v) → W p l e R s m args below meth c H locs cu su Q (F0 m pc ls (st.map (mj_v ad sa)))
/-! numbers -/
theorem mj_tI {x : Int} (h : mj_InR x) : (Int32.ofInt x).toInt = x := Int32.toInt_ofInt_of_le (by omega) (by omega)
theorem mj_tL {x : Int} (h : mj_InL x) : (Int64.ofInt x).toInt = x := Int64.toInt_ofInt_of_le (by omega) (by omega)
theorem mj_eqI {x y : Int} (hx : mj_InR x) (hy : mj_InR y) : Int32.ofInt x = Int32.ofInt y ↔ x = y := by
  rw [← Int32.toInt_inj, mj_tI hx, mj_tI hy]
theorem mj_ltI {x y : Int} (hx : mj_InR x) (hy : mj_InR y) : Int32.ofInt x < Int32.ofInt y ↔ x < y := by
  rw [Int32.lt_iff_toInt_lt, mj_tI hx, mj_tI hy]
theorem mj_leI {x y : Int} (hx : mj_InR x) (hy : mj_InR y) : Int32.ofInt x ≤ Int32.ofInt y ↔ x ≤ y := by
  rw [Int32.le_iff_toInt_le, mj_tI hx, mj_tI hy]
theorem mj_ltL {x y : Int} (hx : mj_InL x) (hy : mj_InL y) : Int64.ofInt x < Int64.ofInt y ↔ x < y := by
  rw [Int64.lt_iff_toInt_lt, mj_tL hx, mj_tL hy]
theorem mj_eqL {x y : Int} (hx : mj_InL x) (hy : mj_InL y) : Int64.ofInt x = Int64.ofInt y ↔ x = y := by
  rw [← Int64.toInt_inj, mj_tL hx, mj_tL hy]
theorem mj_z : Int32.ofInt 0 = 0 := by decide
theorem mj_rI (x : Int32) : mj_InR x.toInt := by
  have h1 := Int32.toInt_lt x
  have h2 := Int32.le_toInt x
  omega
theorem mj_cl {x : Int} (h : mj_InR x) : (Int32.ofInt x).toNatClampNeg = x.toNat := by
  show (Int32.ofInt x).toInt.toNat = x.toNat
  rw [mj_tI h]
theorem mj_in {x : Int} {n : Nat} (h : 0 ≤ x ∧ x < (n : Int)) (hr : mj_InR x) : vp_in (Int32.ofInt x) n := by
  rw [vp_in_iff, mj_tI hr]
  exact h
theorem mj_ofI {x : Int32} {y : Int} (h : x.toInt = y) : x = Int32.ofInt y := by rw [← h, Int32.ofInt_toInt]
theorem mj_ofL {x : Int64} {y : Int} (h : x.toInt = y) : x = Int64.ofInt y := by rw [← h, Int64.ofInt_toInt]
theorem mj_bm {x : Int} (h : mj_InR x) : x.bmod (2 ^ 32) = x := by
  have := mj_tI h
  rw [Int32.toInt_ofInt] at this
  exact this
theorem mj_bmL {x : Int} (h : mj_InL x) : x.bmod (2 ^ 64) = x := by
  have := mj_tL h
  rw [Int64.toInt_ofInt] at this
  exact this
theorem mj_qI {x y : Int} (hx : mj_InR x) (hy : mj_InR y) (h0 : 0 ≤ x) (h1 : 0 < y) : Int32.ofInt x / Int32.ofInt y = Int32.ofInt (x / y) ∧ mj_InR (x / y) := by
  have h2 : 0 ≤ x / y := Int.ediv_nonneg h0 (by omega)
  have h3 : x / y ≤ x := Int.ediv_le_self y h0
  have h4 : mj_InR (x / y) := by omega
  refine ⟨mj_ofI ?_, h4⟩
  rw [Int32.toInt_div, mj_tI hx, mj_tI hy, Int.tdiv_eq_ediv_of_nonneg h0, mj_bm h4]
theorem mj_mI {x y : Int} (hx : mj_InR x) (hy : mj_InR y) (h0 : 0 ≤ x) (h1 : 0 < y) : Int32.ofInt x - Int32.ofInt x / Int32.ofInt y * Int32.ofInt y = Int32.ofInt (x % y) ∧ mj_InR (x % y) := by
  have h2 : 0 ≤ x % y := Int.emod_nonneg x (by omega)
  have h3 : x % y < y := Int.emod_lt_of_pos x h1
  refine ⟨?_, by omega⟩
  rw [(mj_qI hx hy h0 h1).1, ← Int32.ofInt_mul, ← Int32.ofInt_sub]
  congr 1
  have := Int.mul_ediv_add_emod x y
  rw [Int.mul_comm] at this
  omega
theorem mj_qL {x y : Int} (hx : mj_InL x) (hy : mj_InL y) (h0 : 0 ≤ x) (h1 : 0 < y) : Int64.ofInt x / Int64.ofInt y = Int64.ofInt (x / y) ∧ mj_InL (x / y) := by
  have h2 : 0 ≤ x / y := Int.ediv_nonneg h0 (by omega)
  have h3 : x / y ≤ x := Int.ediv_le_self y h0
  have h4 : mj_InL (x / y) := by omega
  refine ⟨mj_ofL ?_, h4⟩
  rw [Int64.toInt_div, mj_tL hx, mj_tL hy, Int.tdiv_eq_ediv_of_nonneg h0, mj_bmL h4]
theorem mj_mL {x y : Int} (hx : mj_InL x) (hy : mj_InL y) (h0 : 0 ≤ x) (h1 : 0 < y) : Int64.ofInt x - Int64.ofInt x / Int64.ofInt y * Int64.ofInt y = Int64.ofInt (x % y) ∧ mj_InL (x % y) := by
  have h2 : 0 ≤ x % y := Int.emod_nonneg x (by omega)
  have h3 : x % y < y := Int.emod_lt_of_pos x h1
  refine ⟨?_, by omega⟩
  rw [(mj_qL hx hy h0 h1).1, ← Int64.ofInt_mul, ← Int64.ofInt_sub]
  congr 1
  have := Int.mul_ediv_add_emod x y
  rw [Int.mul_comm] at this
  omega
/-! cells -/
theorem mj_ws_at (cs : mj_Cs) (ad : Nat → Nat) (σ : mj_W) {o : Nat} (h : o < mj_NC) : (mj_ws cs ad σ)[o]? = some (ad o, mj_ce cs ad σ o) := by
  simp [mj_ws, h]
theorem mj_ce_o (cs : mj_Cs) (ad : Nat → Nat) (σ : mj_W) {o t n : Nat} (h : mj_kd.getD o (99, 0) = (t, n)) (ht : t < 20) : mj_ce cs ad σ o = .inr (t, (List.range (mj_fn t)).map (mj_fv ad σ t o)) := by
  unfold mj_ce
  rw [h]
  split
  · rename_i heq; cases heq; omega
  · rename_i heq; cases heq; omega
  · rename_i heq; cases heq; omega
  · rename_i heq; cases heq; omega
  · rename_i heq; cases heq; rfl
theorem mj_ce_i (cs : mj_Cs) (ad : Nat → Nat) (σ : mj_W) {o n : Nat} (h : mj_kd.getD o (99, 0) = (20, n)) : mj_ce cs ad σ o = .inl (cs.1, n, .inl (fun j => Int32.ofInt (σ o (j : Int)))) := by
  unfold mj_ce
  rw [h]
  rfl
theorem mj_ce_z (cs : mj_Cs) (ad : Nat → Nat) (σ : mj_W) {o n : Nat} (h : mj_kd.getD o (99, 0) = (21, n)) : mj_ce cs ad σ o = .inl (cs.2.1, n, .inl (fun j => Int32.ofInt (σ o (j : Int)))) := by
  unfold mj_ce
  rw [h]
  rfl
theorem mj_ce_j (cs : mj_Cs) (ad : Nat → Nat) (σ : mj_W) {o n : Nat} (h : mj_kd.getD o (99, 0) = (22, n)) : mj_ce cs ad σ o = .inl (cs.2.2.1, n, .inr (.inl (fun j => Int64.ofInt (σ o (j : Int))))) := by
  unfold mj_ce
  rw [h]
  rfl
theorem mj_ce_q (cs : mj_Cs) (ad : Nat → Nat) (σ : mj_W) {o n : Nat} (h : mj_kd.getD o (99, 0) = (23, n)) : mj_ce cs ad σ o = .inl (cs.2.2.2, n, .inr (.inr (.inr (.inr (fun j => if j = 0 then some (ad (o + 1)) else some (ad (o + 14))))))) := by
  unfold mj_ce
  rw [h]
  rfl
theorem mj_ce_n (cs : mj_Cs) (ad : Nat → Nat) {σ σ' : mj_W} {o : Nat} (h : ∀ i, σ' o i = σ o i) : mj_ce cs ad σ' o = mj_ce cs ad σ o := by
  have h1 : ∀ t, mj_fv ad σ' t o = mj_fv ad σ t o := by
    intro t
    funext j
    unfold mj_fv
    rw [h]
  unfold mj_ce
  simp only [h, h1]
theorem mj_ws_set (cs : mj_Cs) (ad : Nat → Nat) {σ σ' : mj_W} {o : Nat} {e : va_E} (ho : o < mj_NC) (hn : ∀ o', o' ≠ o → ∀ i, σ' o' i = σ o' i) (he : e = mj_ce cs ad σ' o) : (mj_ws cs ad σ).set o (ad o, e) = mj_ws cs ad σ' := by
  apply List.ext_getElem?
  intro k
  rw [List.getElem?_set]
  by_cases hk : o = k
  · subst hk
    rw [if_pos rfl, mj_ws_at cs ad σ' ho, he]
    simp [mj_ws, ho]
  · rw [if_neg hk]
    simp only [mj_ws, List.getElem?_map]
    cases hr : (List.range mj_NC)[k]? with
    | none => rfl
    | some k' =>
      have : k' = k := by
        have := List.getElem?_eq_some_iff.mp hr
        obtain ⟨h1, h2⟩ := this
        simpa using h2.symm
      subst this
      simp only [Option.map_some]
      rw [mj_ce_n cs ad (hn k' (fun q => hk q.symm))]
theorem mj_ln_o {o t n : Nat} (h : mj_kd.getD o (99, 0) = (t, n)) (ht : t < 20) : mj_ln o = mj_fn t := by
  unfold mj_ln
  rw [h, if_pos ht]
theorem mj_ln_a {o t n : Nat} (h : mj_kd.getD o (99, 0) = (t, n)) (ht : ¬ t < 20) : mj_ln o = n := by
  unfold mj_ln
  rw [h, if_neg ht]
theorem mj_rg_up {σ : mj_W} (h : mj_rg σ) {o : Nat} {i v : Int} (hi : 0 ≤ i ∧ i < (mj_ln o : Int)) (hv : if mj_kd.getD o (99, 0) = (22, 169) then mj_InL v else mj_InR v) : mj_rg (mj_up σ o i v) := by
  intro o' i'
  unfold mj_up
  by_cases hc : o' = o ∧ i' = i
  · rw [if_pos hc, hc.1, hc.2]; exact ⟨hv, fun q => absurd hi q⟩
  · rw [if_neg hc]; exact h o' i'
theorem mj_rg_i {σ : mj_W} (h : mj_rg σ) {o t n : Nat} (hk : mj_kd.getD o (99, 0) = (t, n)) (ht : t ≠ 22) (i : Int) : mj_InR (σ o i) := by
  have := (h o i).1
  rw [if_neg (by rw [hk]; intro q; cases q; exact ht rfl)] at this
  exact this
theorem mj_rg_j {σ : mj_W} (h : mj_rg σ) (o : Nat) (i : Int) : mj_InL (σ o i) := by
  have := (h o i).1
  by_cases hc : mj_kd.getD o (99, 0) = (22, 169)
  · rw [if_pos hc] at this; exact this
  · rw [if_neg hc] at this; omega
theorem mj_rg_z {σ : mj_W} (h : mj_rg σ) (o : Nat) (i : Int) (hi : ¬ (0 ≤ i ∧ i < (mj_ln o : Int))) : σ o i = 0 := (h o i).2 hi
end
section
/-! locals -/
theorem mj_ld_set (l : mj_L) (i j : Nat) (x : Option mj_V) (w : mj_V) (h : mj_ld (l.set i x) j = some w) : (j = i ∧ x = some w) ∨ (j ≠ i ∧ mj_ld l j = some w) := by
  unfold mj_ld at h ⊢
  rw [List.getElem?_set] at h
  by_cases hc : i = j
  · rw [if_pos hc] at h
    by_cases hl : i < l.length
    · rw [if_pos hl] at h
      exact Or.inl ⟨hc.symm, h⟩
    · rw [if_neg hl] at h
      cases h
  · rw [if_neg hc] at h
    exact Or.inr ⟨fun q => hc q.symm, h⟩
theorem mj_kl_ld (l : mj_L) (i j : Nat) (w : mj_V) (h : mj_ld (mj_kl l i) j = some w) : mj_ld l j = some w ∧ ¬ (j + 1 = i ∧ ∃ x, w = jV x) := by
  unfold mj_kl at h
  split at h
  · exact ⟨h, fun q => by omega⟩
  · rename_i k
    split at h
    · rcases mj_ld_set _ _ _ _ _ h with ⟨_, q⟩ | ⟨hne, hh⟩
      · cases q
      · exact ⟨hh, fun q => hne (by omega)⟩
    · rename_i hno
      refine ⟨h, ?_⟩
      rintro ⟨e1, x, rfl⟩
      have e2 : j = k := by omega
      subst e2
      exact hno x h
theorem mj_sto1_ld (l : mj_L) (i j : Nat) (v w : mj_V) (h : mj_ld (mj_sto1 l i v) j = some w) : (j = i ∧ v = w) ∨ (j ≠ i ∧ mj_ld l j = some w ∧ ¬ (j + 1 = i ∧ ∃ x, w = jV x)) := by
  rcases mj_ld_set _ _ _ _ _ h with ⟨e, q⟩ | ⟨hne, hh⟩
  · exact Or.inl ⟨e, Option.some.inj q⟩
  · obtain ⟨h1, h2⟩ := mj_kl_ld _ _ _ _ hh
    exact Or.inr ⟨hne, h1, h2⟩
theorem mj_sto2_ld (l : mj_L) (i j : Nat) (v w : mj_V) (h : mj_ld (mj_sto2 l i v) j = some w) : (j = i ∧ v = w) ∨ (j ≠ i ∧ j ≠ i + 1 ∧ mj_ld l j = some w ∧ ¬ (j + 1 = i ∧ ∃ x, w = jV x)) := by
  rcases mj_ld_set _ _ _ _ _ h with ⟨e, q⟩ | ⟨hne, hh⟩
  · cases q
  · rcases mj_ld_set _ _ _ _ _ hh with ⟨e, q⟩ | ⟨hne2, hh⟩
    · exact Or.inl ⟨e, Option.some.inj q⟩
    · obtain ⟨h1, h2⟩ := mj_kl_ld _ _ _ _ hh
      exact Or.inr ⟨hne2, hne, h1, h2⟩
def mj_prs (ad : Nat → Nat) (sa : mj_Sa) (l : mj_L) : List (Nat × Value) := (List.range l.length).filterMap (fun i => (mj_ld l i).map (fun v => (i, mj_v ad sa v)))
theorem mj_prs_mem {ad : Nat → Nat} {sa : mj_Sa} {l : mj_L} {q : Nat × Value} (h : q ∈ mj_prs ad sa l) : ∃ v, mj_ld l q.1 = some v ∧ q.2 = mj_v ad sa v := by
  obtain ⟨i, -, hi⟩ := List.mem_filterMap.mp h
  cases hv : mj_ld l i with
  | none => rw [hv] at hi; cases hi
  | some v =>
    rw [hv] at hi
    cases hi
    exact ⟨v, hv, rfl⟩
theorem mj_ld_lt {l : mj_L} {i : Nat} {v : mj_V} (h : mj_ld l i = some v) : i < l.length := by
  unfold mj_ld at h
  split at h
  · rename_i x hx
    exact (List.getElem?_eq_some_iff.mp hx).1
  · cases h
theorem mj_mem_prs {ad : Nat → Nat} {sa : mj_Sa} {l : mj_L} {i : Nat} {v : mj_V} (h : mj_ld l i = some v) : (i, mj_v ad sa v) ∈ mj_prs ad sa l := by
  refine List.mem_filterMap.mpr ⟨i, List.mem_range.mpr (mj_ld_lt h), ?_⟩
  rw [h]
  rfl
theorem mj_Lh.has {ad : Nat → Nat} {sa : mj_Sa} {ls : Array Slot} {nL : Nat} {l : mj_L} (h : mj_Lh ad sa ls nL l) : lv_has ls nL (mj_prs ad sa l) := by
  refine ⟨h.1, h.2.1, fun q hq => ?_⟩
  obtain ⟨v, h1, h2⟩ := mj_prs_mem hq
  rw [h2]
  exact (h.2.2 _ _ h1).1
theorem mj_cat {ad : Nat → Nat} {sa : mj_Sa} (v : mj_V) (h : ¬ ∃ x, v = jV x) : (mj_v ad sa v).category = 1 := by
  match v, h with
  | .inl _, _ => rfl
  | .inr (.inl x), h => exact absurd ⟨x, rfl⟩ h
  | .inr (.inr ((_, _), _)), _ => rfl
theorem mj_Lh.sto1 {ad : Nat → Nat} {sa : mj_Sa} {ls ls' : Array Slot} {nL i : Nat} {l : mj_L} {v : mj_V} (h : mj_Lh ad sa ls nL l) (hv : mj_ok sa v)
    (hh : lv_has ls' nL ((i, mj_v ad sa v) :: (mj_prs ad sa l).filter (fun q => !(q.1 == i) && !(q.1 + 1 == i && q.2.category == 2)))) : mj_Lh ad sa ls' nL (mj_sto1 l i v) := by
  refine ⟨hh.1, hh.2.1, fun j w hw => ?_⟩
  rcases mj_sto1_ld _ _ _ _ _ hw with ⟨rfl, rfl⟩ | ⟨hne, h1, h2⟩
  · exact ⟨hh.2.2 (j, mj_v ad sa v) List.mem_cons_self, hv⟩
  · refine ⟨hh.2.2 (j, mj_v ad sa w) (List.mem_cons_of_mem _ (List.mem_filter.mpr ⟨mj_mem_prs h1, ?_⟩)), (h.2.2 _ _ h1).2⟩
    by_cases hj : j + 1 = i
    · have := mj_cat (ad := ad) (sa := sa) w (fun q => h2 ⟨hj, q⟩)
      simp [hne, this]
    · simp [hne, hj]
theorem mj_Lh.sto2 {ad : Nat → Nat} {sa : mj_Sa} {ls ls' : Array Slot} {nL i : Nat} {l : mj_L} {v : mj_V} (h : mj_Lh ad sa ls nL l) (hv : mj_ok sa v)
    (hh : lv_has ls' nL ((i, mj_v ad sa v) :: (mj_prs ad sa l).filter (fun q => !(q.1 == i) && (!(q.1 == i + 1) && !(q.1 + 1 == i && q.2.category == 2))))) : mj_Lh ad sa ls' nL (mj_sto2 l i v) := by
  refine ⟨hh.1, hh.2.1, fun j w hw => ?_⟩
  rcases mj_sto2_ld _ _ _ _ _ hw with ⟨rfl, rfl⟩ | ⟨hne, hn2, h1, h2⟩
  · exact ⟨hh.2.2 (j, mj_v ad sa v) List.mem_cons_self, hv⟩
  · refine ⟨hh.2.2 (j, mj_v ad sa w) (List.mem_cons_of_mem _ (List.mem_filter.mpr ⟨mj_mem_prs h1, ?_⟩)), (h.2.2 _ _ h1).2⟩
    by_cases hj : j + 1 = i
    · have := mj_cat (ad := ad) (sa := sa) w (fun q => h2 ⟨hj, q⟩)
      simp [hne, hn2, this]
    · simp [hne, hn2, hj]
theorem mj_msk_ld : ∀ (l : mj_L) (ms : List Bool) (i : Nat) (v : mj_V), mj_ld (mj_msk l ms) i = some v → mj_ld l i = some v
  | x :: l, true :: m, 0, v, h => h
  | x :: l, true :: m, i + 1, v, h => mj_msk_ld l m i v h
  | x :: l, false :: m, 0, v, h => by cases h
  | x :: l, false :: m, i + 1, v, h => mj_msk_ld l m i v h
  | l, [], i, v, h => by
    have : mj_msk l [] = l := by cases l <;> rfl
    rw [this] at h
    exact h
  | [], b :: m, i, v, h => by
    have : mj_msk [] (b :: m) = [] := by cases b <;> rfl
    rw [this] at h
    exact h
theorem mj_Lh.msk {ad : Nat → Nat} {sa : mj_Sa} {ls : Array Slot} {nL : Nat} {l : mj_L} (h : mj_Lh ad sa ls nL l) (ms : List Bool) : mj_Lh ad sa ls nL (mj_msk l ms) :=
  ⟨h.1, h.2.1, fun i v hv => h.2.2 i v (mj_msk_ld _ _ _ _ hv)⟩
/-! one instruction -/
section MJ
variable {p : Program} {l : Launch} {e : Env} {R : Room} {s : State} {m : MethodId} {args : Array Value} {below : List Frame} {meth : Method} {c : Code} {D : va_G} {cs : mj_Cs} {A : Nat → Prop} {ad : Nat → Nat} {sa : mj_Sa} {cu su : Nat} {Q : State → Prop} {own : String} {cc : ByteArray} {nL n : Nat}
variable {pc nx a b : Nat} {im : Int} {ts : List (Int × Nat)} {loc : mj_L} {st : List mj_V} {σ : mj_W}
theorem mj_c1 {v : mj_V} {r : List mj_V} (h : ∀ x ∈ v :: r, mj_ok sa x) : mj_ok sa v ∧ ∀ x ∈ r, mj_ok sa x := ⟨h v List.mem_cons_self, fun x hx => h x (List.mem_cons_of_mem _ hx)⟩
theorem mj_cons {v : mj_V} {r : List mj_V} (hv : mj_ok sa v) (h : ∀ x ∈ r, mj_ok sa x) : ∀ x ∈ v :: r, mj_ok sa x := fun x hx => (List.mem_cons.mp hx).elim (fun q => q ▸ hv) (h x)
theorem mj_s_iconst {k : Int} (hC : mj_Cx p R s m args c D cs A ad sa cu su own cc nL n) (hd : decode cc pc = .ok (.iconst k, 1)) (hn : nx = pc + 1) (hi : im = k) (hr : mj_InR im)
    (h : mj_B p l e R s m args below meth c D cs A ad sa cu su Q nL nx loc (iV im :: st) σ) : mj_B p l e R s m args below meth c D cs A ad sa cu su Q nL pc loc st σ := by
  obtain ⟨hx, hb, -⟩ := hC
  intro H locs ls hP hS hg hL hst
  subst hn; subst hi
  exact lv_iconst hx hb hd rfl (h H locs ls hP hS hg hL (mj_cons hr hst))
theorem mj_s_bipush {k : Int} (hC : mj_Cx p R s m args c D cs A ad sa cu su own cc nL n) (hd : decode cc pc = .ok (.bipush k, 2)) (hn : nx = pc + 2) (hi : (Int8.ofInt k).toInt32 = Int32.ofInt im) (hr : mj_InR im)
    (h : mj_B p l e R s m args below meth c D cs A ad sa cu su Q nL nx loc (iV im :: st) σ) : mj_B p l e R s m args below meth c D cs A ad sa cu su Q nL pc loc st σ := by
  obtain ⟨hx, hb, -⟩ := hC
  intro H locs ls hP hS hg hL hst
  subst hn
  exact lv_bipush hx hb hd hi (h H locs ls hP hS hg hL (mj_cons hr hst))
theorem mj_s_sipush {k : Int} (hC : mj_Cx p R s m args c D cs A ad sa cu su own cc nL n) (hd : decode cc pc = .ok (.sipush k, 3)) (hn : nx = pc + 3) (hi : (Int16.ofInt k).toInt32 = Int32.ofInt im) (hr : mj_InR im)
    (h : mj_B p l e R s m args below meth c D cs A ad sa cu su Q nL nx loc (iV im :: st) σ) : mj_B p l e R s m args below meth c D cs A ad sa cu su Q nL pc loc st σ := by
  obtain ⟨hx, hb, -⟩ := hC
  intro H locs ls hP hS hg hL hst
  subst hn
  exact lv_sipush hx hb hd hi (h H locs ls hP hS hg hL (mj_cons hr hst))
theorem mj_s_ldc {k : Nat} (hC : mj_Cx p R s m args c D cs A ad sa cu su own cc nL n) (hd : decode cc pc = .ok (.ldc k, 2)) (hn : nx = pc + 2) (hi : Cond.constant own k (Int32.ofInt im) ∈ mj_tb) (hr : mj_InR im)
    (h : mj_B p l e R s m args below meth c D cs A ad sa cu su Q nL nx loc (iV im :: st) σ) : mj_B p l e R s m args below meth c D cs A ad sa cu su Q nL pc loc st σ := by
  obtain ⟨hx, hb, -, ho, ht, -⟩ := hC
  intro H locs ls hP hS hg hL hst
  subst hn
  exact lv_ldc hx hb ho (ht _ hi) hd (h H locs ls hP hS hg hL (mj_cons hr hst))
theorem mj_s_ldcw {k : Nat} (hC : mj_Cx p R s m args c D cs A ad sa cu su own cc nL n) (hd : decode cc pc = .ok (.ldc_w k, 3)) (hn : nx = pc + 3) (hi : Cond.constant own k (Int32.ofInt im) ∈ mj_tb) (hr : mj_InR im)
    (h : mj_B p l e R s m args below meth c D cs A ad sa cu su Q nL nx loc (iV im :: st) σ) : mj_B p l e R s m args below meth c D cs A ad sa cu su Q nL pc loc st σ := by
  obtain ⟨hx, hb, -, ho, ht, -⟩ := hC
  intro H locs ls hP hS hg hL hst
  subst hn
  exact lv_ldcw hx hb ho (ht _ hi) hd (h H locs ls hP hS hg hL (mj_cons hr hst))
theorem mj_s_ldc2 {k : Nat} (hC : mj_Cx p R s m args c D cs A ad sa cu su own cc nL n) (hd : decode cc pc = .ok (.ldc2_w k, 3)) (hn : nx = pc + 3) (hi : Cond.constantLong own k (Int64.ofInt im) ∈ mj_tb) (hr : mj_InL im)
    (h : mj_B p l e R s m args below meth c D cs A ad sa cu su Q nL nx loc (jV im :: st) σ) : mj_B p l e R s m args below meth c D cs A ad sa cu su Q nL pc loc st σ := by
  obtain ⟨hx, hb, -, ho, ht, -⟩ := hC
  intro H locs ls hP hS hg hL hst
  subst hn
  exact lv_ldc2 hx hb ho (ht _ hi) hd (h H locs ls hP hS hg hL (mj_cons hr hst))
theorem mj_s_lconst {k : Fin 2} (hC : mj_Cx p R s m args c D cs A ad sa cu su own cc nL n) (hd : decode cc pc = .ok (.lconst k, 1)) (hn : nx = pc + 1) (hi : Int64.ofNat (k : Nat) = Int64.ofInt im) (hr : mj_InL im)
    (h : mj_B p l e R s m args below meth c D cs A ad sa cu su Q nL nx loc (jV im :: st) σ) : mj_B p l e R s m args below meth c D cs A ad sa cu su Q nL pc loc st σ := by
  obtain ⟨hx, hb, -⟩ := hC
  intro H locs ls hP hS hg hL hst
  subst hn
  exact lv_lconst hx hb hd hi (h H locs ls hP hS hg hL (mj_cons hr hst))
theorem mj_s_ild {ins : Instr} {ln : Nat} (hC : mj_Cx p R s m args c D cs A ad sa cu su own cc nL n) (hd : decode cc pc = .ok (ins, ln)) (hi : (ins = .iload a ∧ ln = 2) ∨ (∃ k : Fin 4, ins = .iload_n k ∧ (k : Nat) = a ∧ ln = 1)) (hn : nx = pc + ln)
    (h : mj_x_ild (mj_B p l e R s m args below meth c D cs A ad sa cu su Q nL) nx a loc st σ) : mj_B p l e R s m args below meth c D cs A ad sa cu su Q nL pc loc st σ := by
  obtain ⟨hx, hb, -⟩ := hC
  unfold mj_x_ild at h
  split at h
  · rename_i x hx2
    intro H locs ls hP hS hg hL hst
    obtain ⟨h1, h2⟩ := hL.2.2 _ _ hx2
    have h3 := h H locs ls hP hS hg hL (mj_cons h2 hst)
    subst hn
    rcases hi with ⟨rfl, rfl⟩ | ⟨k, rfl, hk, rfl⟩
    · exact lv_iload hx hb hd h1 h3
    · exact lv_iload_n hx hb hd hk h1 h3
  · exact h.elim
theorem mj_s_jld {ins : Instr} {ln : Nat} (hC : mj_Cx p R s m args c D cs A ad sa cu su own cc nL n) (hd : decode cc pc = .ok (ins, ln)) (hi : (ins = .lload a ∧ ln = 2) ∨ (∃ k : Fin 4, ins = .lload_n k ∧ (k : Nat) = a ∧ ln = 1)) (hn : nx = pc + ln)
    (h : mj_x_jld (mj_B p l e R s m args below meth c D cs A ad sa cu su Q nL) nx a loc st σ) : mj_B p l e R s m args below meth c D cs A ad sa cu su Q nL pc loc st σ := by
  obtain ⟨hx, hb, -⟩ := hC
  unfold mj_x_jld at h
  split at h
  · rename_i x hx2
    intro H locs ls hP hS hg hL hst
    obtain ⟨h1, h2⟩ := hL.2.2 _ _ hx2
    have h3 := h H locs ls hP hS hg hL (mj_cons h2 hst)
    subst hn
    rcases hi with ⟨rfl, rfl⟩ | ⟨k, rfl, hk, rfl⟩
    · exact lv_lload hx hb hd h1 h3
    · exact lv_lload_n hx hb hd hk h1 h3
  · exact h.elim
theorem mj_s_rld {ins : Instr} {ln : Nat} (hC : mj_Cx p R s m args c D cs A ad sa cu su own cc nL n) (hd : decode cc pc = .ok (ins, ln)) (hi : (ins = .aload a ∧ ln = 2) ∨ (∃ k : Fin 4, ins = .aload_n k ∧ (k : Nat) = a ∧ ln = 1)) (hn : nx = pc + ln)
    (h : mj_x_rld (mj_B p l e R s m args below meth c D cs A ad sa cu su Q nL) nx a loc st σ) : mj_B p l e R s m args below meth c D cs A ad sa cu su Q nL pc loc st σ := by
  obtain ⟨hx, hb, -⟩ := hC
  unfold mj_x_rld at h
  split at h
  · rename_i q hx2
    intro H locs ls hP hS hg hL hst
    obtain ⟨h1, h2⟩ := hL.2.2 _ _ hx2
    have h3 := h H locs ls hP hS hg hL (mj_cons h2 hst)
    obtain ⟨⟨t, k9⟩, o⟩ := q
    subst hn
    rcases hi with ⟨rfl, rfl⟩ | ⟨k, rfl, hk, rfl⟩
    · exact lv_aload hx hb hd h1 h3
    · exact lv_aload_n hx hb hd hk h1 h3
  · exact h.elim
theorem mj_s_ist {ins : Instr} {ln : Nat} (hC : mj_Cx p R s m args c D cs A ad sa cu su own cc nL n) (hd : decode cc pc = .ok (ins, ln)) (hi : (ins = .istore a ∧ ln = 2) ∨ (∃ k : Fin 4, ins = .istore_n k ∧ (k : Nat) = a ∧ ln = 1)) (hn : nx = pc + ln) (ha : a < nL)
    (h : mj_x_ist (mj_B p l e R s m args below meth c D cs A ad sa cu su Q nL) nx a loc st σ) : mj_B p l e R s m args below meth c D cs A ad sa cu su Q nL pc loc st σ := by
  obtain ⟨hx, hb, -⟩ := hC
  unfold mj_x_ist at h
  split at h
  · rw [mj_stK_eq] at h
    rename_i x r
    intro H locs ls hP hS hg hL hst
    obtain ⟨h1, h2⟩ := mj_c1 hst
    subst hn
    rcases hi with ⟨rfl, rfl⟩ | ⟨k, rfl, hk, rfl⟩
    · exact lv_istore hx hb hd hL.has ha rfl (fun ls' hl' => h H locs ls' hP hS hg (hL.sto1 (v := iV x) h1 hl') h2)
    · exact lv_istore_n hx hb hd hk hL.has ha rfl (fun ls' hl' => h H locs ls' hP hS hg (hL.sto1 (v := iV x) h1 hl') h2)
  · exact h.elim
theorem mj_s_rst {ins : Instr} {ln : Nat} (hC : mj_Cx p R s m args c D cs A ad sa cu su own cc nL n) (hd : decode cc pc = .ok (ins, ln)) (hi : (ins = .astore a ∧ ln = 2) ∨ (∃ k : Fin 4, ins = .astore_n k ∧ (k : Nat) = a ∧ ln = 1)) (hn : nx = pc + ln) (ha : a < nL)
    (h : mj_x_rst (mj_B p l e R s m args below meth c D cs A ad sa cu su Q nL) nx a loc st σ) : mj_B p l e R s m args below meth c D cs A ad sa cu su Q nL pc loc st σ := by
  obtain ⟨hx, hb, -⟩ := hC
  unfold mj_x_rst at h
  split at h
  · rw [mj_stK_eq] at h
    rename_i q r
    obtain ⟨⟨t, k9⟩, o⟩ := q
    intro H locs ls hP hS hg hL hst
    obtain ⟨h1, h2⟩ := mj_c1 hst
    subst hn
    rcases hi with ⟨rfl, rfl⟩ | ⟨k, rfl, hk, rfl⟩
    · exact lv_astore hx hb hd hL.has ha rfl (fun ls' hl' => h H locs ls' hP hS hg (hL.sto1 (v := rV t k9 o) h1 hl') h2)
    · exact lv_astore_n hx hb hd hk hL.has ha rfl (fun ls' hl' => h H locs ls' hP hS hg (hL.sto1 (v := rV t k9 o) h1 hl') h2)
  · exact h.elim
theorem mj_s_jst (hC : mj_Cx p R s m args c D cs A ad sa cu su own cc nL n) (hd : decode cc pc = .ok (.lstore a, 2)) (hn : nx = pc + 2) (ha : a + 1 < nL)
    (h : mj_x_jst (mj_B p l e R s m args below meth c D cs A ad sa cu su Q nL) nx a loc st σ) : mj_B p l e R s m args below meth c D cs A ad sa cu su Q nL pc loc st σ := by
  obtain ⟨hx, hb, -⟩ := hC
  unfold mj_x_jst at h
  split at h
  · rw [mj_stK_eq, mj_stN_eq] at h
    rename_i x r
    intro H locs ls hP hS hg hL hst
    obtain ⟨h1, h2⟩ := mj_c1 hst
    subst hn
    exact lv_lstore hx hb hd hL.has ha rfl (fun ls' hl' => h H locs ls' hP hS hg (hL.sto2 (v := jV x) h1 hl') h2)
  · exact h.elim
theorem mj_s_inc {k : Int} (hC : mj_Cx p R s m args c D cs A ad sa cu su own cc nL n) (hd : decode cc pc = .ok (.iinc a k, 3)) (hn : nx = pc + 3) (ha : a < nL) (hi : im = k)
    (h : mj_x_inc (mj_B p l e R s m args below meth c D cs A ad sa cu su Q nL) nx a im loc st σ) : mj_B p l e R s m args below meth c D cs A ad sa cu su Q nL pc loc st σ := by
  obtain ⟨hx, hb, -⟩ := hC
  unfold mj_x_inc at h
  split at h
  · rename_i x hx2
    intro H locs ls hP hS hg hL hst
    obtain ⟨hr, h⟩ := h
    rw [mj_stK_eq] at h
    obtain ⟨k9, hk9⟩ := List.mem_iff_getElem?.mp (mj_mem_prs (ad := ad) (sa := sa) hx2)
    subst hn; subst hi
    exact lv_iinc (v := Int32.ofInt (x + im)) hx hb hd hL.has hk9 (by rw [Int32.ofInt_add]) ha rfl (fun ls' hl' => h H locs ls' hP hS hg (hL.sto1 (v := iV (x + im)) hr hl') hst)
  · exact h.elim
theorem mj_s_iadd (hC : mj_Cx p R s m args c D cs A ad sa cu su own cc nL n) (hd : decode cc pc = .ok (.iadd, 1)) (hn : nx = pc + 1)
    (h : mj_x_iadd (mj_B p l e R s m args below meth c D cs A ad sa cu su Q nL) nx loc st σ) : mj_B p l e R s m args below meth c D cs A ad sa cu su Q nL pc loc st σ := by
  obtain ⟨hx, hb, -⟩ := hC
  unfold mj_x_iadd at h
  split at h
  · rename_i y x r
    intro H locs ls hP hS hg hL hst
    obtain ⟨-, h1⟩ := mj_c1 hst
    obtain ⟨-, h2⟩ := mj_c1 h1
    obtain ⟨c1, h⟩ := h
    have h3 := h H locs ls hP hS hg hL (mj_cons (v := iV (x + y)) c1 h2)
    subst hn
    refine lv_iadd hx hb hd ?_
    rw [← Int32.ofInt_add]; exact h3
  · exact h.elim
theorem mj_s_isub (hC : mj_Cx p R s m args c D cs A ad sa cu su own cc nL n) (hd : decode cc pc = .ok (.isub, 1)) (hn : nx = pc + 1)
    (h : mj_x_isub (mj_B p l e R s m args below meth c D cs A ad sa cu su Q nL) nx loc st σ) : mj_B p l e R s m args below meth c D cs A ad sa cu su Q nL pc loc st σ := by
  obtain ⟨hx, hb, -⟩ := hC
  unfold mj_x_isub at h
  split at h
  · rename_i y x r
    intro H locs ls hP hS hg hL hst
    obtain ⟨-, h1⟩ := mj_c1 hst
    obtain ⟨-, h2⟩ := mj_c1 h1
    obtain ⟨c1, h⟩ := h
    have h3 := h H locs ls hP hS hg hL (mj_cons (v := iV (x - y)) c1 h2)
    subst hn
    refine lv_isub hx hb hd ?_
    rw [← Int32.ofInt_sub]; exact h3
  · exact h.elim
theorem mj_s_imul (hC : mj_Cx p R s m args c D cs A ad sa cu su own cc nL n) (hd : decode cc pc = .ok (.imul, 1)) (hn : nx = pc + 1)
    (h : mj_x_imul (mj_B p l e R s m args below meth c D cs A ad sa cu su Q nL) nx loc st σ) : mj_B p l e R s m args below meth c D cs A ad sa cu su Q nL pc loc st σ := by
  obtain ⟨hx, hb, -⟩ := hC
  unfold mj_x_imul at h
  split at h
  · rename_i y x r
    intro H locs ls hP hS hg hL hst
    obtain ⟨-, h1⟩ := mj_c1 hst
    obtain ⟨-, h2⟩ := mj_c1 h1
    obtain ⟨c1, h⟩ := h
    have h3 := h H locs ls hP hS hg hL (mj_cons (v := iV (x * y)) c1 h2)
    subst hn
    refine lv_imul hx hb hd ?_
    rw [← Int32.ofInt_mul]; exact h3
  · exact h.elim
theorem mj_s_iand (hC : mj_Cx p R s m args c D cs A ad sa cu su own cc nL n) (hd : decode cc pc = .ok (.iand, 1)) (hn : nx = pc + 1)
    (h : mj_x_bin (mj_B p l e R s m args below meth c D cs A ad sa cu su Q nL) mj_and nx loc st σ) : mj_B p l e R s m args below meth c D cs A ad sa cu su Q nL pc loc st σ := by
  obtain ⟨hx, hb, -⟩ := hC
  unfold mj_x_bin at h
  split at h
  · rename_i y x r
    intro H locs ls hP hS hg hL hst
    obtain ⟨-, h1⟩ := mj_c1 hst
    obtain ⟨-, h2⟩ := mj_c1 h1
    have h3 := h H locs ls hP hS hg hL (mj_cons (v := iV (mj_and x y)) (mj_rI _) h2)
    subst hn
    refine lv_iand hx hb hd ?_
    have e9 : Int32.ofInt (mj_and x y) = _ := Int32.ofInt_toInt _
    have h3 : W p l e R s m args below meth c H locs cu su Q (F0 m (pc + 1) ls (.int (Int32.ofInt (mj_and x y)) :: r.map (mj_v ad sa))) := h3
    rw [e9] at h3
    exact h3
  · exact h.elim
theorem mj_s_ior (hC : mj_Cx p R s m args c D cs A ad sa cu su own cc nL n) (hd : decode cc pc = .ok (.ior, 1)) (hn : nx = pc + 1)
    (h : mj_x_bin (mj_B p l e R s m args below meth c D cs A ad sa cu su Q nL) mj_or nx loc st σ) : mj_B p l e R s m args below meth c D cs A ad sa cu su Q nL pc loc st σ := by
  obtain ⟨hx, hb, -⟩ := hC
  unfold mj_x_bin at h
  split at h
  · rename_i y x r
    intro H locs ls hP hS hg hL hst
    obtain ⟨-, h1⟩ := mj_c1 hst
    obtain ⟨-, h2⟩ := mj_c1 h1
    have h3 := h H locs ls hP hS hg hL (mj_cons (v := iV (mj_or x y)) (mj_rI _) h2)
    subst hn
    refine lv_ior hx hb hd ?_
    have e9 : Int32.ofInt (mj_or x y) = _ := Int32.ofInt_toInt _
    have h3 : W p l e R s m args below meth c H locs cu su Q (F0 m (pc + 1) ls (.int (Int32.ofInt (mj_or x y)) :: r.map (mj_v ad sa))) := h3
    rw [e9] at h3
    exact h3
  · exact h.elim
theorem mj_s_ixor (hC : mj_Cx p R s m args c D cs A ad sa cu su own cc nL n) (hd : decode cc pc = .ok (.ixor, 1)) (hn : nx = pc + 1)
    (h : mj_x_bin (mj_B p l e R s m args below meth c D cs A ad sa cu su Q nL) mj_xor nx loc st σ) : mj_B p l e R s m args below meth c D cs A ad sa cu su Q nL pc loc st σ := by
  obtain ⟨hx, hb, -⟩ := hC
  unfold mj_x_bin at h
  split at h
  · rename_i y x r
    intro H locs ls hP hS hg hL hst
    obtain ⟨-, h1⟩ := mj_c1 hst
    obtain ⟨-, h2⟩ := mj_c1 h1
    have h3 := h H locs ls hP hS hg hL (mj_cons (v := iV (mj_xor x y)) (mj_rI _) h2)
    subst hn
    refine lv_ixor hx hb hd ?_
    have e9 : Int32.ofInt (mj_xor x y) = _ := Int32.ofInt_toInt _
    have h3 : W p l e R s m args below meth c H locs cu su Q (F0 m (pc + 1) ls (.int (Int32.ofInt (mj_xor x y)) :: r.map (mj_v ad sa))) := h3
    rw [e9] at h3
    exact h3
  · exact h.elim
theorem mj_s_ishl (hC : mj_Cx p R s m args c D cs A ad sa cu su own cc nL n) (hd : decode cc pc = .ok (.ishl, 1)) (hn : nx = pc + 1)
    (h : mj_x_bin (mj_B p l e R s m args below meth c D cs A ad sa cu su Q nL) mj_shl nx loc st σ) : mj_B p l e R s m args below meth c D cs A ad sa cu su Q nL pc loc st σ := by
  obtain ⟨hx, hb, -⟩ := hC
  unfold mj_x_bin at h
  split at h
  · rename_i y x r
    intro H locs ls hP hS hg hL hst
    obtain ⟨-, h1⟩ := mj_c1 hst
    obtain ⟨-, h2⟩ := mj_c1 h1
    have h3 := h H locs ls hP hS hg hL (mj_cons (v := iV (mj_shl x y)) (mj_rI _) h2)
    subst hn
    refine lv_ishl hx hb hd ?_
    have e9 : Int32.ofInt (mj_shl x y) = _ := Int32.ofInt_toInt _
    have h3 : W p l e R s m args below meth c H locs cu su Q (F0 m (pc + 1) ls (.int (Int32.ofInt (mj_shl x y)) :: r.map (mj_v ad sa))) := h3
    rw [e9] at h3
    exact h3
  · exact h.elim
theorem mj_s_ishr (hC : mj_Cx p R s m args c D cs A ad sa cu su own cc nL n) (hd : decode cc pc = .ok (.ishr, 1)) (hn : nx = pc + 1)
    (h : mj_x_bin (mj_B p l e R s m args below meth c D cs A ad sa cu su Q nL) mj_shr nx loc st σ) : mj_B p l e R s m args below meth c D cs A ad sa cu su Q nL pc loc st σ := by
  obtain ⟨hx, hb, -⟩ := hC
  unfold mj_x_bin at h
  split at h
  · rename_i y x r
    intro H locs ls hP hS hg hL hst
    obtain ⟨-, h1⟩ := mj_c1 hst
    obtain ⟨-, h2⟩ := mj_c1 h1
    have h3 := h H locs ls hP hS hg hL (mj_cons (v := iV (mj_shr x y)) (mj_rI _) h2)
    subst hn
    refine lv_ishr hx hb hd ?_
    have e9 : Int32.ofInt (mj_shr x y) = _ := Int32.ofInt_toInt _
    have h3 : W p l e R s m args below meth c H locs cu su Q (F0 m (pc + 1) ls (.int (Int32.ofInt (mj_shr x y)) :: r.map (mj_v ad sa))) := h3
    rw [e9] at h3
    exact h3
  · exact h.elim
theorem mj_s_iushr (hC : mj_Cx p R s m args c D cs A ad sa cu su own cc nL n) (hd : decode cc pc = .ok (.iushr, 1)) (hn : nx = pc + 1)
    (h : mj_x_bin (mj_B p l e R s m args below meth c D cs A ad sa cu su Q nL) mj_ush nx loc st σ) : mj_B p l e R s m args below meth c D cs A ad sa cu su Q nL pc loc st σ := by
  obtain ⟨hx, hb, -⟩ := hC
  unfold mj_x_bin at h
  split at h
  · rename_i y x r
    intro H locs ls hP hS hg hL hst
    obtain ⟨-, h1⟩ := mj_c1 hst
    obtain ⟨-, h2⟩ := mj_c1 h1
    have h3 := h H locs ls hP hS hg hL (mj_cons (v := iV (mj_ush x y)) (mj_rI _) h2)
    subst hn
    exact lv_iushr hx hb hd (by unfold mj_ush; rw [Int32.ofInt_toInt]) h3
  · exact h.elim
theorem mj_s_idiv (hC : mj_Cx p R s m args c D cs A ad sa cu su own cc nL n) (hd : decode cc pc = .ok (.idiv, 1)) (hn : nx = pc + 1)
    (h : mj_x_idiv (mj_B p l e R s m args below meth c D cs A ad sa cu su Q nL) nx loc st σ) : mj_B p l e R s m args below meth c D cs A ad sa cu su Q nL pc loc st σ := by
  obtain ⟨hx, hb, -⟩ := hC
  unfold mj_x_idiv at h
  split at h
  · rename_i y x r
    intro H locs ls hP hS hg hL hst
    obtain ⟨hy, h1⟩ := mj_c1 hst
    obtain ⟨hxx, h2⟩ := mj_c1 h1
    obtain ⟨⟨c1, c2⟩, h⟩ := h
    obtain ⟨e1, e2⟩ := mj_qI hxx hy c1 c2
    have h3 := h H locs ls hP hS hg hL (mj_cons (v := iV (x / y)) e2 h2)
    subst hn
    refine lv_idiv hx hb hd (fun q => ?_) ?_
    · rw [← mj_z, mj_eqI hy (by omega)] at q; omega
    · rw [e1]; exact h3
  · exact h.elim
theorem mj_s_irem (hC : mj_Cx p R s m args c D cs A ad sa cu su own cc nL n) (hd : decode cc pc = .ok (.irem, 1)) (hn : nx = pc + 1)
    (h : mj_x_irem (mj_B p l e R s m args below meth c D cs A ad sa cu su Q nL) nx loc st σ) : mj_B p l e R s m args below meth c D cs A ad sa cu su Q nL pc loc st σ := by
  obtain ⟨hx, hb, -⟩ := hC
  unfold mj_x_irem at h
  split at h
  · rename_i y x r
    intro H locs ls hP hS hg hL hst
    obtain ⟨hy, h1⟩ := mj_c1 hst
    obtain ⟨hxx, h2⟩ := mj_c1 h1
    obtain ⟨⟨c1, c2⟩, h⟩ := h
    obtain ⟨e1, e2⟩ := mj_mI hxx hy c1 c2
    have h3 := h H locs ls hP hS hg hL (mj_cons (v := iV (x % y)) e2 h2)
    subst hn
    refine lv_irem hx hb hd (fun q => ?_) ?_
    · rw [← mj_z, mj_eqI hy (by omega)] at q; omega
    · rw [e1]; exact h3
  · exact h.elim
theorem mj_s_ineg (hC : mj_Cx p R s m args c D cs A ad sa cu su own cc nL n) (hd : decode cc pc = .ok (.ineg, 1)) (hn : nx = pc + 1)
    (h : mj_x_neg (mj_B p l e R s m args below meth c D cs A ad sa cu su Q nL) nx loc st σ) : mj_B p l e R s m args below meth c D cs A ad sa cu su Q nL pc loc st σ := by
  obtain ⟨hx, hb, -⟩ := hC
  unfold mj_x_neg at h
  split at h
  · rename_i x r
    intro H locs ls hP hS hg hL hst
    obtain ⟨hxx, h2⟩ := mj_c1 hst
    obtain ⟨c1, h⟩ := h
    have h3 := h H locs ls hP hS hg hL (mj_cons (v := iV (-x)) c1 h2)
    subst hn
    refine lv_ineg hx hb hd ?_
    first
      | (rw [← Int32.ofInt_neg]; exact h3)
      | (rw [← mj_z, ← Int32.ofInt_sub, show (0 : Int) - x = -x by omega]; exact h3)
  · exact h.elim
theorem mj_s_ladd (hC : mj_Cx p R s m args c D cs A ad sa cu su own cc nL n) (hd : decode cc pc = .ok (.ladd, 1)) (hn : nx = pc + 1)
    (h : mj_x_ladd (mj_B p l e R s m args below meth c D cs A ad sa cu su Q nL) nx loc st σ) : mj_B p l e R s m args below meth c D cs A ad sa cu su Q nL pc loc st σ := by
  obtain ⟨hx, hb, -⟩ := hC
  unfold mj_x_ladd at h
  split at h
  · rename_i y x r
    intro H locs ls hP hS hg hL hst
    obtain ⟨hy, h1⟩ := mj_c1 hst
    obtain ⟨hxx, h2⟩ := mj_c1 h1
    obtain ⟨c1, h⟩ := h
    have h3 := h H locs ls hP hS hg hL (mj_cons (v := jV (x + y)) c1 h2)
    subst hn
    refine lv_ladd hx hb hd ?_
    rw [← Int64.ofInt_add]; exact h3
  · exact h.elim
theorem mj_s_lmul (hC : mj_Cx p R s m args c D cs A ad sa cu su own cc nL n) (hd : decode cc pc = .ok (.lmul, 1)) (hn : nx = pc + 1)
    (h : mj_x_lmul (mj_B p l e R s m args below meth c D cs A ad sa cu su Q nL) nx loc st σ) : mj_B p l e R s m args below meth c D cs A ad sa cu su Q nL pc loc st σ := by
  obtain ⟨hx, hb, -⟩ := hC
  unfold mj_x_lmul at h
  split at h
  · rename_i y x r
    intro H locs ls hP hS hg hL hst
    obtain ⟨hy, h1⟩ := mj_c1 hst
    obtain ⟨hxx, h2⟩ := mj_c1 h1
    obtain ⟨c1, h⟩ := h
    have h3 := h H locs ls hP hS hg hL (mj_cons (v := jV (x * y)) c1 h2)
    subst hn
    refine lv_lmul hx hb hd ?_
    rw [← Int64.ofInt_mul]; exact h3
  · exact h.elim
theorem mj_zL : Int64.ofInt 0 = 0 := by decide
theorem mj_s_ldiv (hC : mj_Cx p R s m args c D cs A ad sa cu su own cc nL n) (hd : decode cc pc = .ok (.ldiv, 1)) (hn : nx = pc + 1)
    (h : mj_x_ldiv (mj_B p l e R s m args below meth c D cs A ad sa cu su Q nL) nx loc st σ) : mj_B p l e R s m args below meth c D cs A ad sa cu su Q nL pc loc st σ := by
  obtain ⟨hx, hb, -⟩ := hC
  unfold mj_x_ldiv at h
  split at h
  · rename_i y x r
    intro H locs ls hP hS hg hL hst
    obtain ⟨hy, h1⟩ := mj_c1 hst
    obtain ⟨hxx, h2⟩ := mj_c1 h1
    obtain ⟨⟨c1, c2⟩, h⟩ := h
    obtain ⟨e1, e2⟩ := mj_qL hxx hy c1 c2
    have h3 := h H locs ls hP hS hg hL (mj_cons (v := jV (x / y)) e2 h2)
    subst hn
    refine lv_ldiv hx hb hd (fun q => ?_) ?_
    · rw [← mj_zL, mj_eqL hy (by omega)] at q; omega
    · rw [e1]; exact h3
  · exact h.elim
theorem mj_s_lrem (hC : mj_Cx p R s m args c D cs A ad sa cu su own cc nL n) (hd : decode cc pc = .ok (.lrem, 1)) (hn : nx = pc + 1)
    (h : mj_x_lrem (mj_B p l e R s m args below meth c D cs A ad sa cu su Q nL) nx loc st σ) : mj_B p l e R s m args below meth c D cs A ad sa cu su Q nL pc loc st σ := by
  obtain ⟨hx, hb, -⟩ := hC
  unfold mj_x_lrem at h
  split at h
  · rename_i y x r
    intro H locs ls hP hS hg hL hst
    obtain ⟨hy, h1⟩ := mj_c1 hst
    obtain ⟨hxx, h2⟩ := mj_c1 h1
    obtain ⟨⟨c1, c2⟩, h⟩ := h
    obtain ⟨e1, e2⟩ := mj_mL hxx hy c1 c2
    have h3 := h H locs ls hP hS hg hL (mj_cons (v := jV (x % y)) e2 h2)
    subst hn
    refine lv_lrem hx hb hd (fun q => ?_) ?_
    · rw [← mj_zL, mj_eqL hy (by omega)] at q; omega
    · rw [e1]; exact h3
  · exact h.elim
theorem mj_s_i2l (hC : mj_Cx p R s m args c D cs A ad sa cu su own cc nL n) (hd : decode cc pc = .ok (.i2l, 1)) (hn : nx = pc + 1)
    (h : mj_x_i2l (mj_B p l e R s m args below meth c D cs A ad sa cu su Q nL) nx loc st σ) : mj_B p l e R s m args below meth c D cs A ad sa cu su Q nL pc loc st σ := by
  obtain ⟨hx, hb, -⟩ := hC
  unfold mj_x_i2l at h
  split at h
  · rename_i x r
    intro H locs ls hP hS hg hL hst
    obtain ⟨hxx, h2⟩ := mj_c1 hst
    have hxx : mj_InR x := hxx
    have h3 := h H locs ls hP hS hg hL (mj_cons (v := jV x) (show mj_InL x by omega) h2)
    subst hn
    exact lv_i2l hx hb hd (mj_ofL (by rw [Int32.toInt_toInt64, mj_tI hxx])) h3
  · exact h.elim
theorem mj_s_l2i (hC : mj_Cx p R s m args c D cs A ad sa cu su own cc nL n) (hd : decode cc pc = .ok (.l2i, 1)) (hn : nx = pc + 1)
    (h : mj_x_l2i (mj_B p l e R s m args below meth c D cs A ad sa cu su Q nL) nx loc st σ) : mj_B p l e R s m args below meth c D cs A ad sa cu su Q nL pc loc st σ := by
  obtain ⟨hx, hb, -⟩ := hC
  unfold mj_x_l2i at h
  split at h
  · rename_i x r
    intro H locs ls hP hS hg hL hst
    obtain ⟨hxx, h2⟩ := mj_c1 hst
    obtain ⟨c1, h⟩ := h
    have h3 := h H locs ls hP hS hg hL (mj_cons (v := iV x) c1 h2)
    subst hn
    exact lv_l2i hx hb hd Int64.toInt32_ofInt h3
  · exact h.elim
theorem mj_s_dup (hC : mj_Cx p R s m args c D cs A ad sa cu su own cc nL n) (hd : decode cc pc = .ok (.dup, 1)) (hn : nx = pc + 1)
    (h : mj_x_dup (mj_B p l e R s m args below meth c D cs A ad sa cu su Q nL) nx loc st σ) : mj_B p l e R s m args below meth c D cs A ad sa cu su Q nL pc loc st σ := by
  obtain ⟨hx, hb, -⟩ := hC
  unfold mj_x_dup at h
  split at h
  · intro H locs ls hP hS hg hL hst
    obtain ⟨h1, h2⟩ := mj_c1 hst
    have h3 := h H locs ls hP hS hg hL (mj_cons h1 (mj_cons h1 h2))
    subst hn
    exact lv_dup hx hb hd rfl h3
  · rename_i q r
    obtain ⟨⟨t, k9⟩, o⟩ := q
    intro H locs ls hP hS hg hL hst
    obtain ⟨h1, h2⟩ := mj_c1 hst
    have h3 := h H locs ls hP hS hg hL (mj_cons h1 (mj_cons h1 h2))
    subst hn
    exact lv_dup hx hb hd rfl h3
  · exact h.elim
theorem mj_s_dup2 (hC : mj_Cx p R s m args c D cs A ad sa cu su own cc nL n) (hd : decode cc pc = .ok (.dup2, 1)) (hn : nx = pc + 1)
    (h : mj_x_dup2 (mj_B p l e R s m args below meth c D cs A ad sa cu su Q nL) nx loc st σ) : mj_B p l e R s m args below meth c D cs A ad sa cu su Q nL pc loc st σ := by
  obtain ⟨hx, hb, -⟩ := hC
  unfold mj_x_dup2 at h
  split at h
  · rename_i x q r
    obtain ⟨⟨t, k9⟩, o⟩ := q
    intro H locs ls hP hS hg hL hst
    obtain ⟨h1, h2⟩ := mj_c1 hst
    obtain ⟨h4, h5⟩ := mj_c1 h2
    have h3 := h H locs ls hP hS hg hL (mj_cons h1 (mj_cons h4 (mj_cons h1 (mj_cons h4 h5))))
    subst hn
    exact lv_dup2_11 hx hb hd rfl rfl h3
  · exact h.elim
theorem mj_s_goto {off : Int} (hC : mj_Cx p R s m args c D cs A ad sa cu su own cc nL n) (hd : decode cc pc = .ok (.goto off, 3)) (ht : (pc : Int) + off = (nx : Int))
    (h : mj_B p l e R s m args below meth c D cs A ad sa cu su Q nL nx loc st σ) : mj_B p l e R s m args below meth c D cs A ad sa cu su Q nL pc loc st σ := by
  obtain ⟨hx, hb, -⟩ := hC
  intro H locs ls hP hS hg hL hst
  exact lv_goto hx hb hd ht (h H locs ls hP hS hg hL hst)
theorem mj_ifp {c a b : Prop} [Decidable c] (h : if c then a else b) : (c → a) ∧ (¬ c → b) := by
  by_cases hc : c
  · rw [if_pos hc] at h; exact ⟨fun _ => h, fun q => absurd hc q⟩
  · rw [if_neg hc] at h; exact ⟨fun q => absurd q hc, fun _ => h⟩
theorem mj_s_icmp {co : Jvm.ClassFile.Cond} {off : Int} (hC : mj_Cx p R s m args c D cs A ad sa cu su own cc nL n) (hd : decode cc pc = .ok (.if_icmp co off, 3)) (hn : nx = pc + 3) (ht : (pc : Int) + off = (a : Int))
    (h : mj_x_icmp (mj_B p l e R s m args below meth c D cs A ad sa cu su Q nL) co nx a loc st σ) : mj_B p l e R s m args below meth c D cs A ad sa cu su Q nL pc loc st σ := by
  obtain ⟨hx, hb, -⟩ := hC
  unfold mj_x_icmp at h
  split at h
  · rename_i y x r
    intro H locs ls hP hS hg hL hst
    obtain ⟨hy, h1⟩ := mj_c1 hst
    obtain ⟨hxx, h2⟩ := mj_c1 h1
    subst hn
    unfold mj_br at h
    cases co with
    | eq =>
      obtain ⟨f1, f2⟩ := mj_ifp h
      exact lv_icmp_eq hx hb hd ht (fun q => f1 ((mj_eqI hxx hy).mp q) H locs ls hP hS hg hL h2) (fun q => f2 (fun w => q ((mj_eqI hxx hy).mpr w)) H locs ls hP hS hg hL h2)
    | ne =>
      obtain ⟨f1, f2⟩ := mj_ifp h
      exact lv_icmp_ne hx hb hd ht (fun q => f2 (fun w => q ((mj_eqI hxx hy).mpr w)) H locs ls hP hS hg hL h2) (fun q => f1 ((mj_eqI hxx hy).mp q) H locs ls hP hS hg hL h2)
    | lt =>
      obtain ⟨f1, f2⟩ := mj_ifp h
      exact lv_icmp_lt hx hb hd ht (fun q => f1 ((mj_ltI hxx hy).mp q) H locs ls hP hS hg hL h2) (fun q => f2 (fun w => q ((mj_ltI hxx hy).mpr w)) H locs ls hP hS hg hL h2)
    | ge =>
      obtain ⟨f1, f2⟩ := mj_ifp h
      exact lv_icmp_ge hx hb hd ht (fun q => f2 (fun w => by have := (mj_leI hy hxx).mp q; omega) H locs ls hP hS hg hL h2) (fun q => f1 (Int.not_le.mp (fun w => q ((mj_leI hy hxx).mpr w))) H locs ls hP hS hg hL h2)
    | gt =>
      obtain ⟨f1, f2⟩ := mj_ifp h
      exact lv_icmp_gt hx hb hd ht (fun q => f1 ((mj_ltI hy hxx).mp q) H locs ls hP hS hg hL h2) (fun q => f2 (fun w => q ((mj_ltI hy hxx).mpr w)) H locs ls hP hS hg hL h2)
    | le =>
      obtain ⟨f1, f2⟩ := mj_ifp h
      exact lv_icmp_le hx hb hd ht (fun q => f2 (fun w => by have := (mj_leI hxx hy).mp q; omega) H locs ls hP hS hg hL h2) (fun q => f1 (Int.not_le.mp (fun w => q ((mj_leI hxx hy).mpr w))) H locs ls hP hS hg hL h2)
  · exact h.elim
end MJ
end
section
/-! one instruction, the second half -/
section MJ2
variable {p : Program} {l : Launch} {e : Env} {R : Room} {s : State} {m : MethodId} {args : Array Value} {below : List Frame} {meth : Method} {c : Code} {D : va_G} {cs : mj_Cs} {A : Nat → Prop} {ad : Nat → Nat} {sa : mj_Sa} {cu su : Nat} {Q : State → Prop} {own : String} {cc : ByteArray} {nL n : Nat}
variable {pc nx a b : Nat} {im : Int} {ts : List (Int × Nat)} {loc : mj_L} {st : List mj_V} {σ : mj_W}
theorem mj_s_if {co : Jvm.ClassFile.Cond} {off : Int} (hC : mj_Cx p R s m args c D cs A ad sa cu su own cc nL n) (hd : decode cc pc = .ok (.ifCond co off, 3)) (hn : nx = pc + 3) (ht : (pc : Int) + off = (a : Int))
    (h : mj_x_if (mj_B p l e R s m args below meth c D cs A ad sa cu su Q nL) co nx a loc st σ) : mj_B p l e R s m args below meth c D cs A ad sa cu su Q nL pc loc st σ := by
  obtain ⟨hx, hb, -⟩ := hC
  unfold mj_x_if at h
  split at h
  · rename_i x r
    intro H locs ls hP hS hg hL hst
    obtain ⟨hxx, h2⟩ := mj_c1 hst
    have hy : mj_InR 0 := by omega
    subst hn
    unfold mj_br at h
    have e0 := mj_eqI hxx hy
    have e1 := mj_ltI hxx hy
    have e2 := mj_leI hxx hy
    have e3 := mj_ltI hy hxx
    have e4 := mj_leI hy hxx
    rw [mj_z] at e0 e1 e2 e3 e4
    cases co with
    | eq =>
      obtain ⟨f1, f2⟩ := mj_ifp h
      exact lv_if_eq hx hb hd ht (fun q => f1 (e0.mp q) H locs ls hP hS hg hL h2) (fun q => f2 (fun w => q (e0.mpr w)) H locs ls hP hS hg hL h2)
    | ne =>
      obtain ⟨f1, f2⟩ := mj_ifp h
      exact lv_if_ne hx hb hd ht (fun q => f2 (fun w => q (e0.mpr w)) H locs ls hP hS hg hL h2) (fun q => f1 (e0.mp q) H locs ls hP hS hg hL h2)
    | lt =>
      obtain ⟨f1, f2⟩ := mj_ifp h
      exact lv_if_lt hx hb hd ht (fun q => f1 (e1.mp q) H locs ls hP hS hg hL h2) (fun q => f2 (fun w => q (e1.mpr w)) H locs ls hP hS hg hL h2)
    | ge =>
      obtain ⟨f1, f2⟩ := mj_ifp h
      exact lv_if_ge hx hb hd ht (fun q => f2 (fun w => by have := e4.mp q; omega) H locs ls hP hS hg hL h2) (fun q => f1 (Int.not_le.mp (fun w => q (e4.mpr w))) H locs ls hP hS hg hL h2)
    | gt =>
      obtain ⟨f1, f2⟩ := mj_ifp h
      exact lv_if_gt hx hb hd ht (fun q => f1 (e3.mp q) H locs ls hP hS hg hL h2) (fun q => f2 (fun w => q (e3.mpr w)) H locs ls hP hS hg hL h2)
    | le =>
      obtain ⟨f1, f2⟩ := mj_ifp h
      exact lv_if_le hx hb hd ht (fun q => f2 (fun w => by have := e2.mp q; omega) H locs ls hP hS hg hL h2) (fun q => f1 (Int.not_le.mp (fun w => q (e2.mpr w))) H locs ls hP hS hg hL h2)
  · exact h.elim
theorem mj_s_lcmp {off : Int} (hC : mj_Cx p R s m args c D cs A ad sa cu su own cc nL n) (hd0 : decode cc pc = .ok (.lcmp, 1)) (hd : decode cc (pc + 1) = .ok (.ifCond (mj_cc b) off, 3)) (hn : nx = pc + 1 + 3) (ht : ((pc + 1 : Nat) : Int) + off = (a : Int))
    (h : mj_x_lcmp (mj_B p l e R s m args below meth c D cs A ad sa cu su Q nL) b nx a loc st σ) : mj_B p l e R s m args below meth c D cs A ad sa cu su Q nL pc loc st σ := by
  have hC0 := hC
  obtain ⟨hx, hb, -⟩ := hC
  unfold mj_x_lcmp at h
  split at h
  · rename_i y x r
    intro H locs ls hP hS hg hL hst
    obtain ⟨hy, h1⟩ := mj_c1 hst
    obtain ⟨hxx, h2⟩ := mj_c1 h1
    have el := mj_ltL hxx hy
    have el2 := mj_ltL hy hxx
    have ee := mj_eqL hxx hy
    refine W.lcmp hx hb hd0 ?_
    have key : ∀ w : Int, mj_InR w → lg_cmp (Int64.ofInt x) (Int64.ofInt y) = Int32.ofInt w → (mj_br (mj_cc b) w 0 (mj_B p l e R s m args below meth c D cs A ad sa cu su Q nL a loc r σ) (mj_B p l e R s m args below meth c D cs A ad sa cu su Q nL nx loc r σ)) → W p l e R s m args below meth c H locs cu su Q (F0 m (pc + 1) ls (.int (lg_cmp (Int64.ofInt x) (Int64.ofInt y)) :: r.map (mj_v ad sa))) := by
      intro w hw ew hbr
      rw [ew]
      exact mj_s_if (st := iV w :: r) hC0 hd hn ht hbr H locs ls hP hS hg hL (mj_cons hw h2)
    unfold lg_cmp at key ⊢
    by_cases g1 : y < x
    · refine key 1 (by omega) (by rw [if_pos (el2.mpr g1)]; decide) ?_
      unfold mj_br at h ⊢
      cases hcb : mj_cc b <;> rw [hcb] at h <;> simp only [] at h ⊢ <;> (repeat (first | rw [if_pos (by omega)] at h | rw [if_neg (by omega)] at h)) <;> (repeat (first | rw [if_pos (by omega)] | rw [if_neg (by omega)])) <;> exact h
    · have g1' : ¬ Int64.ofInt x > Int64.ofInt y := fun q => g1 (el2.mp q)
      by_cases g2 : x = y
      · refine key 0 (by omega) (by rw [if_neg g1', if_pos (ee.mpr g2)]; decide) ?_
        unfold mj_br at h ⊢
        cases hcb : mj_cc b <;> rw [hcb] at h <;> simp only [] at h ⊢ <;> (repeat (first | rw [if_pos (by omega)] at h | rw [if_neg (by omega)] at h)) <;> (repeat (first | rw [if_pos (by omega)] | rw [if_neg (by omega)])) <;> exact h
      · refine key (-1) (by omega) (by rw [if_neg g1', if_neg (fun q => g2 (ee.mp q))]; decide) ?_
        unfold mj_br at h ⊢
        cases hcb : mj_cc b <;> rw [hcb] at h <;> simp only [] at h ⊢ <;> (repeat (first | rw [if_pos (by omega)] at h | rw [if_neg (by omega)] at h)) <;> (repeat (first | rw [if_pos (by omega)] | rw [if_neg (by omega)])) <;> exact h
  · exact h.elim
theorem mj_sw_or {f : Nat → Prop} {x : Int} {d : Nat} : ∀ {ts : List (Int × Nat)}, mj_sw f x d ts → (∃ q ∈ ts, x = q.1 ∧ f q.2) ∨ ((∀ q ∈ ts, x ≠ q.1) ∧ f d)
  | [], h => Or.inr ⟨fun _ q => absurd q List.not_mem_nil, h⟩
  | q :: r, h => by
    obtain ⟨f1, f2⟩ := mj_ifp (show if x = q.1 then f q.2 else mj_sw f x d r from h)
    by_cases hc : x = q.1
    · exact Or.inl ⟨q, List.mem_cons_self, hc, f1 hc⟩
    · rcases mj_sw_or (f2 hc) with ⟨q', h1, h2⟩ | ⟨h1, h2⟩
      · exact Or.inl ⟨q', List.mem_cons_of_mem _ h1, h2⟩
      · refine Or.inr ⟨fun q' hq' => ?_, h2⟩
        rcases List.mem_cons.mp hq' with e | e
        · rw [e]; exact hc
        · exact h1 q' e
theorem mj_s_table {dflt lo hi : Int} {offs : Array Int} {ln : Nat} (hC : mj_Cx p R s m args c D cs A ad sa cu su own cc nL n) (hd : decode cc pc = .ok (.tableswitch dflt lo hi offs, ln)) (ht : (pc : Int) + dflt = (a : Int))
    (h1 : ∀ q ∈ ts, lo ≤ q.1 ∧ q.1 ≤ hi ∧ offs[(q.1 - lo).toNat]? = some ((q.2 : Int) - (pc : Int))) (h2 : ts.map (fun q => q.1) = (List.range (hi - lo + 1).toNat).map (fun i : Nat => lo + (i : Int)))
    (h : mj_x_sw (mj_B p l e R s m args below meth c D cs A ad sa cu su Q nL) a ts loc st σ) : mj_B p l e R s m args below meth c D cs A ad sa cu su Q nL pc loc st σ := by
  obtain ⟨hx, hb, -⟩ := hC
  unfold mj_x_sw at h
  split at h
  · rename_i x r
    intro H locs ls hP hS hg hL hst
    obtain ⟨hxx, h3⟩ := mj_c1 hst
    have et := mj_tI hxx
    rcases mj_sw_or h with ⟨q, hq, e1, hk⟩ | ⟨hno, hk⟩
    · obtain ⟨g1, g2, g3⟩ := h1 q hq
      refine lv_tableIn (tgt := q.2) (off := (q.2 : Int) - (pc : Int)) hx hb hd (by rw [et]; omega) (by rw [et]; omega) (by rw [et, e1]; exact g3) (by omega) (hk H locs ls hP hS hg hL h3)
    · refine lv_tableOut (tgt := a) hx hb hd ?_ ht (hk H locs ls hP hS hg hL h3)
      rw [et]
      by_cases g1 : x < lo
      · exact Or.inl g1
      · by_cases g2 : hi < x
        · exact Or.inr g2
        · exfalso
          have hm : x ∈ ts.map (fun q => q.1) := by
            rw [h2]
            exact List.mem_map.mpr ⟨(x - lo).toNat, List.mem_range.mpr (by omega), by omega⟩
          obtain ⟨q, hq, e1⟩ := List.mem_map.mp hm
          exact hno q hq e1.symm
  · exact h.elim
theorem mj_off_or {x dflt : Int} : ∀ (ps : List (Int × Int)), (∃ q ∈ ps, x = q.1 ∧ Op.lookupswitch.offset ps dflt x = q.2) ∨ ((∀ q ∈ ps, x ≠ q.1) ∧ Op.lookupswitch.offset ps dflt x = dflt)
  | [] => Or.inr ⟨fun _ q => absurd q List.not_mem_nil, rfl⟩
  | (k, o) :: r => by
    rw [Op.lookupswitch.offset_cons]
    by_cases hc : k = x
    · rw [if_pos hc]
      exact Or.inl ⟨(k, o), List.mem_cons_self, hc.symm, rfl⟩
    · rw [if_neg hc]
      rcases mj_off_or (x := x) (dflt := dflt) r with ⟨q, h1, h2⟩ | ⟨h1, h2⟩
      · exact Or.inl ⟨q, List.mem_cons_of_mem _ h1, h2⟩
      · refine Or.inr ⟨fun q' hq' => ?_, h2⟩
        rcases List.mem_cons.mp hq' with e | e
        · rw [e]; exact fun w => hc w.symm
        · exact h1 q' e
theorem mj_s_look {dflt : Int} {ps : Array (Int × Int)} {ln : Nat} (hC : mj_Cx p R s m args c D cs A ad sa cu su own cc nL n) (hd : decode cc pc = .ok (.lookupswitch dflt ps, ln)) (hp : (ps.toList.zip (ps.toList.drop 1)).all (fun (a, next) => a.1 < next.1) = true) (ht : (pc : Int) + dflt = (a : Int))
    (h1 : ts.map (fun q => (q.1, (q.2 : Int) - (pc : Int))) = ps.toList) (hnd : ∀ q ∈ ts, ∀ q' ∈ ts, q.1 = q'.1 → q = q')
    (h : mj_x_sw (mj_B p l e R s m args below meth c D cs A ad sa cu su Q nL) a ts loc st σ) : mj_B p l e R s m args below meth c D cs A ad sa cu su Q nL pc loc st σ := by
  obtain ⟨hx, hb, -⟩ := hC
  unfold mj_x_sw at h
  split at h
  · rename_i x r
    intro H locs ls hP hS hg hL hst
    obtain ⟨hxx, h3⟩ := mj_c1 hst
    have et := mj_tI hxx
    rcases mj_sw_or h with ⟨q, hq, e1, hk⟩ | ⟨hno, hk⟩
    · refine lv_lookup (tgt := q.2) (off := (q.2 : Int) - (pc : Int)) hx hb hd hp ?_ (by omega) (hk H locs ls hP hS hg hL h3)
      rw [et]
      rcases mj_off_or (x := x) (dflt := dflt) ps.toList with ⟨w, h5, h6, h7⟩ | ⟨h5, -⟩
      · rw [h7]
        rw [← h1] at h5
        obtain ⟨q', hq', rfl⟩ := List.mem_map.mp h5
        have := hnd q hq q' hq' (e1.symm.trans h6)
        rw [this]
      · exfalso
        exact h5 (q.1, (q.2 : Int) - (pc : Int)) (by rw [← h1]; exact List.mem_map.mpr ⟨q, hq, rfl⟩) e1
    · refine lv_lookup (tgt := a) (off := dflt) hx hb hd hp ?_ ht (hk H locs ls hP hS hg hL h3)
      rw [et]
      rcases mj_off_or (x := x) (dflt := dflt) ps.toList with ⟨w, h5, h6, h7⟩ | ⟨-, h5⟩
      · exfalso
        rw [← h1] at h5
        obtain ⟨q', hq', rfl⟩ := List.mem_map.mp h5
        exact hno q' hq' h6
      · exact h5
  · exact h.elim
/-! fields -/
theorem mj_uin : ∀ (ci : Nat) (q : vw_C), vwCl[ci]? = some q → ∀ w ∈ u_ws q.1 q.2.1 q.2.2, w ∈ mj_tb := by
  intro ci q h
  match ci, h with
  | 0, h => cases h; exact fun w hw => mj_tb_mem ((by decide +kernel : ∀ w ∈ u_ws RX0 TX0 4, w ∈ lw_tbl) w hw) ((by decide +kernel : ∀ w ∈ u_ws RX0 TX0 4, goodWord w = true) w hw)
  | 1, h => cases h; exact fun w hw => mj_tb_mem ((by decide +kernel : ∀ w ∈ u_ws RX1 TX1 8, w ∈ lw_tbl) w hw) ((by decide +kernel : ∀ w ∈ u_ws RX1 TX1 8, goodWord w = true) w hw)
  | 2, h => cases h; exact fun w hw => mj_tb_mem ((by decide +kernel : ∀ w ∈ u_ws RX2 TX2 4, w ∈ lw_tbl) w hw) ((by decide +kernel : ∀ w ∈ u_ws RX2 TX2 4, goodWord w = true) w hw)
  | 3, h => cases h; exact fun w hw => mj_tb_mem ((by decide +kernel : ∀ w ∈ u_ws RX3 TX3 3, w ∈ lw_tbl) w hw) ((by decide +kernel : ∀ w ∈ u_ws RX3 TX3 3, goodWord w = true) w hw)
  | 4, h => cases h; exact fun w hw => mj_tb_mem ((by decide +kernel : ∀ w ∈ u_ws RX4 TX4 3, w ∈ lw_tbl) w hw) ((by decide +kernel : ∀ w ∈ u_ws RX4 TX4 3, goodWord w = true) w hw)
  | 5, h => cases h; exact fun w hw => mj_tb_mem ((by decide +kernel : ∀ w ∈ u_ws RX5 TX5 2, w ∈ lw_tbl) w hw) ((by decide +kernel : ∀ w ∈ u_ws RX5 TX5 2, goodWord w = true) w hw)
  | 6, h => cases h; exact fun w hw => mj_tb_mem ((by decide +kernel : ∀ w ∈ u_ws RX6 TX6 4, w ∈ lw_tbl) w hw) ((by decide +kernel : ∀ w ∈ u_ws RX6 TX6 4, goodWord w = true) w hw)
  | 7, h => cases h; exact fun w hw => mj_tb_mem ((by decide +kernel : ∀ w ∈ u_ws RX7 TX7 4, w ∈ lw_tbl) w hw) ((by decide +kernel : ∀ w ∈ u_ws RX7 TX7 4, goodWord w = true) w hw)
  | 8, h => cases h; exact fun w hw => mj_tb_mem ((by decide +kernel : ∀ w ∈ u_ws RX8 TX8 3, w ∈ lw_tbl) w hw) ((by decide +kernel : ∀ w ∈ u_ws RX8 TX8 3, goodWord w = true) w hw)
  | 9, h => cases h; exact fun w hw => mj_tb_mem ((by decide +kernel : ∀ w ∈ u_ws RX9 TX9 3, w ∈ lw_tbl) w hw) ((by decide +kernel : ∀ w ∈ u_ws RX9 TX9 3, goodWord w = true) w hw)
  | 10, h => cases h; exact fun w hw => mj_tb_mem ((by decide +kernel : ∀ w ∈ u_ws RX10 TX10 1, w ∈ lw_tbl) w hw) ((by decide +kernel : ∀ w ∈ u_ws RX10 TX10 1, goodWord w = true) w hw)
  | 11, h => cases h; exact fun w hw => mj_tb_mem ((by decide +kernel : ∀ w ∈ u_ws RX11 TX11 10, w ∈ lw_tbl) w hw) ((by decide +kernel : ∀ w ∈ u_ws RX11 TX11 10, goodWord w = true) w hw)
  | 12, h => cases h; exact fun w hw => mj_tb_mem ((by decide +kernel : ∀ w ∈ u_ws RX12 TX12 43, w ∈ lw_tbl) w hw) ((by decide +kernel : ∀ w ∈ u_ws RX12 TX12 43, goodWord w = true) w hw)
  | k + 13, h => simp [vwCl] at h
theorem mj_tyo : ∀ (ci : Nat) (q : vw_C), vwCl[ci]? = some q → (∃ ty : Nat → FieldType, ∀ k, k < q.2.2 → parseFieldDescriptor (q.2.1 k).2.2.1 = some (ty k)) ∧ (∀ a, a < q.2.2 → ∀ b, b < q.2.2 → a ≠ b → (q.2.1 a).2.1 ≠ (q.2.1 b).2.1) ∧ q.2.2 = mj_fn ci := by
  intro ci q h
  match ci, h with
  | 0, h => cases h; exact ⟨⟨tyX0, tyX0_ok⟩, nmX0, by decide +kernel⟩
  | 1, h => cases h; exact ⟨⟨tyX1, tyX1_ok⟩, nmX1, by decide +kernel⟩
  | 2, h => cases h; exact ⟨⟨tyX2, tyX2_ok⟩, nmX2, by decide +kernel⟩
  | 3, h => cases h; exact ⟨⟨tyX3, tyX3_ok⟩, nmX3, by decide +kernel⟩
  | 4, h => cases h; exact ⟨⟨tyX4, tyX4_ok⟩, nmX4, by decide +kernel⟩
  | 5, h => cases h; exact ⟨⟨tyX5, tyX5_ok⟩, nmX5, by decide +kernel⟩
  | 6, h => cases h; exact ⟨⟨tyX6, tyX6_ok⟩, nmX6, by decide +kernel⟩
  | 7, h => cases h; exact ⟨⟨tyX7, tyX7_ok⟩, nmX7, by decide +kernel⟩
  | 8, h => cases h; exact ⟨⟨tyX8, tyX8_ok⟩, nmX8, by decide +kernel⟩
  | 9, h => cases h; exact ⟨⟨tyX9, tyX9_ok⟩, nmX9, by decide +kernel⟩
  | 10, h => cases h; exact ⟨⟨tyX10, tyX10_ok⟩, nmX10, by decide +kernel⟩
  | 11, h => cases h; exact ⟨⟨tyX11, tyX11_ok⟩, nmX11, by decide +kernel⟩
  | 12, h => cases h; exact ⟨⟨tyX12, tyX12_ok⟩, nmX12, by decide +kernel⟩
  | k + 13, h => simp [vwCl] at h
/-- the layout: a field's cell is of the kind told -/
def mj_layb (o j : Nat) : Bool := !(Nat.beq (mj_fi (mj_kd.getD o (99, 0)).1 j).1 2) || (decide ((mj_fi (mj_kd.getD o (99, 0)).1 j).2.2.1 < 24) && (decide (o + (mj_fi (mj_kd.getD o (99, 0)).1 j).2.1 < mj_NC) && decide (mj_kd.getD (o + (mj_fi (mj_kd.getD o (99, 0)).1 j).2.1) (99, 0) = ((mj_fi (mj_kd.getD o (99, 0)).1 j).2.2.1, (mj_fi (mj_kd.getD o (99, 0)).1 j).2.2.2))))
theorem mj_lay0 : (List.range mj_NC).all (fun o => (List.range (mj_fn (mj_kd.getD o (99, 0)).1)).all (fun j => mj_layb o j)) = true := by decide +kernel
theorem mj_lay (o : Nat) (ho : o < mj_NC) (j : Nat) (hj : j < mj_fn (mj_kd.getD o (99, 0)).1) (h2 : (mj_fi (mj_kd.getD o (99, 0)).1 j).1 = 2) : (mj_fi (mj_kd.getD o (99, 0)).1 j).2.2.1 < 24 ∧ o + (mj_fi (mj_kd.getD o (99, 0)).1 j).2.1 < mj_NC ∧ mj_kd.getD (o + (mj_fi (mj_kd.getD o (99, 0)).1 j).2.1) (99, 0) = ((mj_fi (mj_kd.getD o (99, 0)).1 j).2.2.1, (mj_fi (mj_kd.getD o (99, 0)).1 j).2.2.2) := by
  have h := List.all_eq_true.mp (List.all_eq_true.mp mj_lay0 o (List.mem_range.mpr ho)) j (List.mem_range.mpr hj)
  unfold mj_layb at h
  rw [h2] at h
  simpa using h
theorem mj_lay23 : ∀ o, o < mj_NC → mj_kd.getD o (99, 0) = (23, 2) → o + 14 < mj_NC ∧ mj_kd.getD (o + 1) (99, 0) = (0, 0) ∧ mj_kd.getD (o + 14) (99, 0) = (0, 0) := by decide +kernel
theorem mj_lay9 : ∀ o, o < mj_NC → (mj_kd.getD o (99, 0)).1 = 23 → (mj_kd.getD o (99, 0)).2 = 2 := by decide +kernel
theorem mj_lay22 : ∀ o, o < mj_NC → (mj_kd.getD o (99, 0)).1 = 22 → (mj_kd.getD o (99, 0)).2 = 169 := by decide +kernel
theorem mj_okr {t k o : Nat} (h : mj_ok sa (rV t k o)) (ht : t < 24) : o < mj_NC ∧ mj_kd.getD o (99, 0) = (t, k) := by
  have h' : (t < 24 ∧ o < mj_NC ∧ mj_kd.getD o (99, 0) = (t, k)) ∨ (t = 25 ∧ k = 4) ∨ (t = 26 ∧ k = 4) ∨ (t = 27 ∧ k = sa.2.2.2.1) := h
  rcases h' with h | h | h | h
  · exact h.2
  · omega
  · omega
  · omega
theorem mj_vr {t k o : Nat} (ht : t < 24) : mj_v ad sa (rV t k o) = .ref (ad o) := by
  show Value.ref (if t < 24 then ad o else _) = _
  rw [if_pos ht]
def mj_Fl (own : String) (idx a b : Nat) (im : Int) : Prop := im = (b : Int) ∧ ∃ q : vw_C, vwCl[a]? = some q ∧ b < q.2.2 ∧ a < 20 ∧ Cond.fieldLink own idx (q.2.1 b).1 (q.2.1 b).2.1 (q.2.1 b).2.2.1 ∈ mj_tb
theorem mj_s_get {idx : Nat} (hC : mj_Cx p R s m args c D cs A ad sa cu su own cc nL n) (hd : decode cc pc = .ok (.getfield idx, 3)) (hn : nx = pc + 3) (hf : mj_Fl own idx a b im)
    (h : mj_x_get (mj_B p l e R s m args below meth c D cs A ad sa cu su Q nL) nx a b im loc st σ) : mj_B p l e R s m args below meth c D cs A ad sa cu su Q nL pc loc st σ := by
  obtain ⟨hx, hb, hml, ho, hts, hK, -⟩ := hC
  obtain ⟨rfl, ⟨C, T, N⟩, hq, hbN, ha20, hlk⟩ := hf
  obtain ⟨-, -, hN⟩ := mj_tyo a _ hq
  have hN : N = mj_fn a := hN
  unfold mj_x_get at h
  split at h
  · rename_i t k9 o r
    split at h
    · rename_i hbt
      have e := Nat.eq_of_beq_eq_true hbt
      subst e
      intro H locs ls hP hS hg hL hst
      obtain ⟨h1, h2⟩ := mj_c1 hst
      obtain ⟨ho2, hk2⟩ := mj_okr h1 (by omega)
      have hat := mj_ws_at cs ad σ ho2
      rw [mj_ce_o cs ad σ hk2 ha20] at hat
      have hval : ((List.range (mj_fn t)).map (mj_fv ad σ t o))[b]? = some (mj_fv ad σ t o b) := by
        have : b < mj_fn t := by rw [← hN]; exact hbN
        simp [this]
      have key : W p l e R s m args below meth c H locs cu su Q (F0 m (pc + 3) ls (mj_fv ad σ t o b :: r.map (mj_v ad sa))) → W p l e R s m args below meth c H locs cu su Q (F0 m pc ls ((rV t k9 o :: r).map (mj_v ad sa))) := by
        intro hw
        show W p l e R s m args below meth c H locs cu su Q (F0 m pc ls (mj_v ad sa (rV t k9 o) :: r.map (mj_v ad sa)))
        rw [mj_vr (by omega)]
        exact va_get (D := D) (cl := vwCl) (C := C) (T := T) (N := N) hx hb hts (mj_uin _ _ hq) ho hK hP o hat hq b hbN (hts _ hlk) (fun _ h9 => h9) hval hd hw
      subst hn
      have hnR : mj_InR (σ o (b : Int)) := mj_rg_i hg hk2 (by omega) _
      split at h
      · rename_i hfi
        refine key ?_
        have : mj_fv ad σ t o b = .int (Int32.ofInt (σ o (b : Int))) := by unfold mj_fv; rw [hfi]; rfl
        rw [this]
        exact h H locs ls hP hS hg hL (mj_cons hnR h2)
      · rename_i hfi
        refine key ?_
        have : mj_fv ad σ t o b = .int (Int32.ofInt (σ o (b : Int))) := by unfold mj_fv; rw [hfi]; rfl
        rw [this]
        exact h H locs ls hP hS hg hL (mj_cons hnR h2)
      · rename_i off t' n' hfi
        refine key ?_
        have hl := mj_lay o ho2 b (by rw [hk2]; show b < mj_fn t; omega)
        rw [hk2] at hl
        have hl := hl (by show (mj_fi t b).1 = 2; rw [hfi])
        have hl : (mj_fi t b).2.2.1 < 24 ∧ o + (mj_fi t b).2.1 < mj_NC ∧ mj_kd.getD (o + (mj_fi t b).2.1) (99, 0) = ((mj_fi t b).2.2.1, (mj_fi t b).2.2.2) := hl
        rw [hfi] at hl
        have : mj_fv ad σ t o b = .ref (ad (o + off)) := by unfold mj_fv; rw [hfi]; rfl
        rw [this]
        have h3 := h H locs ls hP hS hg hL (mj_cons (v := rV t' n' (o + off)) (Or.inl hl) h2)
        have h3 : W p l e R s m args below meth c H locs cu su Q (F0 m (pc + 3) ls (mj_v ad sa (rV t' n' (o + off)) :: r.map (mj_v ad sa))) := h3
        rw [mj_vr hl.1] at h3
        exact h3
      · exact h.elim
    · exact h.elim
  · exact h.elim
theorem mj_fv_up {ad : Nat → Nat} {σ : mj_W} {t o k j : Nat} {x : Int} (h : (mj_fi t k).1 ≠ 2) : mj_fv ad (mj_up σ o (k : Int) x) t o j = if j = k then .int (Int32.ofInt x) else mj_fv ad σ t o j := by
  unfold mj_fv mj_up
  by_cases hj : j = k
  · subst hj
    rw [if_neg h, if_pos rfl, if_pos ⟨rfl, rfl⟩]
  · rw [if_neg hj]
    have : ¬ (o = o ∧ (j : Int) = (k : Int)) := fun q => hj (by omega)
    rw [if_neg this]
def mj_Fp (own : String) (idx a b : Nat) (im : Int) : Prop := mj_Fl own idx a b im ∧ ∃ q : vw_C, vwCl[a]? = some q ∧ (q.2.1 b).2.2.2 = false ∧ (((mj_fi a b).1 = 0 ∧ parseFieldDescriptor (q.2.1 b).2.2.1 = some .int) ∨ ((mj_fi a b).1 = 1 ∧ parseFieldDescriptor (q.2.1 b).2.2.1 = some .boolean))
theorem mj_zf {x : Int} (h : x = 0 ∨ x = 1) : narrow .boolean (.int (Int32.ofInt x)) = .int (Int32.ofInt x) ∧ fits .boolean (.int (Int32.ofInt x)) = true ∧ vp_nar .boolean (Int32.ofInt x) = Int32.ofInt x := by
  rcases h with rfl | rfl <;> decide +kernel
theorem mj_s_put {idx : Nat} (hC : mj_Cx p R s m args c D cs A ad sa cu su own cc nL n) (hd : decode cc pc = .ok (.putfield idx, 3)) (hn : nx = pc + 3) (hf : mj_Fp own idx a b im)
    (h : mj_x_put (mj_B p l e R s m args below meth c D cs A ad sa cu su Q nL) nx a b im loc st σ) : mj_B p l e R s m args below meth c D cs A ad sa cu su Q nL pc loc st σ := by
  obtain ⟨hx, hb, hml, ho, hts, hK, hDD, -⟩ := hC
  obtain ⟨⟨rfl, ⟨C, T, N⟩, hq, hbN, ha20, hlk⟩, q2, hq2, hfin, hty2⟩ := hf
  cases hq.symm.trans hq2
  obtain ⟨⟨ty, hty⟩, hnm, hN⟩ := mj_tyo a _ hq
  have hN : N = mj_fn a := hN
  unfold mj_x_put at h
  split at h
  · rename_i x t k9 o r
    split at h
    · rename_i hbt
      have e := Nat.eq_of_beq_eq_true hbt
      subst e
      intro H locs ls hP hS hg hL hst
      obtain ⟨hxx, h1⟩ := mj_c1 hst
      obtain ⟨h1, h2⟩ := mj_c1 h1
      obtain ⟨ho2, hk2⟩ := mj_okr h1 (by omega)
      have hat := mj_ws_at cs ad σ ho2
      rw [mj_ce_o cs ad σ hk2 ha20] at hat
      have hbf : b < mj_fn t := by rw [← hN]; exact hbN
      have hrg : mj_rg (mj_up σ o (b : Int) x) := mj_rg_up hg (by rw [mj_ln_o hk2 ha20]; omega) (by rw [hk2, if_neg (by intro q; cases q; omega)]; exact hxx)
      subst hn
      have key : ∀ fty : FieldType, parseFieldDescriptor (T b).2.2.1 = some fty → narrow fty (.int (Int32.ofInt x)) = .int (Int32.ofInt x) → fits fty (.int (Int32.ofInt x)) = true → (mj_fi t b).1 ≠ 2 → mj_B p l e R s m args below meth c D cs A ad sa cu su Q nL (pc + 3) loc r (mj_up σ o (b : Int) x) → W p l e R s m args below meth c H locs cu su Q (F0 m pc ls ((iV x :: rV t k9 o :: r).map (mj_v ad sa))) := by
        intro fty g1 g2 g3 g4 hw
        show W p l e R s m args below meth c H locs cu su Q (F0 m pc ls (.int (Int32.ofInt x) :: mj_v ad sa (rV t k9 o) :: r.map (mj_v ad sa)))
        rw [mj_vr (by omega)]
        refine va_put (D := D) (cl := vwCl) (C := C) (T := T) (N := N) hx hb hts (mj_uin _ _ hq) ty hty hnm ho hK hP (hDD σ) hS o hat hq b hbN (hts _ hlk) (fun _ h9 => h9) hfin g1 g2 g3 (by simpa using hbf) hd (fun H1 locs1 hP1 hD1 hS1 => ?_)
        rw [mj_ws_set cs ad (σ' := mj_up σ o (b : Int) x) ho2 (fun o' ho' i => by unfold mj_up; rw [if_neg (fun q => ho' q.1)])] at hP1
        · exact hw H1 locs1 ls hP1 hS1 hrg hL h2
        · rw [mj_ce_o cs ad _ hk2 ha20]
          congr 2
          apply List.ext_getElem?
          intro j
          rw [List.getElem?_set]
          by_cases hj : b = j
          · subst hj
            rw [if_pos rfl]
            simp [hbf, mj_fv_up g4]
          · rw [if_neg hj]
            by_cases hjf : j < mj_fn t
            · have hjb : ¬ j = b := fun q => hj q.symm
              simp [hjf, mj_fv_up g4, hjb]
            · simp [hjf]
      split at h
      · rename_i hfi
        refine key .int ?_ rfl rfl (by rw [hfi]; exact fun q => by cases q) h
        rcases hty2 with w | w
        · exact w.2
        · have := w.1; rw [hfi] at this; cases this
      · rename_i hfi
        obtain ⟨hz, h⟩ := h
        obtain ⟨z1, z2, -⟩ := mj_zf hz
        refine key .boolean ?_ z1 z2 (by rw [hfi]; exact fun q => by cases q) h
        rcases hty2 with w | w
        · have := w.1; rw [hfi] at this; cases this
        · exact w.2
      · exact h.elim
    · exact h.elim
  · exact h.elim
end MJ2
end
section
/-! arrays, statics, calls -/
section MJ3
variable {p : Program} {l : Launch} {e : Env} {R : Room} {s : State} {m : MethodId} {args : Array Value} {below : List Frame} {meth : Method} {c : Code} {D : va_G} {cs : mj_Cs} {A : Nat → Prop} {ad : Nat → Nat} {sa : mj_Sa} {cu su : Nat} {Q : State → Prop} {own : String} {cc : ByteArray} {nL n : Nat}
variable {pc nx a b : Nat} {im : Int} {ts : List (Int × Nat)} {loc : mj_L} {st : List mj_V} {σ : mj_W}
theorem mj_toN {i : Int} (h : 0 ≤ i) (hr : mj_InR i) : (((Int32.ofInt i).toNatClampNeg : Nat) : Int) = i := by
  rw [mj_cl hr]; omega
theorem mj_ofcast {j : Nat} {i : Int} (h : 0 ≤ i) (hr : mj_InR i) : j = (Int32.ofInt i).toNatClampNeg ↔ (j : Int) = i := by
  rw [mj_cl hr]; omega
theorem mj_s_iald {Sx : Option (Int → Int)} (hC : mj_Cx p R s m args c D cs A ad sa cu su own cc nL n) (hSx : ∀ f, Sx = some f → f = sa.2.2.2.2) (hd : decode cc pc = .ok (.iaload, 1)) (hn : nx = pc + 1)
    (h : mj_x_iald (mj_B p l e R s m args below meth c D cs A ad sa cu su Q nL) Sx nx loc st σ) : mj_B p l e R s m args below meth c D cs A ad sa cu su Q nL pc loc st σ := by
  obtain ⟨hx, hb, hml, ho, hts, hK, hDD, hSt, hSc, -⟩ := hC
  unfold mj_x_iald at h
  split at h
  · rename_i i t k9 o r
    intro H locs ls hP hS hg hL hst
    obtain ⟨hi, h1⟩ := mj_c1 hst
    obtain ⟨h1, h2⟩ := mj_c1 h1
    subst hn
    split at h
    · obtain ⟨hin, h⟩ := h
      obtain ⟨ho2, hk2⟩ := mj_okr h1 (by omega)
      have hat := mj_ws_at cs ad σ ho2
      rw [mj_ce_i cs ad σ hk2] at hat
      have h3 := h H locs ls hP hS hg hL (mj_cons (v := iV (σ o i)) (mj_rg_i hg hk2 (by omega) _) h2)
      have h3 : W p l e R s m args below meth c H locs cu su Q (F0 m (pc + 1) ls (.int (Int32.ofInt (σ o i)) :: r.map (mj_v ad sa))) := h3
      refine va_iald (D := D) (cl := vwCl) hx hb hK hP o 0 hat rfl (mj_in hin hi) hd ?_
      show W p l e R s m args below meth c H locs cu su Q (F0 m (pc + 1) ls (.int (Int32.ofInt (σ o (((Int32.ofInt i).toNatClampNeg : Nat) : Int))) :: r.map (mj_v ad sa)))
      rw [mj_toN hin.1 hi]
      exact h3
    · obtain ⟨hin, h⟩ := h
      have hE : mj_InR (mj_east i) := by unfold mj_east; split; · omega
                                         · split <;> omega
      have h3 := h H locs ls hP hS hg hL (mj_cons (v := iV (mj_east i)) hE h2)
      refine va_ti (v := .int (Int32.ofInt (mj_east i))) hx hb hSt.2.1 hS (mj_in (n := 4) hin hi) ?_ hd h3
      show Value.int (Int32.ofInt (mj_east (((Int32.ofInt i).toNatClampNeg : Nat) : Int))) = _
      rw [mj_toN hin.1 hi]
    · obtain ⟨hin, h⟩ := h
      have hE : mj_InR (mj_north i) := by unfold mj_north; split; · omega
                                          · split <;> omega
      have h3 := h H locs ls hP hS hg hL (mj_cons (v := iV (mj_north i)) hE h2)
      refine va_ti (v := .int (Int32.ofInt (mj_north i))) hx hb hSt.2.2.2.1 hS (mj_in (n := 4) hin hi) ?_ hd h3
      show Value.int (Int32.ofInt (mj_north (((Int32.ofInt i).toNatClampNeg : Nat) : Int))) = _
      rw [mj_toN hin.1 hi]
    · split at h
      · rename_i f
        obtain ⟨hin, h⟩ := h
        have hf := hSx f rfl
        have h1' : (27 < 24 ∧ o < mj_NC ∧ mj_kd.getD o (99, 0) = (27, k9)) ∨ (27 = 25 ∧ k9 = 4) ∨ (27 = 26 ∧ k9 = 4) ∨ (27 = 27 ∧ k9 = sa.2.2.2.1) := h1
        have hk9 : k9 = sa.2.2.2.1 := by omega
        have h3 := h H locs ls hP hS hg hL (mj_cons (v := iV (f i)) (by rw [hf]; exact hSc.2.2.2.1 i) h2)
        have h3 : W p l e R s m args below meth c H locs cu su Q (F0 m (pc + 1) ls (.int (Int32.ofInt (f i)) :: r.map (mj_v ad sa))) := h3
        refine va_sld (xs := fun j => Int32.ofInt (sa.2.2.2.2 (j : Int))) hx hb hSc.1 hSc.2.1 hSc.2.2.1 hS (mj_in (by rw [← hk9]; exact hin) hi) hd ?_
        show W p l e R s m args below meth c H locs cu su Q (F0 m (pc + 1) ls (.int (Int32.ofInt (sa.2.2.2.2 (((Int32.ofInt i).toNatClampNeg : Nat) : Int))) :: r.map (mj_v ad sa)))
        rw [mj_toN hin.1 hi, ← hf]
        exact h3
      · exact h.elim
    · exact h.elim
  · exact h.elim
theorem mj_s_iast (hC : mj_Cx p R s m args c D cs A ad sa cu su own cc nL n) (hd : decode cc pc = .ok (.iastore, 1)) (hn : nx = pc + 1)
    (h : mj_x_iast (mj_B p l e R s m args below meth c D cs A ad sa cu su Q nL) nx loc st σ) : mj_B p l e R s m args below meth c D cs A ad sa cu su Q nL pc loc st σ := by
  obtain ⟨hx, hb, hml, ho, hts, hK, hDD, -⟩ := hC
  unfold mj_x_iast at h
  split at h
  · rename_i x i t k9 o r
    intro H locs ls hP hS hg hL hst
    obtain ⟨hxx, h1⟩ := mj_c1 hst
    obtain ⟨hi, h1⟩ := mj_c1 h1
    obtain ⟨h1, h2⟩ := mj_c1 h1
    subst hn
    split at h
    · obtain ⟨hin, h⟩ := h
      obtain ⟨ho2, hk2⟩ := mj_okr h1 (by omega)
      have hat := mj_ws_at cs ad σ ho2
      rw [mj_ce_i cs ad σ hk2] at hat
      have hrg : mj_rg (mj_up σ o i x) := mj_rg_up hg (by rw [mj_ln_a hk2 (by omega)]; exact hin) (by rw [hk2, if_neg (by intro q; cases q)]; exact hxx)
      refine va_iast (D := D) (cl := vwCl) hx hb hK hP (hDD σ) hS o 0 hat rfl (mj_in hin hi) hd (fun H1 locs1 hP1 hD1 hS1 => ?_)
      rw [mj_ws_set cs ad (σ' := mj_up σ o i x) ho2 (fun o' ho' i' => by unfold mj_up; rw [if_neg (fun q => ho' q.1)])] at hP1
      · exact h H1 locs1 ls hP1 hS1 hrg hL h2
      · rw [mj_ce_i cs ad _ hk2]
        congr 3
        apply congrArg
        funext j
        unfold upd mj_up
        by_cases hj : (j : Int) = i
        · rw [if_pos ((mj_ofcast hin.1 hi).mpr hj), if_pos ⟨rfl, hj⟩]
        · rw [if_neg (fun q => hj ((mj_ofcast hin.1 hi).mp q)), if_neg (fun q => hj q.2)]
    · exact h.elim
  · exact h.elim
theorem mj_s_bald (hC : mj_Cx p R s m args c D cs A ad sa cu su own cc nL n) (hd : decode cc pc = .ok (.baload, 1)) (hn : nx = pc + 1)
    (h : mj_x_bald (mj_B p l e R s m args below meth c D cs A ad sa cu su Q nL) nx loc st σ) : mj_B p l e R s m args below meth c D cs A ad sa cu su Q nL pc loc st σ := by
  obtain ⟨hx, hb, hml, ho, hts, hK, -⟩ := hC
  unfold mj_x_bald at h
  split at h
  · rename_i i t k9 o r
    intro H locs ls hP hS hg hL hst
    obtain ⟨hi, h1⟩ := mj_c1 hst
    obtain ⟨h1, h2⟩ := mj_c1 h1
    subst hn
    split at h
    · obtain ⟨hin, h⟩ := h
      obtain ⟨ho2, hk2⟩ := mj_okr h1 (by omega)
      have hat := mj_ws_at cs ad σ ho2
      rw [mj_ce_z cs ad σ hk2] at hat
      have h3 := h H locs ls hP hS hg hL (mj_cons (v := iV (σ o i)) (mj_rg_i hg hk2 (by omega) _) h2)
      have h3 : W p l e R s m args below meth c H locs cu su Q (F0 m (pc + 1) ls (.int (Int32.ofInt (σ o i)) :: r.map (mj_v ad sa))) := h3
      refine va_zald (D := D) (cl := vwCl) hx hb hK hP o 1 hat rfl (mj_in hin hi) hd ?_
      show W p l e R s m args below meth c H locs cu su Q (F0 m (pc + 1) ls (.int (Int32.ofInt (σ o (((Int32.ofInt i).toNatClampNeg : Nat) : Int))) :: r.map (mj_v ad sa)))
      rw [mj_toN hin.1 hi]
      exact h3
    · exact h.elim
  · exact h.elim
theorem mj_s_bast (hC : mj_Cx p R s m args c D cs A ad sa cu su own cc nL n) (hd : decode cc pc = .ok (.bastore, 1)) (hn : nx = pc + 1)
    (h : mj_x_bast (mj_B p l e R s m args below meth c D cs A ad sa cu su Q nL) nx loc st σ) : mj_B p l e R s m args below meth c D cs A ad sa cu su Q nL pc loc st σ := by
  obtain ⟨hx, hb, hml, ho, hts, hK, hDD, -⟩ := hC
  unfold mj_x_bast at h
  split at h
  · rename_i x i t k9 o r
    intro H locs ls hP hS hg hL hst
    obtain ⟨hxx, h1⟩ := mj_c1 hst
    obtain ⟨hi, h1⟩ := mj_c1 h1
    obtain ⟨h1, h2⟩ := mj_c1 h1
    subst hn
    split at h
    · obtain ⟨⟨hin, hz⟩, h⟩ := h
      obtain ⟨-, -, z3⟩ := mj_zf hz
      obtain ⟨ho2, hk2⟩ := mj_okr h1 (by omega)
      have hat := mj_ws_at cs ad σ ho2
      rw [mj_ce_z cs ad σ hk2] at hat
      have hrg : mj_rg (mj_up σ o i x) := mj_rg_up hg (by rw [mj_ln_a hk2 (by omega)]; exact hin) (by rw [hk2, if_neg (by intro q; cases q)]; exact hxx)
      refine va_zast (D := D) (cl := vwCl) hx hb hK hP (hDD σ) hS o 1 hat rfl (mj_in hin hi) hd (fun H1 locs1 hP1 hD1 hS1 => ?_)
      rw [mj_ws_set cs ad (σ' := mj_up σ o i x) ho2 (fun o' ho' i' => by unfold mj_up; rw [if_neg (fun q => ho' q.1)])] at hP1
      · exact h H1 locs1 ls hP1 hS1 hrg hL h2
      · rw [mj_ce_z cs ad _ hk2, z3]
        congr 3
        apply congrArg
        funext j
        unfold upd mj_up
        by_cases hj : (j : Int) = i
        · rw [if_pos ((mj_ofcast hin.1 hi).mpr hj), if_pos ⟨rfl, hj⟩]
        · rw [if_neg (fun q => hj ((mj_ofcast hin.1 hi).mp q)), if_neg (fun q => hj q.2)]
    · exact h.elim
  · exact h.elim
theorem mj_s_jald (hC : mj_Cx p R s m args c D cs A ad sa cu su own cc nL n) (hd : decode cc pc = .ok (.laload, 1)) (hn : nx = pc + 1)
    (h : mj_x_jald (mj_B p l e R s m args below meth c D cs A ad sa cu su Q nL) nx loc st σ) : mj_B p l e R s m args below meth c D cs A ad sa cu su Q nL pc loc st σ := by
  obtain ⟨hx, hb, hml, ho, hts, hK, -⟩ := hC
  unfold mj_x_jald at h
  split at h
  · rename_i i t k9 o r
    intro H locs ls hP hS hg hL hst
    obtain ⟨hi, h1⟩ := mj_c1 hst
    obtain ⟨h1, h2⟩ := mj_c1 h1
    subst hn
    split at h
    · obtain ⟨hin, h⟩ := h
      obtain ⟨ho2, hk2⟩ := mj_okr h1 (by omega)
      have hat := mj_ws_at cs ad σ ho2
      rw [mj_ce_j cs ad σ hk2] at hat
      have h3 := h H locs ls hP hS hg hL (mj_cons (v := jV (σ o i)) (mj_rg_j hg _ _) h2)
      have h3 : W p l e R s m args below meth c H locs cu su Q (F0 m (pc + 1) ls (.long (Int64.ofInt (σ o i)) :: r.map (mj_v ad sa))) := h3
      refine va_lald (D := D) (cl := vwCl) hx hb hK hP o 2 hat rfl (mj_in hin hi) hd ?_
      show W p l e R s m args below meth c H locs cu su Q (F0 m (pc + 1) ls (.long (Int64.ofInt (σ o (((Int32.ofInt i).toNatClampNeg : Nat) : Int))) :: r.map (mj_v ad sa)))
      rw [mj_toN hin.1 hi]
      exact h3
    · exact h.elim
  · exact h.elim
theorem mj_s_jast (hC : mj_Cx p R s m args c D cs A ad sa cu su own cc nL n) (hd : decode cc pc = .ok (.lastore, 1)) (hn : nx = pc + 1)
    (h : mj_x_jast (mj_B p l e R s m args below meth c D cs A ad sa cu su Q nL) nx loc st σ) : mj_B p l e R s m args below meth c D cs A ad sa cu su Q nL pc loc st σ := by
  obtain ⟨hx, hb, hml, ho, hts, hK, hDD, -⟩ := hC
  unfold mj_x_jast at h
  split at h
  · rename_i x i t k9 o r
    intro H locs ls hP hS hg hL hst
    obtain ⟨hxx, h1⟩ := mj_c1 hst
    obtain ⟨hi, h1⟩ := mj_c1 h1
    obtain ⟨h1, h2⟩ := mj_c1 h1
    subst hn
    split at h
    · obtain ⟨hin, h⟩ := h
      obtain ⟨ho2, hk2⟩ := mj_okr h1 (by omega)
      have h169 := mj_lay22 o ho2 (by rw [hk2])
      rw [hk2] at h169
      have h169 : k9 = 169 := h169
      have hat := mj_ws_at cs ad σ ho2
      rw [mj_ce_j cs ad σ hk2] at hat
      have hrg : mj_rg (mj_up σ o i x) := mj_rg_up hg (by rw [mj_ln_a hk2 (by omega)]; exact hin) (by rw [hk2, h169, if_pos rfl]; exact hxx)
      refine va_last (D := D) (cl := vwCl) hx hb hK hP (hDD σ) hS o 2 hat rfl (mj_in hin hi) hd (fun H1 locs1 hP1 hD1 hS1 => ?_)
      rw [mj_ws_set cs ad (σ' := mj_up σ o i x) ho2 (fun o' ho' i' => by unfold mj_up; rw [if_neg (fun q => ho' q.1)])] at hP1
      · exact h H1 locs1 ls hP1 hS1 hrg hL h2
      · rw [mj_ce_j cs ad _ hk2]
        congr 4
        apply congrArg
        funext j
        unfold vp_updL mj_up
        by_cases hj : (j : Int) = i
        · rw [if_pos ((mj_ofcast hin.1 hi).mpr hj), if_pos ⟨rfl, hj⟩]
        · rw [if_neg (fun q => hj ((mj_ofcast hin.1 hi).mp q)), if_neg (fun q => hj q.2)]
    · exact h.elim
  · exact h.elim
theorem mj_s_rald (hC : mj_Cx p R s m args c D cs A ad sa cu su own cc nL n) (hd : decode cc pc = .ok (.aaload, 1)) (hn : nx = pc + 1)
    (h : mj_x_rald (mj_B p l e R s m args below meth c D cs A ad sa cu su Q nL) nx loc st σ) : mj_B p l e R s m args below meth c D cs A ad sa cu su Q nL pc loc st σ := by
  obtain ⟨hx, hb, hml, ho, hts, hK, -⟩ := hC
  unfold mj_x_rald at h
  split at h
  · rename_i i t k9 o r
    intro H locs ls hP hS hg hL hst
    obtain ⟨hi, h1⟩ := mj_c1 hst
    obtain ⟨h1, h2⟩ := mj_c1 h1
    subst hn
    split at h
    · obtain ⟨hin, h⟩ := h
      obtain ⟨ho2, hk2⟩ := mj_okr h1 (by omega)
      have h2' := mj_lay9 o ho2 (by rw [hk2])
      rw [hk2] at h2'
      have h2' : k9 = 2 := h2'
      subst h2'
      obtain ⟨g1, g2, g3⟩ := mj_lay23 o ho2 hk2
      have hat := mj_ws_at cs ad σ ho2
      rw [mj_ce_q cs ad σ hk2] at hat
      refine va_aldq (D := D) (cl := vwCl) hx hb hK hP o 3 hat rfl (mj_in (n := 2) hin hi) hd ?_
      obtain ⟨f1, f2⟩ := mj_ifp h
      show W p l e R s m args below meth c H locs cu su Q (F0 m (pc + 1) ls (va_rf (if (Int32.ofInt i).toNatClampNeg = 0 then some (ad (o + 1)) else some (ad (o + 14))) :: r.map (mj_v ad sa)))
      by_cases hi0 : i = 0
      · have e0 : (Int32.ofInt i).toNatClampNeg = 0 := by rw [mj_cl hi]; omega
        rw [if_pos e0]
        have h3 := f1 hi0 H locs ls hP hS hg hL (mj_cons (v := rV 0 0 (o + 1)) (Or.inl ⟨by omega, by omega, g2⟩) h2)
        have h3 : W p l e R s m args below meth c H locs cu su Q (F0 m (pc + 1) ls (mj_v ad sa (rV 0 0 (o + 1)) :: r.map (mj_v ad sa))) := h3
        rw [mj_vr (by omega)] at h3
        exact h3
      · have e0 : ¬ (Int32.ofInt i).toNatClampNeg = 0 := by rw [mj_cl hi]; omega
        rw [if_neg e0]
        have h3 := f2 hi0 H locs ls hP hS hg hL (mj_cons (v := rV 0 0 (o + 14)) (Or.inl ⟨by omega, by omega, g3⟩) h2)
        have h3 : W p l e R s m args below meth c H locs cu su Q (F0 m (pc + 1) ls (mj_v ad sa (rV 0 0 (o + 14)) :: r.map (mj_v ad sa))) := h3
        rw [mj_vr (by omega)] at h3
        exact h3
    · exact h.elim
  · exact h.elim
theorem mj_s_len (hC : mj_Cx p R s m args c D cs A ad sa cu su own cc nL n) (hd : decode cc pc = .ok (.arraylength, 1)) (hn : nx = pc + 1)
    (h : mj_x_len (mj_B p l e R s m args below meth c D cs A ad sa cu su Q nL) nx loc st σ) : mj_B p l e R s m args below meth c D cs A ad sa cu su Q nL pc loc st σ := by
  obtain ⟨hx, hb, hml, ho, hts, hK, hDD, hSt, hSc, -⟩ := hC
  unfold mj_x_len at h
  split at h
  · rename_i t k9 o r
    split at h
    · intro H locs ls hP hS hg hL hst
      obtain ⟨h1, h2⟩ := mj_c1 hst
      have h1' : (27 < 24 ∧ o < mj_NC ∧ mj_kd.getD o (99, 0) = (27, k9)) ∨ (27 = 25 ∧ k9 = 4) ∨ (27 = 26 ∧ k9 = 4) ∨ (27 = 27 ∧ k9 = sa.2.2.2.1) := h1
      have hk9 : k9 = sa.2.2.2.1 := by omega
      have hsm := hSc.2.2.2.2
      have h3 := h H locs ls hP hS hg hL (mj_cons (v := iV (k9 : Int)) (show mj_InR (k9 : Int) by omega) h2)
      subst hn
      have h3 : W p l e R s m args below meth c H locs cu su Q (F0 m (pc + 1) ls (.int (Int32.ofInt (k9 : Int)) :: r.map (mj_v ad sa))) := h3
      refine va_slen hx hb hSc.1 hSc.2.1 hSc.2.2.1 hS hd ?_
      rw [← hk9]
      exact h3
    · exact h.elim
  · exact h.elim
theorem mj_sum : ∀ (r : List mj_V), (((r.map (mj_v ad sa)).map fun v => v.category).sum) ≤ 2 * r.length
  | [] => Nat.le_refl 0
  | v :: r => by
    have h1 := mj_sum r
    have h2 : (mj_v ad sa v).category ≤ 2 := by rcases lv_cat (mj_v ad sa v) with h | h <;> omega
    simp only [List.map_cons, List.sum_cons, List.length_cons]
    omega
def mj_Qc (D : va_G) (cs : mj_Cs) (A : Nat → Prop) (ad : Nat → Nat) (sa : mj_Sa) (K : Option mj_V → mj_W → Prop) : Array Value → State → Outcome → State → Prop := fun _ st o t =>
  (∃ (r : Option mj_V) (σ' : mj_W), o = .returned (r.map (mj_v ad sa)) ∧ K r σ' ∧ (∀ v, r = some v → mj_ok sa v) ∧ va_P D vwCl (mj_ws cs ad σ') t.heap ∧ mj_rg σ') ∧ va_F A st t
def mj_Pc (D : va_G) (cs : mj_Cs) (A : Nat → Prop) (ad : Nat → Nat) (sa : mj_Sa) (av : List mj_V) (σ : mj_W) : Array Value → State → Prop := fun a U =>
  a = (av.map (mj_v ad sa)).toArray ∧ va_P D vwCl (mj_ws cs ad σ) U.heap ∧ mj_rg σ ∧ (∀ v ∈ av, mj_ok sa v) ∧ va_K D vwCl (mj_ty cs) U ∧ (∀ σ' : mj_W, va_D A (mj_ws cs ad σ')) ∧ mj_St A sa U ∧ mj_Sc A sa U
theorem mj_St.moved {u U : State} {A : Nat → Prop} {sa : mj_Sa} (hvm : u.vm.Alike U.vm) (hq : ∀ q : Nat, q < u.heap.size → ¬ A q → U.heap[q]? = u.heap[q]?) (hN : mj_Ns u → mj_Ns U) (h : mj_St A sa u) : mj_St A sa U :=
  ⟨(h.1.kept hq).moved hvm, (h.2.1.kept hq).moved hvm, (h.2.2.1.kept hq).moved hvm, (h.2.2.2.1.kept hq).moved hvm, hN h.2.2.2.2⟩
theorem mj_isN_tab {w : Cond} (h : mj_isN w = true) : w.onTables = true := by
  unfold mj_isN at h
  split at h
  · rfl
  · rfl
  · cases h
theorem mj_Ns.same {u U : State} (h : u.vm = U.vm) (hN : mj_Ns u) : mj_Ns U := fun w hw hi => va_Nw.same (mj_isN_tab hi) h (hN w hw hi)
theorem mj_Ns.warm {u U : State} (h : u.WarmedH U.vm) (hN : mj_Ns u) : mj_Ns U := by
  intro w hw hi
  have h9 := hN w hw hi
  unfold mj_isN at hi
  split at hi
  · exact va_Nw.warmF h h9
  · exact va_Nw.warmM h h9
  · cases hi
theorem mj_Sc.moved {u U : State} {A : Nat → Prop} {sa : mj_Sa} (hvm : u.vm.Alike U.vm) (hz : u.heap.size ≤ U.heap.size) (hq : ∀ q : Nat, q < u.heap.size → ¬ A q → U.heap[q]? = u.heap[q]?) (h : mj_Sc A sa u) : mj_Sc A sa U :=
  ⟨(h.1.kept (hq _ h.2.1 h.2.2.1)).moved hvm, Nat.lt_of_lt_of_le h.2.1 hz, h.2.2⟩
theorem mj_blind (av : List mj_V) (σ : mj_W) : FrameBlind (mj_Pc D cs A ad sa av σ) := by
  intro a U g mk q
  obtain ⟨q1, q2, q3, q4, q5, q6, q7, q8⟩ := q
  exact ⟨q1, q2, q3, q4, va_K.moved (u := U) (U := U.calling g mk a) (Vm.Alike.refl U.vm) q5, q6, mj_St.moved (u := U) (U := U.calling g mk a) (Vm.Alike.refl U.vm) (fun _ _ _ => rfl) (mj_Ns.same rfl) q7, mj_Sc.moved (u := U) (U := U.calling g mk a) (Vm.Alike.refl U.vm) (Nat.le_refl _) (fun _ _ _ => rfl) q8⟩
theorem mj_call {K' : Option mj_V → mj_W → Prop} {H : Heap} {locs : List Loc} {ls : Array Slot} {st0 rest : List Value} {a0 : Array Value} (hr : va_Run p l e R s m args below meth c H locs cu su 0 0 (F0 m pc ls st0) rest (mj_Qc D cs A ad sa K' a0) A) (hS : va_S A s.heap H locs)
    (kk : ∀ (r : Option mj_V) (σ' : mj_W) (H1 : Heap) (locs1 : List Loc), K' r σ' → (∀ v, r = some v → mj_ok sa v) → va_P D vwCl (mj_ws cs ad σ') H1 → mj_rg σ' → va_S A s.heap H1 locs1 → W p l e R s m args below meth c H1 locs1 cu su Q (F0 m (pc + 3) ls ((r.map (mj_v ad sa)).toList ++ rest))) : W p l e R s m args below meth c H locs cu su Q (F0 m pc ls st0) := by
  intro T hT X
  obtain ⟨v, st₀, t, T', L, h0, X', hL, e1, e2, ⟨⟨r, σ', hv, hk, hok, hp, hg⟩, hz, hkp⟩, st⟩ := hr T hT X
  cases hv
  rw [h0] at hz hkp
  obtain ⟨t2, a1, b1⟩ := kk r σ' T'.heap (locs ++ L) hk hok (by rw [e1]; exact hp) hg
    ⟨Nat.le_trans hS.1 (by rw [e1]; exact hz), fun q h1 h2 => by rw [e1, hkp q (Nat.lt_of_lt_of_le h1 hS.1) h2]; exact hS.2.1 q h1 h2, fun q hq => by
      rcases List.mem_append.mp hq with h | h
      · exact hS.2.2 q h
      · exact hL q h⟩ T' rfl X'
  exact ⟨t2, st t2 a1, b1⟩
theorem mj_pre {H : Heap} {locs : List Loc} {av : List mj_V} (hC : mj_Cx p R s m args c D cs A ad sa cu su own cc nL n) (hP : va_P D vwCl (mj_ws cs ad σ) H) (hS : va_S A s.heap H locs) (hg : mj_rg σ) (hav : ∀ v ∈ av, mj_ok sa v) (U : State) (hU : U.heap = H) (hW : s.WarmedH U.vm) : mj_Pc D cs A ad sa av σ (av.map (mj_v ad sa)).toArray U := by
  obtain ⟨hx, hb, hml, ho, hts, hK, hDD, hSt, hSc, -⟩ := hC
  refine ⟨rfl, by rw [hU]; exact hP, hg, hav, va_K.moved hW.alike hK, hDD, mj_St.moved hW.alike (fun q h1 h2 => by rw [hU]; exact hS.2.1 q h1 h2) (mj_Ns.warm hW) hSt, mj_Sc.moved hW.alike (by rw [hU]; exact hS.1) (fun q h1 h2 => by rw [hU]; exact hS.2.1 q h1 h2) hSc⟩
/-! System.arraycopy of ints, Math.max, min, abs -/
theorem mj_nfw : nativeFrameWords "java/lang/System" "arraycopy" 5 = 7 := by decide +kernel
def mj_Cy (own : String) (idx : Nat) : Prop := Cond.methodLink own idx arraycopyName ∈ mj_tb ∧ Cond.native arraycopyName ∈ mj_tb ∧ Cond.static arraycopyName ∈ mj_tb ∧ Cond.initialized "java/lang/System" ∈ mj_tb
theorem mj_s_copy {idx : Nat} {x dp sp : Int} {td nd d ts ns s0 : Nat} {r : List mj_V} (hC : mj_Cx p R s m args c D cs A ad sa cu su own cc nL (n + 1)) (hd : decode cc pc = .ok (.invokestatic idx, 3)) (hn : nx = pc + 3) (hw : mj_Cy own idx) (e1 : td = 20) (e2 : ts = 20) (hr4 : r.length ≤ 4) (hv : (sp = 0 ∧ dp = 0) ∧ 0 ≤ x ∧ x ≤ (ns : Int) ∧ x ≤ (nd : Int))
    (h : mj_B p l e R s m args below meth c D cs A ad sa cu su Q nL nx loc r (mj_cp σ s0 d x)) : mj_B p l e R s m args below meth c D cs A ad sa cu su Q nL pc loc (iV x :: iV dp :: rV td nd d :: iV sp :: rV ts ns s0 :: r) σ := by
  obtain ⟨hx, hb, hml, ho, hts, hK, hDD, hSt, hSc, hf1, hf2, hf3, hf4⟩ := hC
  obtain ⟨w1, w2, w3, w4⟩ := hw
  intro H locs ls hP hS hg hL hst
  obtain ⟨hxx, h1⟩ := mj_c1 hst
  obtain ⟨hdp, h1⟩ := mj_c1 h1
  obtain ⟨hdd, h1⟩ := mj_c1 h1
  obtain ⟨hsp, h1⟩ := mj_c1 h1
  obtain ⟨hss, h2⟩ := mj_c1 h1
  subst hn
  obtain ⟨⟨rfl, rfl⟩, hx0, hxs, hxd⟩ := hv
  subst e1; subst e2
  obtain ⟨hd2, hkd⟩ := mj_okr hdd (by omega)
  obtain ⟨hs2, hks⟩ := mj_okr hss (by omega)
  have hatd := mj_ws_at cs ad σ hd2
  rw [mj_ce_i cs ad σ hkd] at hatd
  have hats := mj_ws_at cs ad σ hs2
  rw [mj_ce_i cs ad σ hks] at hats
  have e0 : (Int32.ofInt 0).toNatClampNeg = 0 := by decide
  have ex : (Int32.ofInt x).toNatClampNeg = x.toNat := mj_cl hxx
  have hrg : mj_rg (mj_cp σ s0 d x) := by
    intro o' i'
    unfold mj_cp
    by_cases hc : o' = d ∧ 0 ≤ i' ∧ i' < x
    · rw [if_pos hc, hc.1, hkd, if_neg (by intro q; cases q)]
      refine ⟨mj_rg_i hg hks (by omega) _, fun q => absurd ?_ q⟩
      rw [mj_ln_a hkd (by omega)]
      omega
    · rw [if_neg hc]; exact hg o' i'
  show W p l e R s m args below meth c H locs cu su Q (F0 m pc ls (.int (Int32.ofInt x) :: .int (Int32.ofInt 0) :: mj_v ad sa (rV 20 nd d) :: .int (Int32.ofInt 0) :: mj_v ad sa (rV 20 ns s0) :: r.map (mj_v ad sa)))
  rw [mj_vr (by omega), mj_vr (by omega)]
  refine va_copyi (D := D) (cl := vwCl) hx hb (by rw [hml]; exact hL.1.symm) ho (hts _ w1) (hts _ w2) (hts _ w3) (hts _ w4) hK hP (hDD σ) hS s0 d 0 0 (ty := .int) hats hatd rfl rfl rfl (by decide) (by decide) (by rw [← mj_z, mj_ltI hxx (by omega)]; omega) (by rw [e0, ex]; omega) (by rw [e0, ex]; omega) (fun _ _ => rfl) (by omega) (by have := mj_sum (ad := ad) (sa := sa) r; rw [mj_nfw]; omega) hd (fun H1 locs1 hP1 hD1 hS1 => ?_)
  rw [mj_ws_set cs ad (σ' := mj_cp σ s0 d x) hd2 (fun o' ho' i' => by unfold mj_cp; rw [if_neg (fun q => ho' q.1)])] at hP1
  · exact h H1 locs1 ls hP1 hS1 hrg hL h2
  · rw [mj_ce_i cs ad _ hkd]
    congr 3
    apply congrArg
    funext j
    unfold va_cpy mj_cp
    rw [e0, ex]
    by_cases hj : (j : Int) < x
    · rw [if_pos ⟨by omega, by omega⟩, if_pos ⟨rfl, by omega, hj⟩]
      congr 2
      omega
    · rw [if_neg (by omega), if_neg (fun q => hj q.2.2)]
def mj_Mx (own : String) (idx : Nat) : Prop := Cond.methodLink own idx Lib.Math.max.name ∈ mj_tb ∧ Cond.static Lib.Math.max.name ∈ mj_tb ∧ Cond.initialized "java/lang/Math" ∈ mj_tb ∧ Cond.code Lib.Math.max.name Lib.Math.max.code 2 (some .int) ∈ mj_tb
def mj_Mn (own : String) (idx : Nat) : Prop := Cond.methodLink own idx Lib.Math.min.name ∈ mj_tb ∧ Cond.static Lib.Math.min.name ∈ mj_tb ∧ Cond.initialized "java/lang/Math" ∈ mj_tb ∧ Cond.code Lib.Math.min.name Lib.Math.min.code 2 (some .int) ∈ mj_tb
def mj_Mb (own : String) (idx : Nat) : Prop := Cond.methodLink own idx Lib.Math.abs.name ∈ mj_tb ∧ Cond.static Lib.Math.abs.name ∈ mj_tb ∧ Cond.initialized "java/lang/Math" ∈ mj_tb ∧ Cond.code Lib.Math.abs.name Lib.Math.abs.code 1 (some .int) ∈ mj_tb
theorem mj_s_max {idx : Nat} {x y : Int} {r : List mj_V} (hC : mj_Cx p R s m args c D cs A ad sa cu su own cc nL (n + 1)) (hd : decode cc pc = .ok (.invokestatic idx, 3)) (hn : nx = pc + 3) (hw : mj_Mx own idx) (hr4 : r.length ≤ 4)
    (h : mj_B p l e R s m args below meth c D cs A ad sa cu su Q nL nx loc (iV (max x y) :: r) σ) : mj_B p l e R s m args below meth c D cs A ad sa cu su Q nL pc loc (iV y :: iV x :: r) σ := by
  obtain ⟨hx, hb, hml, ho, hts, hK, hDD, hSt, hSc, hf1, hf2, hf3, hf4⟩ := hC
  obtain ⟨w1, w2, w3, w4⟩ := hw
  intro H locs ls hP hS hg hL hst
  obtain ⟨hy, h1⟩ := mj_c1 hst
  obtain ⟨hxx, h2⟩ := mj_c1 h1
  have hy : mj_InR y := hy
  have hxx : mj_InR x := hxx
  subst hn
  have h3 := h H locs ls hP hS hg hL (mj_cons (v := iV (max x y)) (show mj_InR (max x y) by omega) h2)
  have h3 : W p l e R s m args below meth c H locs cu su Q (F0 m (pc + 3) ls (.int (Int32.ofInt (max x y)) :: r.map (mj_v ad sa))) := h3
  refine va_mmax hx hb (by rw [hml]; exact hL.1.symm) ho (hts _ w1) (hts _ w2) (hts _ w3) (hts _ w4) (by omega) (by have := mj_sum (ad := ad) (sa := sa) r; omega) hf3 hf4 hd ?_
  by_cases hc : x < y
  · rw [if_pos ((mj_ltI hxx hy).mpr hc), show y = max x y by omega]; exact h3
  · rw [if_neg (fun q => hc ((mj_ltI hxx hy).mp q)), show Int32.ofInt x = Int32.ofInt (max x y) by congr 1; omega]; exact h3
theorem mj_s_min {idx : Nat} {x y : Int} {r : List mj_V} (hC : mj_Cx p R s m args c D cs A ad sa cu su own cc nL (n + 1)) (hd : decode cc pc = .ok (.invokestatic idx, 3)) (hn : nx = pc + 3) (hw : mj_Mn own idx) (hr4 : r.length ≤ 4)
    (h : mj_B p l e R s m args below meth c D cs A ad sa cu su Q nL nx loc (iV (min x y) :: r) σ) : mj_B p l e R s m args below meth c D cs A ad sa cu su Q nL pc loc (iV y :: iV x :: r) σ := by
  obtain ⟨hx, hb, hml, ho, hts, hK, hDD, hSt, hSc, hf1, hf2, hf3, hf4⟩ := hC
  obtain ⟨w1, w2, w3, w4⟩ := hw
  intro H locs ls hP hS hg hL hst
  obtain ⟨hy, h1⟩ := mj_c1 hst
  obtain ⟨hxx, h2⟩ := mj_c1 h1
  have hy : mj_InR y := hy
  have hxx : mj_InR x := hxx
  subst hn
  have h3 := h H locs ls hP hS hg hL (mj_cons (v := iV (min x y)) (show mj_InR (min x y) by omega) h2)
  have h3 : W p l e R s m args below meth c H locs cu su Q (F0 m (pc + 3) ls (.int (Int32.ofInt (min x y)) :: r.map (mj_v ad sa))) := h3
  refine va_mmin hx hb (by rw [hml]; exact hL.1.symm) ho (hts _ w1) (hts _ w2) (hts _ w3) (hts _ w4) (by omega) (by have := mj_sum (ad := ad) (sa := sa) r; omega) hf3 hf4 hd ?_
  by_cases hc : y < x
  · rw [if_pos ((mj_ltI hy hxx).mpr hc), show Int32.ofInt y = Int32.ofInt (min x y) by congr 1; omega]; exact h3
  · rw [if_neg (fun q => hc ((mj_ltI hy hxx).mp q)), show Int32.ofInt x = Int32.ofInt (min x y) by congr 1; omega]; exact h3
theorem mj_s_abs {idx : Nat} {x : Int} {r : List mj_V} (hC : mj_Cx p R s m args c D cs A ad sa cu su own cc nL (n + 1)) (hd : decode cc pc = .ok (.invokestatic idx, 3)) (hn : nx = pc + 3) (hw : mj_Mb own idx) (hr4 : r.length ≤ 4) (hv : -2147483648 < x)
    (h : mj_B p l e R s m args below meth c D cs A ad sa cu su Q nL nx loc (iV (if x < 0 then -x else x) :: r) σ) : mj_B p l e R s m args below meth c D cs A ad sa cu su Q nL pc loc (iV x :: r) σ := by
  obtain ⟨hx, hb, hml, ho, hts, hK, hDD, hSt, hSc, hf1, hf2, hf3, hf4⟩ := hC
  obtain ⟨w1, w2, w3, w4⟩ := hw
  intro H locs ls hP hS hg hL hst
  obtain ⟨hxx, h2⟩ := mj_c1 hst
  have hxx : mj_InR x := hxx
  subst hn
  have h3 := h H locs ls hP hS hg hL (mj_cons (v := iV (if x < 0 then -x else x)) (show mj_InR (if x < 0 then -x else x) by split <;> omega) h2)
  have h3 : W p l e R s m args below meth c H locs cu su Q (F0 m (pc + 3) ls (.int (Int32.ofInt (if x < 0 then -x else x)) :: r.map (mj_v ad sa))) := h3
  refine va_mabs hx hb (by rw [hml]; exact hL.1.symm) ho (hts _ w1) (hts _ w2) (hts _ w3) (hts _ w4) (by omega) (by have := mj_sum (ad := ad) (sa := sa) r; omega) hf3 hf4 hd ?_
  by_cases hc : x < 0
  · rw [if_pos hc] at h3
    rw [if_neg (by rw [← mj_z, mj_leI (by omega) hxx]; omega), ← mj_z, ← Int32.ofInt_sub, show (0 : Int) - x = -x by omega]
    exact h3
  · rw [if_neg hc] at h3
    rw [if_pos (by rw [← mj_z, mj_leI (by omega) hxx]; omega)]
    exact h3
end MJ3
end
section
/-! headers of the methods: name, code, locals, what it returns; and where the tables' words on it lie -/
abbrev mj_H : Type := MethodName × ByteArray × Nat × Option FieldType
abbrev mj_Q : Type := Bool × Nat × Nat × Nat × Nat × Nat × Nat
def mj_hds : List mj_H := [
  (yX0_copyFrom, cX0_copyFrom, 2, none),
  (yX1_copyFrom, cX1_copyFrom, 2, none),
  (yX1_placeOf, cX1_placeOf, 3, (some .int)),
  (yX1_holds, cX1_holds, 2, (some .boolean)),
  (yX1_whoInPlace, cX1_whoInPlace, 2, (some .int)),
  (yX1_bitsOfPersons, cX1_bitsOfPersons, 3, (some .int)),
  (yX1_measure, cX1_measure, 2, (some .int)),
  (yX1_factOf, cX1_factOf, 3, (some .int)),
  (yX1_isTaken, cX1_isTaken, 6, (some .boolean)),
  (yX1_enter, cX1_enter, 6, none),
  (yX1_drop, cX1_drop, 4, none),
  (yX1_put, cX1_put, 4, none),
  (yX1_inherit, cX1_inherit, 4, none),
  (yX1_endDay, cX1_endDay, 2, none),
  (yX1_whyNoWalk, cX1_whyNoWalk, 6, (some .int)),
  (yX1_canStep, cX1_canStep, 4, (some .boolean)),
  (yX1_shift, cX1_shift, 4, none),
  (yX1_walk, cX1_walk, 4, none),
  (yX1_pieces, cX1_pieces, 1, (some .int)),
  (yX1_cornerX, cX1_cornerX, 2, (some .int)),
  (yX1_cornerY, cX1_cornerY, 2, (some .int)),
  (yX1_twiceSouth, cX1_twiceSouth, 3, (some .int)),
  (yX1_unfairness, cX1_unfairness, 1, (some .int)),
  (yX1_sideOf, cX1_sideOf, 3, (some .int)),
  (yX1_sideAmong, cX1_sideAmong, 12, (some .int)),
  (yX1_joinSides, cX1_joinSides, 2, (some .int)),
  (yX1_sideOfPiece, cX1_sideOfPiece, 8, (some .int)),
  (yX1_firstPinch, cX1_firstPinch, 3, (some .int)),
  (yX1_foldsBack, cX1_foldsBack, 6, (some .boolean)),
  (yX1_meet, cX1_meet, 3, (some .boolean)),
  (yX1_isCornerOn, cX1_isCornerOn, 3, (some .boolean)),
  (yX1_parts, cX1_parts, 3, (some .boolean)),
  (yX1_turnTo, cX1_turnTo, 7, (some .int)),
  (yX2_pass, cX2_pass, 5, none),
  (yX2_signsOfAct, cX2_signsOfAct, 2, (some .int)),
  (yX2_passAct, cX2_passAct, 6, (some .int)),
  (yX2_passDeath, cX2_passDeath, 2, (some .int)),
  (yX2_passHeir, cX2_passHeir, 3, (some .int)),
  (yX2_passWalk, cX2_passWalk, 6, (some .int)),
  (yX3_count, cX3_count, 8, none),
  (yX3_keepOnly, cX3_keepOnly, 4, none),
  (yX3_waysBehindDeath, cX3_waysBehindDeath, 5, (some .int)),
  (yX3_firstToDie, cX3_firstToDie, 4, (some .int)),
  (yX4_gather, cX4_gather, 4, none),
  (yX4_gatherOf, cX4_gatherOf, 12, none),
  (yX4_take, cX4_take, 5, none),
  (yX4_mostLeft, cX4_mostLeft, 3, (some .int)),
  (yX4_bestToAsk, cX4_bestToAsk, 4, (some .int)),
  (yX5_add, cX5_add, 2, none),
  (yX5_signAt, cX5_signAt, 2, (some .int)),
  (yX5_firstFault, cX5_firstFault, 3, (some .int)),
  (yX5_dueBehind, cX5_dueBehind, 3, (some .int)),
  (yX5_isLetter, cX5_isLetter, 1, (some .boolean)),
  (yX5_directionOf, cX5_directionOf, 1, (some .int)),
  (yX6_copyFrom, cX6_copyFrom, 2, none),
  (yX6_add, cX6_add, 4, none),
  (yX6_fit, cX6_fit, 3, (some .boolean)),
  (yX7_at, cX7_at, 2, (some .int)),
  (yX7_walk, cX7_walk, 5, none),
  (yX7_clearWays, cX7_clearWays, 2, none),
  (yX7_spread, cX7_spread, 5, none),
  (yX7_spreadFrom, cX7_spreadFrom, 8, none),
  (yX7_waysTo, cX7_waysTo, 7, (some .int)),
  (yX8_isFound, cX8_isFound, 1, (some .boolean)),
  (yX8_find, cX8_find, 7, none),
  (yX8_tryPerson, cX8_tryPerson, 13, none),
  (yX9_copyFrom, cX9_copyFrom, 2, none),
  (yX9_holds, cX9_holds, 2, (some .boolean)),
  (yX9_put, cX9_put, 4, none),
  (yX9_bitsOn, cX9_bitsOn, 5, (some .int)),
  (yX10_pass, cX10_pass, 6, none),
  (yX10_walkIfPossible, cX10_walkIfPossible, 5, none),
  (yX11_stand, cX11_stand, 6, (some .int)),
  (yX11_leave, cX11_leave, 2, (some .int)),
  (yX11_set, cX11_set, 5, (some .int)),
  (yX11_village, cX11_village, 4, (some .int)),
  (yX11_raze, cX11_raze, 2, (some .int)),
  (yX11_say, cX11_say, 2, (some .int)),
  (yX11_wipe, cX11_wipe, 2, (some .int)),
  (yX11_fault, cX11_fault, 1, (some .int)),
  (yX11_judge, cX11_judge, 3, (some .int)),
  (yX11_behind, cX11_behind, 5, (some .int)),
  (yX11_side, cX11_side, 4, (some .int)),
  (yX11_south, cX11_south, 3, (some .int)),
  (yX11_lies, cX11_lies, 3, (some .int)),
  (yX11_done, cX11_done, 2, (some .int)),
  (yX11_sway, cX11_sway, 5, (some .int)),
  (yX11_fair, cX11_fair, 7, (some .int)),
  (yX11_cedes, cX11_cedes, 2, (some .int)),
  (yX11_orders, cX11_orders, 2, (some .int)),
  (yX11_seen, cX11_seen, 4, (some .int)),
  (yX11_forget, cX11_forget, 2, (some .int)),
  (yX11_moved, cX11_moved, 2, (some .int)),
  (yX11_ask, cX11_ask, 3, (some .int)),
  (yX11_crowns, cX11_crowns, 2, (some .int)),
  (yX11_goat, cX11_goat, 8, (some .long)),
  (yX11_year, cX11_year, 4, (some .int)),
  (yX11_image, cX11_image, 2, (some .int)),
  (yX11_restore, cX11_restore, 2, (some .int)),
  (yX11_told, cX11_told, 2, (some .int)),
  (yX11_tellPerson, cX11_tellPerson, 3, (some .int)),
  (yX11_tellVillage, cX11_tellVillage, 2, (some .int)),
  (yX11_tryDays, cX11_tryDays, 1, (some .int)),
  (yX11_playTurns, cX11_playTurns, 7, (some .int)),
  (yX11_isPerson, cX11_isPerson, 1, (some .boolean)),
  (yX11_isLand, cX11_isLand, 2, (some .boolean)),
  (yX11_isSide, cX11_isSide, 1, (some .boolean)),
  (yX11_pointCode, cX11_pointCode, 2, (some .int)),
  (yX12_in, cX12_in, 6, (some .boolean)),
  (yX12_ones, cX12_ones, 3, (some .int)),
  (yX12_size, cX12_size, 1, (some .int)),
  (yX12_isLand, cX12_isLand, 2, (some .boolean)),
  (yX12_isNumber, cX12_isNumber, 1, (some .boolean)),
  (yX12_placeOf, cX12_placeOf, 4, (some .int)),
  (yX12_persons, cX12_persons, 3, (some .int)),
  (yX12_whoAt, cX12_whoAt, 5, (some .int)),
  (yX12_stand, cX12_stand, 6, (some .int)),
  (yX12_drop, cX12_drop, 3, none),
  (yX12_leave, cX12_leave, 2, (some .int)),
  (yX12_set, cX12_set, 4, (some .int)),
  (yX12_village, cX12_village, 4, (some .int)),
  (yX12_raze, cX12_raze, 2, (some .int)),
  (yX12_say, cX12_say, 2, (some .int)),
  (yX12_wipe, cX12_wipe, 2, (some .int)),
  (yX12_isLetter, cX12_isLetter, 1, (some .boolean)),
  (yX12_close, cX12_close, 4, (some .int)),
  (yX12_begin, cX12_begin, 2, (some .int)),
  (yX12_deed, cX12_deed, 3, (some .int)),
  (yX12_readOn, cX12_readOn, 3, (some .int)),
  (yX12_fault, cX12_fault, 3, (some .int)),
  (yX12_eastBy, cX12_eastBy, 1, (some .int)),
  (yX12_northBy, cX12_northBy, 1, (some .int)),
  (yX12_whyNotWalk, cX12_whyNotWalk, 6, (some .int)),
  (yX12_whyNot, cX12_whyNot, 5, (some .int)),
  (yX12_walk, cX12_walk, 4, none),
  (yX12_inherit, cX12_inherit, 3, none),
  (yX12_happen, cX12_happen, 6, none),
  (yX12_keepNow, cX12_keepNow, 2, none),
  (yX12_back, cX12_back, 3, (some .int)),
  (yX12_goDays, cX12_goDays, 3, none),
  (yX12_refusal, cX12_refusal, 1, (some .int)),
  (yX12_judge, cX12_judge, 3, (some .int)),
  (yX12_ofPerson, cX12_ofPerson, 3, (some .int)),
  (yX12_behind, cX12_behind, 5, (some .int)),
  (yX12_addPoint, cX12_addPoint, 4, none),
  (yX12_layLineOf, cX12_layLineOf, 4, none),
  (yX12_layLine, cX12_layLine, 1, none),
  (yX12_turn, cX12_turn, 6, (some .int)),
  (yX12_turnOf, cX12_turnOf, 4, (some .int)),
  (yX12_isBetween, cX12_isBetween, 3, (some .boolean)),
  (yX12_isOn, cX12_isOn, 5, (some .boolean)),
  (yX12_isNorthOf, cX12_isNorthOf, 8, (some .boolean)),
  (yX12_sideOf, cX12_sideOf, 5, (some .int)),
  (yX12_southOf, cX12_southOf, 3, (some .int)),
  (yX12_signOf, cX12_signOf, 1, (some .int)),
  (yX12_haveCommon, cX12_haveCommon, 9, (some .boolean)),
  (yX12_goesBack, cX12_goesBack, 6, (some .boolean)),
  (yX12_pinched, cX12_pinched, 4, (some .int)),
  (yX12_villagesOn, cX12_villagesOn, 5, (some .int)),
  (yX12_side, cX12_side, 4, (some .int)),
  (yX12_south, cX12_south, 3, (some .int)),
  (yX12_lies, cX12_lies, 3, (some .int)),
  (yX12_done, cX12_done, 2, (some .int)),
  (yX12_put, cX12_put, 4, none),
  (yX12_trySway, cX12_trySway, 13, none),
  (yX12_sway, cX12_sway, 6, (some .int)),
  (yX12_canStep, cX12_canStep, 5, (some .boolean)),
  (yX12_southNow, cX12_southNow, 1, (some .int)),
  (yX12_southBy, cX12_southBy, 4, (some .int)),
  (yX12_unfair, cX12_unfair, 1, (some .int)),
  (yX12_fair, cX12_fair, 6, (some .int)),
  (yX12_cedes, cX12_cedes, 3, (some .int)),
  (yX12_laySides, cX12_laySides, 2, none),
  (yX12_isSame, cX12_isSame, 5, (some .boolean)),
  (yX12_waysOf, cX12_waysOf, 4, (some .int)),
  (yX12_orders, cX12_orders, 6, (some .int)),
  (yX12_seen, cX12_seen, 4, (some .int)),
  (yX12_forget, cX12_forget, 2, (some .int)),
  (yX12_isAsSeen, cX12_isAsSeen, 3, (some .boolean)),
  (yX12_lookAt, cX12_lookAt, 3, none),
  (yX12_tryMoves, cX12_tryMoves, 8, none),
  (yX12_findMoves, cX12_findMoves, 2, none),
  (yX12_moved, cX12_moved, 2, (some .int)),
  (yX12_mostMoves, cX12_mostMoves, 6, (some .int)),
  (yX12_ask, cX12_ask, 5, (some .int)),
  (yX12_northsBest, cX12_northsBest, 4, (some .int)),
  (yX12_answered, cX12_answered, 2, (some .int)),
  (yX12_crowns, cX12_crowns, 7, (some .int)),
  (yX12_lowest, cX12_lowest, 11, (some .long)),
  (yX12_strayOnce, cX12_strayOnce, 8, none),
  (yX12_goat, cX12_goat, 12, (some .long)),
  (yX12_year, cX12_year, 10, (some .int)),
  (yX12_pass, cX12_pass, 3, (some .int)),
  (yX12_passRow, cX12_passRow, 3, none),
  (yX12_passAll, cX12_passAll, 1, none),
  (yX12_image, cX12_image, 2, (some .int)),
  (yX12_restore, cX12_restore, 2, (some .int)),
  (yX12_toldOf, cX12_toldOf, 3, (some .int)),
  (yX12_told, cX12_told, 3, (some .int)),
  (yJ6_bitCount_0f7a4, cJ6_bitCount_0f7a4, 1, (some .int)),
  (yJ6_signum_0f7a4, cJ6_signum_0f7a4, 1, (some .int))]
def mj_hps : List mj_Q := [
  (false, 1, 0, 803, 55, 801, 802),
  (false, 1, 1, 454, 56, 452, 453),
  (false, 1, 1, 362, 56, 360, 361),
  (false, 1, 1, 358, 56, 356, 357),
  (false, 1, 1, 827, 56, 825, 826),
  (false, 0, 1, 668, 56, 666, 667),
  (false, 1, 1, 390, 56, 388, 389),
  (false, 2, 1, 521, 56, 519, 520),
  (false, 3, 1, 366, 56, 364, 365),
  (false, 4, 1, 370, 56, 368, 369),
  (false, 1, 1, 382, 56, 380, 381),
  (false, 3, 1, 374, 56, 372, 373),
  (false, 2, 1, 485, 56, 483, 484),
  (false, 0, 1, 473, 56, 471, 472),
  (false, 3, 1, 495, 56, 493, 494),
  (false, 2, 1, 650, 56, 648, 649),
  (false, 3, 1, 509, 56, 507, 508),
  (false, 3, 1, 505, 56, 503, 504),
  (false, 0, 1, 533, 56, 531, 532),
  (false, 1, 1, 541, 56, 539, 540),
  (false, 1, 1, 545, 56, 543, 544),
  (false, 0, 1, 562, 56, 560, 561),
  (false, 0, 1, 644, 56, 642, 643),
  (false, 2, 1, 529, 56, 527, 528),
  (false, 4, 1, 537, 56, 535, 536),
  (true, 2, 1, 624, 56, 623, 0),
  (true, 6, 1, 548, 56, 547, 0),
  (false, 0, 1, 566, 56, 564, 565),
  (false, 1, 1, 570, 56, 568, 569),
  (false, 2, 1, 574, 56, 572, 573),
  (false, 2, 1, 578, 56, 576, 577),
  (false, 2, 1, 582, 56, 580, 581),
  (false, 2, 1, 586, 56, 584, 585),
  (false, 2, 2, 461, 60, 459, 460),
  (true, 2, 2, 512, 60, 511, 0),
  (false, 3, 2, 465, 60, 463, 464),
  (true, 2, 2, 476, 60, 475, 0),
  (true, 3, 2, 481, 60, 480, 0),
  (false, 4, 2, 491, 60, 489, 490),
  (false, 2, 3, 664, 62, 662, 663),
  (true, 3, 3, 672, 62, 671, 0),
  (false, 1, 3, 678, 62, 676, 677),
  (false, 1, 3, 682, 62, 680, 681),
  (false, 2, 4, 702, 63, 700, 701),
  (false, 3, 4, 719, 63, 717, 718),
  (false, 3, 4, 712, 63, 710, 711),
  (false, 1, 4, 735, 63, 733, 734),
  (false, 1, 4, 731, 63, 729, 730),
  (false, 1, 5, 420, 59, 418, 419),
  (false, 1, 5, 469, 59, 467, 468),
  (false, 0, 5, 432, 59, 430, 431),
  (true, 2, 5, 435, 59, 434, 0),
  (true, 1, 5, 438, 59, 437, 0),
  (true, 1, 5, 442, 59, 441, 0),
  (false, 1, 6, 813, 58, 811, 812),
  (false, 3, 6, 690, 58, 688, 689),
  (false, 1, 6, 707, 58, 705, 706),
  (true, 2, 7, 762, 64, 761, 0),
  (false, 3, 7, 755, 64, 753, 754),
  (false, 0, 7, 759, 64, 757, 758),
  (false, 1, 7, 767, 64, 765, 766),
  (false, 3, 7, 771, 64, 769, 770),
  (false, 2, 7, 778, 64, 776, 777),
  (false, 0, 8, 636, 61, 634, 635),
  (false, 4, 8, 614, 61, 612, 613),
  (false, 5, 8, 619, 61, 617, 618),
  (false, 1, 9, 808, 57, 806, 807),
  (false, 1, 9, 412, 57, 410, 411),
  (false, 3, 9, 398, 57, 396, 397),
  (false, 2, 9, 600, 57, 598, 599),
  (false, 3, 10, 787, 65, 785, 786),
  (false, 4, 10, 793, 65, 791, 792),
  (false, 4, 11, 348, 54, 346, 347),
  (false, 1, 11, 378, 54, 376, 377),
  (false, 2, 11, 386, 54, 384, 385),
  (false, 3, 11, 394, 54, 392, 393),
  (false, 1, 11, 408, 54, 406, 407),
  (false, 1, 11, 416, 54, 414, 415),
  (false, 0, 11, 424, 54, 422, 423),
  (false, 0, 11, 428, 54, 426, 427),
  (false, 1, 11, 446, 54, 444, 445),
  (false, 2, 11, 516, 54, 514, 515),
  (false, 2, 11, 525, 54, 523, 524),
  (false, 1, 11, 558, 54, 556, 557),
  (false, 1, 11, 593, 54, 591, 592),
  (false, 0, 11, 606, 54, 604, 605),
  (false, 4, 11, 610, 54, 608, 609),
  (false, 1, 11, 640, 54, 638, 639),
  (false, 1, 11, 656, 54, 654, 655),
  (false, 1, 11, 660, 54, 658, 659),
  (false, 3, 11, 686, 54, 684, 685),
  (false, 0, 11, 694, 54, 692, 693),
  (false, 1, 11, 698, 54, 696, 697),
  (false, 1, 11, 727, 54, 725, 726),
  (false, 1, 11, 741, 54, 739, 740),
  (false, 5, 11, 750, 54, 748, 749),
  (false, 3, 11, 783, 54, 781, 782),
  (false, 1, 11, 799, 54, 797, 798),
  (false, 1, 11, 818, 54, 816, 817),
  (false, 1, 11, 822, 54, 820, 821),
  (false, 2, 11, 831, 54, 830, 1),
  (false, 1, 11, 835, 54, 834, 2),
  (false, 0, 11, 450, 54, 449, 0),
  (true, 3, 11, 744, 54, 743, 0),
  (true, 1, 11, 351, 54, 350, 0),
  (true, 2, 11, 354, 54, 353, 0),
  (true, 1, 11, 596, 54, 595, 0),
  (true, 2, 11, 632, 54, 631, 0),
  (true, 3, 12, 985, 66, 984, 0),
  (true, 1, 12, 1018, 66, 1017, 0),
  (true, 1, 12, 1203, 66, 1202, 0),
  (true, 2, 12, 988, 66, 987, 0),
  (true, 1, 12, 981, 66, 980, 0),
  (false, 1, 12, 993, 66, 992, 3),
  (false, 0, 12, 1127, 66, 1126, 21),
  (false, 2, 12, 997, 66, 996, 4),
  (false, 4, 12, 978, 66, 976, 977),
  (false, 1, 12, 1005, 66, 1004, 5),
  (false, 1, 12, 1001, 66, 999, 1000),
  (false, 2, 12, 1009, 66, 1007, 1008),
  (false, 3, 12, 1015, 66, 1013, 1014),
  (false, 1, 12, 1022, 66, 1020, 1021),
  (false, 1, 12, 1026, 66, 1024, 1025),
  (false, 0, 12, 1032, 66, 1030, 1031),
  (true, 1, 12, 1047, 66, 1046, 0),
  (false, 3, 12, 1053, 66, 1052, 8),
  (false, 1, 12, 1044, 66, 1043, 7),
  (false, 1, 12, 1057, 66, 1056, 9),
  (false, 2, 12, 1040, 66, 1039, 6),
  (false, 0, 12, 1036, 66, 1034, 1035),
  (true, 1, 12, 1087, 66, 1086, 0),
  (true, 1, 12, 1090, 66, 1089, 0),
  (false, 3, 12, 1084, 66, 1083, 14),
  (false, 4, 12, 1080, 66, 1079, 13),
  (false, 3, 12, 1098, 66, 1097, 16),
  (false, 2, 12, 1102, 66, 1101, 17),
  (false, 4, 12, 1094, 66, 1093, 15),
  (false, 0, 12, 1071, 66, 1070, 11),
  (false, 1, 12, 1106, 66, 1105, 18),
  (false, 0, 12, 1076, 66, 1075, 12),
  (false, 0, 12, 1067, 66, 1066, 10),
  (false, 1, 12, 1063, 66, 1061, 1062),
  (false, 2, 12, 1115, 66, 1114, 19),
  (false, 2, 12, 1110, 66, 1108, 1109),
  (false, 3, 12, 1135, 66, 1134, 23),
  (false, 1, 12, 1131, 66, 1130, 22),
  (false, 0, 12, 1123, 66, 1122, 20),
  (true, 6, 12, 1153, 66, 1152, 0),
  (false, 3, 12, 1150, 66, 1149, 26),
  (true, 3, 12, 1146, 66, 1145, 0),
  (false, 3, 12, 1143, 66, 1142, 25),
  (false, 3, 12, 1157, 66, 1156, 27),
  (false, 2, 12, 1139, 66, 1138, 24),
  (false, 0, 12, 1165, 66, 1164, 28),
  (true, 1, 12, 1180, 66, 1179, 0),
  (false, 2, 12, 1177, 66, 1176, 31),
  (false, 1, 12, 1173, 66, 1172, 30),
  (false, 0, 12, 1169, 66, 1168, 29),
  (false, 1, 12, 1188, 66, 1187, 32),
  (false, 2, 12, 1119, 66, 1117, 1118),
  (false, 1, 12, 1161, 66, 1159, 1160),
  (false, 1, 12, 1184, 66, 1182, 1183),
  (false, 0, 12, 1192, 66, 1190, 1191),
  (false, 3, 12, 1207, 66, 1206, 34),
  (false, 4, 12, 1200, 66, 1199, 33),
  (false, 4, 12, 1196, 66, 1194, 1195),
  (false, 2, 12, 1222, 66, 1221, 36),
  (false, 0, 12, 1215, 66, 1214, 35),
  (false, 2, 12, 1226, 66, 1225, 37),
  (true, 1, 12, 1218, 66, 1217, 0),
  (false, 1, 12, 1211, 66, 1209, 1210),
  (false, 1, 12, 1230, 66, 1228, 1229),
  (false, 0, 12, 1238, 66, 1237, 38),
  (false, 1, 12, 1242, 66, 1241, 39),
  (false, 1, 12, 1246, 66, 1245, 40),
  (false, 1, 12, 1234, 66, 1232, 1233),
  (false, 3, 12, 1250, 66, 1248, 1249),
  (false, 0, 12, 1254, 66, 1252, 1253),
  (false, 0, 12, 1270, 66, 1269, 43),
  (false, 1, 12, 1266, 66, 1265, 42),
  (false, 1, 12, 1274, 66, 1273, 44),
  (false, 0, 12, 1262, 66, 1261, 41),
  (false, 1, 12, 1258, 66, 1256, 1257),
  (false, 1, 12, 1282, 66, 1281, 45),
  (false, 1, 12, 1278, 66, 1276, 1277),
  (false, 0, 12, 1294, 66, 1293, 47),
  (false, 1, 12, 1290, 66, 1289, 46),
  (false, 1, 12, 1286, 66, 1284, 1285),
  (true, 3, 12, 1308, 66, 1307, 0),
  (false, 2, 12, 1304, 66, 1303, 48),
  (false, 5, 12, 1298, 66, 1296, 1297),
  (false, 3, 12, 1312, 66, 1310, 1311),
  (false, 1, 12, 1328, 66, 1327, 50),
  (false, 1, 12, 1332, 66, 1331, 51),
  (false, 0, 12, 1324, 66, 1323, 49),
  (false, 1, 12, 1320, 66, 1318, 1319),
  (false, 1, 12, 1336, 66, 1334, 1335),
  (false, 2, 12, 1347, 66, 1346, 52),
  (false, 1, 12, 1340, 66, 1338, 1339),
  (true, 1, 99, 401, 67, 400, 0),
  (true, 1, 99, 589, 67, 588, 0)]
abbrev mj_NM : Nat := 201
def mj_hd (mi : Nat) : mj_H := mj_hds.getD mi (yX0_init, cX0_init, 0, none)
def mj_hp (mi : Nat) : mj_Q := mj_hps.getD mi (false, 0, 99, 0, 0, 0, 0)
def mj_at (i : Nat) (w : Cond) : Bool := decide (lw_tbl[i]? = some w) && goodWord w
theorem mj_at_mem {i : Nat} {w : Cond} (h : mj_at i w = true) : w ∈ mj_tb := by
  unfold mj_at at h
  rw [Bool.and_eq_true] at h
  exact mj_tb_mem (List.mem_of_getElem? (of_decide_eq_true h.1)) h.2
def mj_cd (mi : Nat) : Cond := .code (mj_hd mi).1 (mj_hd mi).2.1 (mj_hd mi).2.2.1 (mj_hd mi).2.2.2
def mj_hwb (mi : Nat) : Bool :=
  (mj_at (mj_hp mi).2.2.2.1 (mj_cd mi) && (mj_at (mj_hp mi).2.2.2.2.1 (.initialized (mj_hd mi).1.cls) && plainName (mj_hd mi).1.cls)) && ((decide ((mj_hd mi).1.cls ≠ "java/lang/invoke/MethodHandle") && decide ((mj_hd mi).1.cls ≠ "java/lang/invoke/VarHandle")) && (decide ((parseMethodDescriptor (mj_hd mi).1.desc).map (fun d => d.parameters.length) = some (mj_hp mi).2.1) && decide ((mj_hd mi).2.2.1 ≤ 45))) &&
  (match (mj_hp mi).1 with
   | true => mj_at (mj_hp mi).2.2.2.2.2.1 (.static (mj_hd mi).1)
   | false => mj_at (mj_hp mi).2.2.2.2.2.1 (.instanceMethod (mj_hd mi).1) && (mj_at (mj_hp mi).2.2.2.2.2.2 (.selects (mj_hd mi).1.cls (mj_hd mi).1 (mj_hd mi).1) && decide ((vwCl[(mj_hp mi).2.2.1]?).map (fun q => q.1) = some (mj_hd mi).1.cls)))
set_option maxRecDepth 100000 in
theorem mj_hw0_0 : (List.range' 0 4).all mj_hwb = true := by decide +kernel
set_option maxRecDepth 100000 in
theorem mj_hw0_1 : (List.range' 4 4).all mj_hwb = true := by decide +kernel
set_option maxRecDepth 100000 in
theorem mj_hw0_2 : (List.range' 8 4).all mj_hwb = true := by decide +kernel
set_option maxRecDepth 100000 in
theorem mj_hw0_3 : (List.range' 12 4).all mj_hwb = true := by decide +kernel
set_option maxRecDepth 100000 in
theorem mj_hw0_4 : (List.range' 16 4).all mj_hwb = true := by decide +kernel
set_option maxRecDepth 100000 in
theorem mj_hw0_5 : (List.range' 20 4).all mj_hwb = true := by decide +kernel
set_option maxRecDepth 100000 in
theorem mj_hw0_6 : (List.range' 24 4).all mj_hwb = true := by decide +kernel
set_option maxRecDepth 100000 in
theorem mj_hw0_7 : (List.range' 28 4).all mj_hwb = true := by decide +kernel
set_option maxRecDepth 100000 in
theorem mj_hw0_8 : (List.range' 32 4).all mj_hwb = true := by decide +kernel
set_option maxRecDepth 100000 in
theorem mj_hw0_9 : (List.range' 36 4).all mj_hwb = true := by decide +kernel
set_option maxRecDepth 100000 in
theorem mj_hw0_10 : (List.range' 40 4).all mj_hwb = true := by decide +kernel
set_option maxRecDepth 100000 in
theorem mj_hw0_11 : (List.range' 44 4).all mj_hwb = true := by decide +kernel
set_option maxRecDepth 100000 in
theorem mj_hw0_12 : (List.range' 48 4).all mj_hwb = true := by decide +kernel
set_option maxRecDepth 100000 in
theorem mj_hw0_13 : (List.range' 52 4).all mj_hwb = true := by decide +kernel
set_option maxRecDepth 100000 in
theorem mj_hw0_14 : (List.range' 56 4).all mj_hwb = true := by decide +kernel
set_option maxRecDepth 100000 in
theorem mj_hw0_15 : (List.range' 60 4).all mj_hwb = true := by decide +kernel
set_option maxRecDepth 100000 in
theorem mj_hw0_16 : (List.range' 64 4).all mj_hwb = true := by decide +kernel
set_option maxRecDepth 100000 in
theorem mj_hw0_17 : (List.range' 68 4).all mj_hwb = true := by decide +kernel
set_option maxRecDepth 100000 in
theorem mj_hw0_18 : (List.range' 72 4).all mj_hwb = true := by decide +kernel
set_option maxRecDepth 100000 in
theorem mj_hw0_19 : (List.range' 76 4).all mj_hwb = true := by decide +kernel
set_option maxRecDepth 100000 in
theorem mj_hw0_20 : (List.range' 80 4).all mj_hwb = true := by decide +kernel
set_option maxRecDepth 100000 in
theorem mj_hw0_21 : (List.range' 84 4).all mj_hwb = true := by decide +kernel
set_option maxRecDepth 100000 in
theorem mj_hw0_22 : (List.range' 88 4).all mj_hwb = true := by decide +kernel
set_option maxRecDepth 100000 in
theorem mj_hw0_23 : (List.range' 92 4).all mj_hwb = true := by decide +kernel
set_option maxRecDepth 100000 in
theorem mj_hw0_24 : (List.range' 96 4).all mj_hwb = true := by decide +kernel
set_option maxRecDepth 100000 in
theorem mj_hw0_25 : (List.range' 100 4).all mj_hwb = true := by decide +kernel
set_option maxRecDepth 100000 in
theorem mj_hw0_26 : (List.range' 104 4).all mj_hwb = true := by decide +kernel
set_option maxRecDepth 100000 in
theorem mj_hw0_27 : (List.range' 108 4).all mj_hwb = true := by decide +kernel
set_option maxRecDepth 100000 in
theorem mj_hw0_28 : (List.range' 112 4).all mj_hwb = true := by decide +kernel
set_option maxRecDepth 100000 in
theorem mj_hw0_29 : (List.range' 116 4).all mj_hwb = true := by decide +kernel
set_option maxRecDepth 100000 in
theorem mj_hw0_30 : (List.range' 120 4).all mj_hwb = true := by decide +kernel
set_option maxRecDepth 100000 in
theorem mj_hw0_31 : (List.range' 124 4).all mj_hwb = true := by decide +kernel
set_option maxRecDepth 100000 in
theorem mj_hw0_32 : (List.range' 128 4).all mj_hwb = true := by decide +kernel
set_option maxRecDepth 100000 in
theorem mj_hw0_33 : (List.range' 132 4).all mj_hwb = true := by decide +kernel
set_option maxRecDepth 100000 in
theorem mj_hw0_34 : (List.range' 136 4).all mj_hwb = true := by decide +kernel
set_option maxRecDepth 100000 in
theorem mj_hw0_35 : (List.range' 140 4).all mj_hwb = true := by decide +kernel
set_option maxRecDepth 100000 in
theorem mj_hw0_36 : (List.range' 144 4).all mj_hwb = true := by decide +kernel
set_option maxRecDepth 100000 in
theorem mj_hw0_37 : (List.range' 148 4).all mj_hwb = true := by decide +kernel
set_option maxRecDepth 100000 in
theorem mj_hw0_38 : (List.range' 152 4).all mj_hwb = true := by decide +kernel
set_option maxRecDepth 100000 in
theorem mj_hw0_39 : (List.range' 156 4).all mj_hwb = true := by decide +kernel
set_option maxRecDepth 100000 in
theorem mj_hw0_40 : (List.range' 160 4).all mj_hwb = true := by decide +kernel
set_option maxRecDepth 100000 in
theorem mj_hw0_41 : (List.range' 164 4).all mj_hwb = true := by decide +kernel
set_option maxRecDepth 100000 in
theorem mj_hw0_42 : (List.range' 168 4).all mj_hwb = true := by decide +kernel
set_option maxRecDepth 100000 in
theorem mj_hw0_43 : (List.range' 172 4).all mj_hwb = true := by decide +kernel
set_option maxRecDepth 100000 in
theorem mj_hw0_44 : (List.range' 176 4).all mj_hwb = true := by decide +kernel
set_option maxRecDepth 100000 in
theorem mj_hw0_45 : (List.range' 180 4).all mj_hwb = true := by decide +kernel
set_option maxRecDepth 100000 in
theorem mj_hw0_46 : (List.range' 184 4).all mj_hwb = true := by decide +kernel
set_option maxRecDepth 100000 in
theorem mj_hw0_47 : (List.range' 188 4).all mj_hwb = true := by decide +kernel
set_option maxRecDepth 100000 in
theorem mj_hw0_48 : (List.range' 192 4).all mj_hwb = true := by decide +kernel
set_option maxRecDepth 100000 in
theorem mj_hw0_49 : (List.range' 196 4).all mj_hwb = true := by decide +kernel
set_option maxRecDepth 100000 in
theorem mj_hw0_50 : (List.range' 200 1).all mj_hwb = true := by decide +kernel
theorem mj_hw {mi : Nat} (h : mi < mj_NM) : mj_hwb mi = true := by
  have key : ∀ (a n : Nat), (List.range' a n).all mj_hwb = true → a ≤ mi → mi < a + n → mj_hwb mi = true := fun a n h1 h2 h3 => List.all_eq_true.mp h1 mi (List.mem_range'_1.mpr ⟨h2, h3⟩)
  have h : mi < 201 := h
  rcases Nat.lt_or_ge mi 4 with h0 | h0
  · exact key _ _ mj_hw0_0 (by omega) (by omega)
  rcases Nat.lt_or_ge mi 8 with h4 | h4
  · exact key _ _ mj_hw0_1 (by omega) (by omega)
  rcases Nat.lt_or_ge mi 12 with h8 | h8
  · exact key _ _ mj_hw0_2 (by omega) (by omega)
  rcases Nat.lt_or_ge mi 16 with h12 | h12
  · exact key _ _ mj_hw0_3 (by omega) (by omega)
  rcases Nat.lt_or_ge mi 20 with h16 | h16
  · exact key _ _ mj_hw0_4 (by omega) (by omega)
  rcases Nat.lt_or_ge mi 24 with h20 | h20
  · exact key _ _ mj_hw0_5 (by omega) (by omega)
  rcases Nat.lt_or_ge mi 28 with h24 | h24
  · exact key _ _ mj_hw0_6 (by omega) (by omega)
  rcases Nat.lt_or_ge mi 32 with h28 | h28
  · exact key _ _ mj_hw0_7 (by omega) (by omega)
  rcases Nat.lt_or_ge mi 36 with h32 | h32
  · exact key _ _ mj_hw0_8 (by omega) (by omega)
  rcases Nat.lt_or_ge mi 40 with h36 | h36
  · exact key _ _ mj_hw0_9 (by omega) (by omega)
  rcases Nat.lt_or_ge mi 44 with h40 | h40
  · exact key _ _ mj_hw0_10 (by omega) (by omega)
  rcases Nat.lt_or_ge mi 48 with h44 | h44
  · exact key _ _ mj_hw0_11 (by omega) (by omega)
  rcases Nat.lt_or_ge mi 52 with h48 | h48
  · exact key _ _ mj_hw0_12 (by omega) (by omega)
  rcases Nat.lt_or_ge mi 56 with h52 | h52
  · exact key _ _ mj_hw0_13 (by omega) (by omega)
  rcases Nat.lt_or_ge mi 60 with h56 | h56
  · exact key _ _ mj_hw0_14 (by omega) (by omega)
  rcases Nat.lt_or_ge mi 64 with h60 | h60
  · exact key _ _ mj_hw0_15 (by omega) (by omega)
  rcases Nat.lt_or_ge mi 68 with h64 | h64
  · exact key _ _ mj_hw0_16 (by omega) (by omega)
  rcases Nat.lt_or_ge mi 72 with h68 | h68
  · exact key _ _ mj_hw0_17 (by omega) (by omega)
  rcases Nat.lt_or_ge mi 76 with h72 | h72
  · exact key _ _ mj_hw0_18 (by omega) (by omega)
  rcases Nat.lt_or_ge mi 80 with h76 | h76
  · exact key _ _ mj_hw0_19 (by omega) (by omega)
  rcases Nat.lt_or_ge mi 84 with h80 | h80
  · exact key _ _ mj_hw0_20 (by omega) (by omega)
  rcases Nat.lt_or_ge mi 88 with h84 | h84
  · exact key _ _ mj_hw0_21 (by omega) (by omega)
  rcases Nat.lt_or_ge mi 92 with h88 | h88
  · exact key _ _ mj_hw0_22 (by omega) (by omega)
  rcases Nat.lt_or_ge mi 96 with h92 | h92
  · exact key _ _ mj_hw0_23 (by omega) (by omega)
  rcases Nat.lt_or_ge mi 100 with h96 | h96
  · exact key _ _ mj_hw0_24 (by omega) (by omega)
  rcases Nat.lt_or_ge mi 104 with h100 | h100
  · exact key _ _ mj_hw0_25 (by omega) (by omega)
  rcases Nat.lt_or_ge mi 108 with h104 | h104
  · exact key _ _ mj_hw0_26 (by omega) (by omega)
  rcases Nat.lt_or_ge mi 112 with h108 | h108
  · exact key _ _ mj_hw0_27 (by omega) (by omega)
  rcases Nat.lt_or_ge mi 116 with h112 | h112
  · exact key _ _ mj_hw0_28 (by omega) (by omega)
  rcases Nat.lt_or_ge mi 120 with h116 | h116
  · exact key _ _ mj_hw0_29 (by omega) (by omega)
  rcases Nat.lt_or_ge mi 124 with h120 | h120
  · exact key _ _ mj_hw0_30 (by omega) (by omega)
  rcases Nat.lt_or_ge mi 128 with h124 | h124
  · exact key _ _ mj_hw0_31 (by omega) (by omega)
  rcases Nat.lt_or_ge mi 132 with h128 | h128
  · exact key _ _ mj_hw0_32 (by omega) (by omega)
  rcases Nat.lt_or_ge mi 136 with h132 | h132
  · exact key _ _ mj_hw0_33 (by omega) (by omega)
  rcases Nat.lt_or_ge mi 140 with h136 | h136
  · exact key _ _ mj_hw0_34 (by omega) (by omega)
  rcases Nat.lt_or_ge mi 144 with h140 | h140
  · exact key _ _ mj_hw0_35 (by omega) (by omega)
  rcases Nat.lt_or_ge mi 148 with h144 | h144
  · exact key _ _ mj_hw0_36 (by omega) (by omega)
  rcases Nat.lt_or_ge mi 152 with h148 | h148
  · exact key _ _ mj_hw0_37 (by omega) (by omega)
  rcases Nat.lt_or_ge mi 156 with h152 | h152
  · exact key _ _ mj_hw0_38 (by omega) (by omega)
  rcases Nat.lt_or_ge mi 160 with h156 | h156
  · exact key _ _ mj_hw0_39 (by omega) (by omega)
  rcases Nat.lt_or_ge mi 164 with h160 | h160
  · exact key _ _ mj_hw0_40 (by omega) (by omega)
  rcases Nat.lt_or_ge mi 168 with h164 | h164
  · exact key _ _ mj_hw0_41 (by omega) (by omega)
  rcases Nat.lt_or_ge mi 172 with h168 | h168
  · exact key _ _ mj_hw0_42 (by omega) (by omega)
  rcases Nat.lt_or_ge mi 176 with h172 | h172
  · exact key _ _ mj_hw0_43 (by omega) (by omega)
  rcases Nat.lt_or_ge mi 180 with h176 | h176
  · exact key _ _ mj_hw0_44 (by omega) (by omega)
  rcases Nat.lt_or_ge mi 184 with h180 | h180
  · exact key _ _ mj_hw0_45 (by omega) (by omega)
  rcases Nat.lt_or_ge mi 188 with h184 | h184
  · exact key _ _ mj_hw0_46 (by omega) (by omega)
  rcases Nat.lt_or_ge mi 192 with h188 | h188
  · exact key _ _ mj_hw0_47 (by omega) (by omega)
  rcases Nat.lt_or_ge mi 196 with h192 | h192
  · exact key _ _ mj_hw0_48 (by omega) (by omega)
  rcases Nat.lt_or_ge mi 200 with h196 | h196
  · exact key _ _ mj_hw0_49 (by omega) (by omega)
  rcases Nat.lt_or_ge mi 201 with h200 | h200
  · exact key _ _ mj_hw0_50 (by omega) (by omega)
  omega
theorem mj_hw1 {mi : Nat} (h : mi < mj_NM) : (mj_cd mi ∈ mj_tb ∧ Cond.initialized (mj_hd mi).1.cls ∈ mj_tb ∧ plainName (mj_hd mi).1.cls = true) ∧ ((mj_hd mi).1.cls ≠ "java/lang/invoke/MethodHandle" ∧ (mj_hd mi).1.cls ≠ "java/lang/invoke/VarHandle") ∧ (parseMethodDescriptor (mj_hd mi).1.desc).map (fun d => d.parameters.length) = some (mj_hp mi).2.1 ∧ (mj_hd mi).2.2.1 ≤ 45 := by
  have h1 := mj_hw h
  unfold mj_hwb at h1
  simp only [Bool.and_eq_true, decide_eq_true_eq] at h1
  obtain ⟨⟨⟨a1, a2, a3⟩, ⟨b1, b2⟩, b3, b4⟩, -⟩ := h1
  exact ⟨⟨mj_at_mem a1, mj_at_mem a2, a3⟩, ⟨b1, b2⟩, b3, b4⟩
theorem mj_hw2 {mi : Nat} (h : mi < mj_NM) (hs : (mj_hp mi).1 = true) : Cond.static (mj_hd mi).1 ∈ mj_tb := by
  have h1 := mj_hw h
  unfold mj_hwb at h1
  rw [hs] at h1
  simp only [Bool.and_eq_true] at h1
  exact mj_at_mem h1.2
theorem mj_hw3 {mi : Nat} (h : mi < mj_NM) (hs : (mj_hp mi).1 = false) : Cond.instanceMethod (mj_hd mi).1 ∈ mj_tb ∧ Cond.selects (mj_hd mi).1.cls (mj_hd mi).1 (mj_hd mi).1 ∈ mj_tb ∧ (vwCl[(mj_hp mi).2.2.1]?).map (fun q => q.1) = some (mj_hd mi).1.cls := by
  have h1 := mj_hw h
  unfold mj_hwb at h1
  rw [hs] at h1
  simp only [Bool.and_eq_true, decide_eq_true_eq] at h1
  exact ⟨mj_at_mem h1.2.1, mj_at_mem h1.2.2.1, h1.2.2.2⟩
theorem mj_good {w : Cond} (h : w ∈ mj_tb) : w ∈ mj_tb ∧ ((w.onTables && w.keeps) = true ∨ ∃ ty, w = .arrayClass ty) := ⟨h, good_of_word (List.mem_filter.mp h).2⟩
end
section
def mj_ws1 (mi : Nat) : List Cond := mj_cd mi :: mj_tb
theorem mj_gws {mi : Nat} (h : mi < mj_NM) : GoodIn mj_tb (mj_ws1 mi) := fun w hw => (List.mem_cons.mp hw).elim (fun e => e ▸ mj_good (mj_hw1 h).1.1) (fun e => mj_good e)
/-- THE CONTRACT of a method in the small machine's words -/
def mj_Ok (n mi : Nat) (av : List mj_V) (σ : mj_W) (K : Option mj_V → mj_W → Prop) : Prop := ∀ (l : Launch) (D : va_G) (cs : mj_Cs) (A : Nat → Prop) (ad : Nat → Nat) (sa : mj_Sa), Met l (mj_hd mi).1 (mj_ws1 mi) (mj_rm n) (mj_Pc D cs A ad sa av σ) (mj_Qc D cs A ad sa K) 0 0 A
section MJ4
variable {p : Program} {l : Launch} {e : Env} {R : Room} {s : State} {m : MethodId} {args : Array Value} {below : List Frame} {meth : Method} {c : Code} {D : va_G} {cs : mj_Cs} {A : Nat → Prop} {ad : Nat → Nat} {sa : mj_Sa} {cu su : Nat} {Q : State → Prop} {own : String} {cc : ByteArray} {nL n : Nat}
variable {pc nx a b : Nat} {im : Int} {ts : List (Int × Nat)} {loc : mj_L} {st : List mj_V} {σ : mj_W}
variable {k k' : Nat → mj_L → List mj_V → mj_W → Prop}
theorem mj_sum2 : ∀ (r : List mj_V), (((r.map (mj_v ad sa)).map fun v => v.category).sum) ≤ mj_sz r
  | [] => Nat.le_refl 0
  | .inl x :: r => by
    have h1 := mj_sum2 r
    have h2 : (mj_v ad sa (.inl x)).category = 1 := rfl
    simp only [List.map_cons, List.sum_cons, mj_sz]
    omega
  | .inr (.inl x) :: r => by
    have h1 := mj_sum2 r
    have h2 : (mj_v ad sa (.inr (.inl x))).category = 2 := rfl
    simp only [List.map_cons, List.sum_cons, mj_sz]
    omega
  | .inr (.inr q) :: r => by
    have h1 := mj_sum2 r
    have h2 : (mj_v ad sa (.inr (.inr q))).category = 1 := rfl
    simp only [List.map_cons, List.sum_cons, mj_sz]
    omega
theorem mj_vcinv {C : Nat → List mj_V → mj_W → (Option mj_V → mj_W → Prop) → Prop} (h : mj_x_vcall k C nx a b ts loc st σ) : ∃ (t n9 o : Nat) (r : List mj_V) (q : Int × Nat), mj_sz (st.drop b) ≤ 8 ∧ b ≤ st.length ∧ (st.take b).reverse = rV t n9 o :: r ∧ ts = [q] ∧ t = q.2 ∧ C a (rV t n9 o :: r) σ (mj_push (k nx) loc (st.drop b)) := by
  unfold mj_x_vcall at h
  split at h
  · rename_i h1 h2 h3
    split at h
    · rename_i h4
      exact ⟨_, _, _, _, _, Nat.le_of_ble_eq_true h1, Nat.le_of_ble_eq_true h2, h3, rfl, Nat.eq_of_beq_eq_true h4, h⟩
    · exact h.elim
  · exact h.elim
theorem mj_cinv {C : Nat → List mj_V → mj_W → (Option mj_V → mj_W → Prop) → Prop} (h : mj_x_call k C nx a b loc st σ) : mj_sz (st.drop b) ≤ 8 ∧ b ≤ st.length ∧ C a (st.take b).reverse σ (mj_push (k nx) loc (st.drop b)) := by
  unfold mj_x_call at h
  split at h
  · rename_i h1 h2
    exact ⟨Nat.le_of_ble_eq_true h1, Nat.le_of_ble_eq_true h2, h⟩
  · exact h.elim
theorem mj_s_vcall {idx : Nat} (hC : mj_Cx p R s m args c D cs A ad sa cu su own cc nL (n + 1)) (hd : decode cc pc = .ok (.invokevirtual idx, 3)) (hn : nx = pc + 3) (ha : a < mj_NM) (hs : (mj_hp a).1 = false) (hb' : b = (mj_hp a).2.1 + 1) (hts' : ts = [((0 : Int), (mj_hp a).2.2.1)]) (hl : Cond.methodLink own idx (mj_hd a).1 ∈ mj_tb)
    (hk : ∀ pc loc st σ, k pc loc st σ → mj_B p l e R s m args below meth c D cs A ad sa cu su Q nL pc loc st σ)
    (h : mj_x_vcall k (mj_Ok n) nx a b ts loc st σ) : mj_B p l e R s m args below meth c D cs A ad sa cu su Q nL pc loc st σ := by
  obtain ⟨t, n9, o, r, q, h1, h2, h3, h4, h5, hM⟩ := mj_vcinv h
  obtain ⟨⟨w1, w2, w3⟩, ⟨w4, w5⟩, w6, w7⟩ := mj_hw1 ha
  obtain ⟨v1, v2, v3⟩ := mj_hw3 ha hs
  have hq : t = (mj_hp a).2.2.1 := by rw [h5]; rw [hts'] at h4; cases h4; rfl
  have hC0 := hC
  obtain ⟨hx, hb, hml, ho, hts, hK, hDD, hSt, hSc, hf1, hf2, hf3, hf4⟩ := hC
  intro H locs ls hP hS hg hL hst
  have htk : st.take b = r.reverse ++ [rV t n9 o] := by
    have := congrArg List.reverse h3
    rw [List.reverse_reverse] at this
    rw [this]
    simp
  have hst2 : st = r.reverse ++ (rV t n9 o :: st.drop b) := by
    conv => lhs; rw [← List.take_append_drop b st]
    rw [htk]
    simp
  have hlen : r.length + 1 = b := by
    have := congrArg List.length htk
    rw [List.length_take] at this
    simp at this
    omega
  have hav : ∀ v ∈ rV t n9 o :: r, mj_ok sa v := by
    intro v hv
    refine hst v ?_
    rw [hst2]
    rcases List.mem_cons.mp hv with e1 | e1
    · rw [e1]; simp
    · simp [e1]
  have hrest : ∀ v ∈ st.drop b, mj_ok sa v := fun v hv => hst v (List.mem_of_mem_drop hv)
  obtain ⟨qc, hqc, hqn⟩ : ∃ qc : vw_C, vwCl[t]? = some qc ∧ qc.1 = (mj_hd a).1.cls := by
    rw [← hq] at v3
    cases hv9 : vwCl[t]? with
    | none => rw [hv9] at v3; cases v3
    | some qc => rw [hv9] at v3; exact ⟨qc, rfl, Option.some.inj v3⟩
  have ht20 : t < 20 := by
    have := (List.getElem?_eq_some_iff.mp hqc).1
    simp [vwCl] at this
    omega
  obtain ⟨ho2, hk2⟩ := mj_okr (hav _ List.mem_cons_self) (by omega)
  have hat := mj_ws_at cs ad σ ho2
  rw [mj_ce_o cs ad σ hk2 ht20] at hat
  have hGI : GoodIn mj_tb (wsV own idx (mj_hd a).1.cls (mj_hd a).1 (mj_ws1 a)) := by
    intro w hw
    rcases List.mem_append.mp hw with e1 | e1
    · simp only [List.mem_cons, List.not_mem_nil, or_false] at e1
      rcases e1 with rfl | rfl | rfl | rfl
      · exact mj_good hl
      · exact mj_good v1
      · exact mj_good v2
      · exact mj_good w2
    · exact mj_gws ha w e1
  rw [hst2]
  have hsum := mj_sum2 (ad := ad) (sa := sa) (st.drop b)
  have hrun := va_runV (p := p) (l := l) (e := e) (R := R) (s := s) (m := m) (args := args) (below := below) (meth := meth) (c := c) (H := H) (locs := locs) (cells := cu) (slots := su) (g := F0 m pc ls ((r.reverse ++ (rV t n9 o :: st.drop b)).map (mj_v ad sa))) (As := r.map (mj_v ad sa)) (rest := (st.drop b).map (mj_v ad sa)) (b := ad o) (C := (mj_hd a).1.cls) ⟨hx, hb, hml, ho, hts⟩ (hM l D cs A ad sa)
    (cwV (mj_hp a).2.1 hts hGI rfl rfl rfl ⟨rfl, w4, w5, w6⟩ ⟨by show n + 1 ≤ R.frames; exact hf1, by show 8 + ((mj_hd a).2.2.1 + 11) + 64 * n ≤ R.locals; omega⟩)
    ⟨mj_blind _ _, by obtain ⟨cell, g1, g2, g3⟩ := va_recv hK hP hqc hat; exact ⟨cell, g1, g2, by rw [← hqn]; exact g3⟩, fun U hU hW => by
      have := mj_pre hC0 hP hS hg hav U hU hW
      rw [List.map_cons, mj_vr (by omega)] at this
      exact this⟩ rfl (by rw [List.length_map]; omega) hL.1 (by
      show ((r.reverse ++ (rV t n9 o :: st.drop b)).map (mj_v ad sa)) = _
      rw [List.map_append, List.map_cons, mj_vr (by omega), List.map_reverse]) (lv_room (by omega)) hd ⟨by omega, by omega⟩
  refine mj_call hrun hS (fun r' σ' H1 locs1 hK' hok' hP1 hg1 hS1 => ?_)
  subst hn
  cases r' with
  | none => exact hk _ _ _ _ hK' H1 locs1 ls hP1 hS1 hg1 hL hrest
  | some v => exact hk _ _ _ _ hK' H1 locs1 ls hP1 hS1 hg1 hL (mj_cons (hok' v rfl) hrest)
theorem mj_s_scall {idx : Nat} (hC : mj_Cx p R s m args c D cs A ad sa cu su own cc nL (n + 1)) (hd : decode cc pc = .ok (.invokestatic idx, 3)) (hn : nx = pc + 3) (ha : a < mj_NM) (hs : (mj_hp a).1 = true) (hb' : b = (mj_hp a).2.1) (hl : Cond.methodLink own idx (mj_hd a).1 ∈ mj_tb ∨ ∃ host, Cond.methodLinkNest own idx (mj_hd a).1 host ∈ lw_tbl)
    (hk : ∀ pc loc st σ, k pc loc st σ → mj_B p l e R s m args below meth c D cs A ad sa cu su Q nL pc loc st σ)
    (h : mj_x_call k (mj_Ok n) nx a b loc st σ) : mj_B p l e R s m args below meth c D cs A ad sa cu su Q nL pc loc st σ := by
  obtain ⟨h1, h2, hM⟩ := mj_cinv h
  obtain ⟨⟨w1, w2, w3⟩, ⟨w4, w5⟩, w6, w7⟩ := mj_hw1 ha
  have v1 := mj_hw2 ha hs
  have hC0 := hC
  obtain ⟨hx, hb, hml, ho, hts, hK, hDD, hSt, hSc, hf1, hf2, hf3, hf4⟩ := hC
  intro H locs ls hP hS hg hL hst
  have hav : ∀ v ∈ (st.take b).reverse, mj_ok sa v := fun v hv => hst v (List.mem_of_mem_take (List.mem_reverse.mp hv))
  have hrest : ∀ v ∈ st.drop b, mj_ok sa v := fun v hv => hst v (List.mem_of_mem_drop hv)
  have hstk : st.map (mj_v ad sa) = ((st.take b).reverse.map (mj_v ad sa)).reverse ++ (st.drop b).map (mj_v ad sa) := by
    rw [← List.map_reverse, List.reverse_reverse, ← List.map_append, List.take_append_drop]
  have hlen : ((st.take b).reverse.map (mj_v ad sa)).length = (mj_hp a).2.1 := by
    rw [List.length_map, List.length_reverse, List.length_take]; omega
  have hsum := mj_sum2 (ad := ad) (sa := sa) (st.drop b)
  have hR : (mj_rm n).frames + 1 ≤ R.frames ∧ 8 + ((mj_hd a).2.2.1 + 11) + (mj_rm n).locals ≤ R.locals := ⟨by show n + 1 ≤ R.frames; exact hf1, by show 8 + ((mj_hd a).2.2.1 + 11) + 64 * n ≤ R.locals; omega⟩
  have hrun : va_Run p l e R s m args below meth c H locs cu su 0 0 (F0 m pc ls (st.map (mj_v ad sa))) ((st.drop b).map (mj_v ad sa)) (mj_Qc D cs A ad sa (mj_push (k nx) loc (st.drop b)) ((st.take b).reverse.map (mj_v ad sa)).toArray) A := by
    rcases hl with hl | ⟨host, hl⟩
    · exact va_runS (g := F0 m pc ls (st.map (mj_v ad sa))) (As := (st.take b).reverse.map (mj_v ad sa)) (rest := (st.drop b).map (mj_v ad sa)) ⟨hx, hb, hml, ho, hts⟩ (hM l D cs A ad sa)
        ⟨callB_of (mj_hp a).2.1 hts (mj_gws ha) rfl rfl rfl (hts _ w2) (hts _ hl) ⟨w4, w5, w6⟩ hR, hts _ v1⟩ ⟨mj_blind _ _, mj_pre hC0 hP hS hg hav⟩ rfl hlen hL.1 hstk (lv_room (by omega)) hd ⟨by omega, by omega⟩
    · exact va_runSN (g := F0 m pc ls (st.map (mj_v ad sa))) (As := (st.take b).reverse.map (mj_v ad sa)) (rest := (st.drop b).map (mj_v ad sa)) ⟨hx, hb, hml, ho, hts⟩ (hM l D cs A ad sa)
        ⟨va_cnB (host := host) (mj_hp a).2.1 hts (mj_gws ha) rfl rfl rfl (hSt.2.2.2.2 _ hl rfl) (hts _ w2) ⟨w4, w5, w6⟩ hR, hts _ v1, trivial⟩ ⟨mj_blind _ _, mj_pre hC0 hP hS hg hav⟩ rfl hlen hL.1 hstk (lv_room (by omega)) hd ⟨by omega, by omega⟩
  refine mj_call hrun hS (fun r' σ' H1 locs1 hK' hok' hP1 hg1 hS1 => ?_)
  subst hn
  cases r' with
  | none => exact hk _ _ _ _ hK' H1 locs1 ls hP1 hS1 hg1 hL hrest
  | some v => exact hk _ _ _ _ hK' H1 locs1 ls hP1 hS1 hg1 hL (mj_cons (hok' v rfl) hrest)
end MJ4
end
