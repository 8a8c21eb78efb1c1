-- ===== PART A: goes FIRST, ahead of the names: the tables' words, and 'selects' of the private methods out of them =====
/-- a private method of a class that the tables say can be made, by its rows of tables_1 -/
def lw_okq (q : MethodName × Nat) : Prop := (q.1.cls ≠ "java/lang/invoke/MethodHandle" ∧ q.1.cls ≠ "java/lang/invoke/VarHandle") ∧ Cond.instantiable q.1.cls q.2 ∈ tables_1 ∧ Cond.privateMethod q.1 ∈ tables_1 ∧ Cond.instanceMethod q.1 ∈ tables_1
theorem lw_p0 : lw_okq (⟨"StandingLine", "tryDays", "()I"⟩, 10) := ⟨⟨by decide +kernel, by decide +kernel⟩, List.mem_of_getElem? (i := 18) (by decide +kernel), List.mem_of_getElem? (i := 395) (by decide +kernel), List.mem_of_getElem? (i := 396) (by decide +kernel)⟩
theorem lw_p1 : lw_okq (⟨"StandingLine", "tellPerson", "(II)I"⟩, 10) := ⟨⟨by decide +kernel, by decide +kernel⟩, List.mem_of_getElem? (i := 18) (by decide +kernel), List.mem_of_getElem? (i := 774) (by decide +kernel), List.mem_of_getElem? (i := 775) (by decide +kernel)⟩
theorem lw_p2 : lw_okq (⟨"StandingLine", "tellVillage", "(I)I"⟩, 10) := ⟨⟨by decide +kernel, by decide +kernel⟩, List.mem_of_getElem? (i := 18) (by decide +kernel), List.mem_of_getElem? (i := 778) (by decide +kernel), List.mem_of_getElem? (i := 779) (by decide +kernel)⟩
theorem lw_p3 : lw_okq (⟨"StandingLineModel", "placeOf", "(I)I"⟩, 43) := ⟨⟨by decide +kernel, by decide +kernel⟩, List.mem_of_getElem? (i := 783) (by decide +kernel), List.mem_of_getElem? (i := 936) (by decide +kernel), List.mem_of_getElem? (i := 937) (by decide +kernel)⟩
theorem lw_p4 : lw_okq (⟨"StandingLineModel", "whoAt", "(II)I"⟩, 43) := ⟨⟨by decide +kernel, by decide +kernel⟩, List.mem_of_getElem? (i := 783) (by decide +kernel), List.mem_of_getElem? (i := 940) (by decide +kernel), List.mem_of_getElem? (i := 941) (by decide +kernel)⟩
theorem lw_p5 : lw_okq (⟨"StandingLineModel", "drop", "(I)V"⟩, 43) := ⟨⟨by decide +kernel, by decide +kernel⟩, List.mem_of_getElem? (i := 783) (by decide +kernel), List.mem_of_getElem? (i := 948) (by decide +kernel), List.mem_of_getElem? (i := 949) (by decide +kernel)⟩
theorem lw_p6 : lw_okq (⟨"StandingLineModel", "readOn", "(II)I"⟩, 43) := ⟨⟨by decide +kernel, by decide +kernel⟩, List.mem_of_getElem? (i := 783) (by decide +kernel), List.mem_of_getElem? (i := 983) (by decide +kernel), List.mem_of_getElem? (i := 984) (by decide +kernel)⟩
theorem lw_p7 : lw_okq (⟨"StandingLineModel", "begin", "(I)I"⟩, 43) := ⟨⟨by decide +kernel, by decide +kernel⟩, List.mem_of_getElem? (i := 783) (by decide +kernel), List.mem_of_getElem? (i := 987) (by decide +kernel), List.mem_of_getElem? (i := 988) (by decide +kernel)⟩
theorem lw_p8 : lw_okq (⟨"StandingLineModel", "close", "(III)I"⟩, 43) := ⟨⟨by decide +kernel, by decide +kernel⟩, List.mem_of_getElem? (i := 783) (by decide +kernel), List.mem_of_getElem? (i := 996) (by decide +kernel), List.mem_of_getElem? (i := 997) (by decide +kernel)⟩
theorem lw_p9 : lw_okq (⟨"StandingLineModel", "deed", "(I)I"⟩, 43) := ⟨⟨by decide +kernel, by decide +kernel⟩, List.mem_of_getElem? (i := 783) (by decide +kernel), List.mem_of_getElem? (i := 1000) (by decide +kernel), List.mem_of_getElem? (i := 1001) (by decide +kernel)⟩
theorem lw_p10 : lw_okq (⟨"StandingLineModel", "refusal", "()I"⟩, 43) := ⟨⟨by decide +kernel, by decide +kernel⟩, List.mem_of_getElem? (i := 783) (by decide +kernel), List.mem_of_getElem? (i := 1010) (by decide +kernel), List.mem_of_getElem? (i := 1011) (by decide +kernel)⟩
theorem lw_p11 : lw_okq (⟨"StandingLineModel", "keepNow", "()V"⟩, 43) := ⟨⟨by decide +kernel, by decide +kernel⟩, List.mem_of_getElem? (i := 783) (by decide +kernel), List.mem_of_getElem? (i := 1014) (by decide +kernel), List.mem_of_getElem? (i := 1015) (by decide +kernel)⟩
theorem lw_p12 : lw_okq (⟨"StandingLineModel", "goDays", "()V"⟩, 43) := ⟨⟨by decide +kernel, by decide +kernel⟩, List.mem_of_getElem? (i := 783) (by decide +kernel), List.mem_of_getElem? (i := 1019) (by decide +kernel), List.mem_of_getElem? (i := 1020) (by decide +kernel)⟩
theorem lw_p13 : lw_okq (⟨"StandingLineModel", "whyNot", "(IIII)I"⟩, 43) := ⟨⟨by decide +kernel, by decide +kernel⟩, List.mem_of_getElem? (i := 783) (by decide +kernel), List.mem_of_getElem? (i := 1023) (by decide +kernel), List.mem_of_getElem? (i := 1024) (by decide +kernel)⟩
theorem lw_p14 : lw_okq (⟨"StandingLineModel", "whyNotWalk", "(III)I"⟩, 43) := ⟨⟨by decide +kernel, by decide +kernel⟩, List.mem_of_getElem? (i := 783) (by decide +kernel), List.mem_of_getElem? (i := 1027) (by decide +kernel), List.mem_of_getElem? (i := 1028) (by decide +kernel)⟩
theorem lw_p15 : lw_okq (⟨"StandingLineModel", "happen", "(IIII)V"⟩, 43) := ⟨⟨by decide +kernel, by decide +kernel⟩, List.mem_of_getElem? (i := 783) (by decide +kernel), List.mem_of_getElem? (i := 1037) (by decide +kernel), List.mem_of_getElem? (i := 1038) (by decide +kernel)⟩
def lw_privs_1 : List (MethodName × Nat) := [(⟨"StandingLine", "tryDays", "()I"⟩, 10), (⟨"StandingLine", "tellPerson", "(II)I"⟩, 10), (⟨"StandingLine", "tellVillage", "(I)I"⟩, 10), (⟨"StandingLineModel", "placeOf", "(I)I"⟩, 43), (⟨"StandingLineModel", "whoAt", "(II)I"⟩, 43), (⟨"StandingLineModel", "drop", "(I)V"⟩, 43), (⟨"StandingLineModel", "readOn", "(II)I"⟩, 43), (⟨"StandingLineModel", "begin", "(I)I"⟩, 43), (⟨"StandingLineModel", "close", "(III)I"⟩, 43), (⟨"StandingLineModel", "deed", "(I)I"⟩, 43), (⟨"StandingLineModel", "refusal", "()I"⟩, 43), (⟨"StandingLineModel", "keepNow", "()V"⟩, 43), (⟨"StandingLineModel", "goDays", "()V"⟩, 43), (⟨"StandingLineModel", "whyNot", "(IIII)I"⟩, 43), (⟨"StandingLineModel", "whyNotWalk", "(III)I"⟩, 43), (⟨"StandingLineModel", "happen", "(IIII)V"⟩, 43)]
theorem lw_r1 : ∀ q ∈ lw_privs_1, lw_okq q := List.forall_mem_cons.mpr ⟨lw_p0, List.forall_mem_cons.mpr ⟨lw_p1, List.forall_mem_cons.mpr ⟨lw_p2, List.forall_mem_cons.mpr ⟨lw_p3, List.forall_mem_cons.mpr ⟨lw_p4, List.forall_mem_cons.mpr ⟨lw_p5, List.forall_mem_cons.mpr ⟨lw_p6, List.forall_mem_cons.mpr ⟨lw_p7, List.forall_mem_cons.mpr ⟨lw_p8, List.forall_mem_cons.mpr ⟨lw_p9, List.forall_mem_cons.mpr ⟨lw_p10, List.forall_mem_cons.mpr ⟨lw_p11, List.forall_mem_cons.mpr ⟨lw_p12, List.forall_mem_cons.mpr ⟨lw_p13, List.forall_mem_cons.mpr ⟨lw_p14, List.forall_mem_cons.mpr ⟨lw_p15, fun _ h => absurd h List.not_mem_nil⟩⟩⟩⟩⟩⟩⟩⟩⟩⟩⟩⟩⟩⟩⟩⟩
theorem lw_p16 : lw_okq (⟨"StandingLineModel", "walk", "(III)V"⟩, 43) := ⟨⟨by decide +kernel, by decide +kernel⟩, List.mem_of_getElem? (i := 783) (by decide +kernel), List.mem_of_getElem? (i := 1041) (by decide +kernel), List.mem_of_getElem? (i := 1042) (by decide +kernel)⟩
theorem lw_p17 : lw_okq (⟨"StandingLineModel", "inherit", "(II)V"⟩, 43) := ⟨⟨by decide +kernel, by decide +kernel⟩, List.mem_of_getElem? (i := 783) (by decide +kernel), List.mem_of_getElem? (i := 1045) (by decide +kernel), List.mem_of_getElem? (i := 1046) (by decide +kernel)⟩
theorem lw_p18 : lw_okq (⟨"StandingLineModel", "back", "(I)I"⟩, 43) := ⟨⟨by decide +kernel, by decide +kernel⟩, List.mem_of_getElem? (i := 783) (by decide +kernel), List.mem_of_getElem? (i := 1049) (by decide +kernel), List.mem_of_getElem? (i := 1050) (by decide +kernel)⟩
theorem lw_p19 : lw_okq (⟨"StandingLineModel", "ofPerson", "(II)I"⟩, 43) := ⟨⟨by decide +kernel, by decide +kernel⟩, List.mem_of_getElem? (i := 783) (by decide +kernel), List.mem_of_getElem? (i := 1058) (by decide +kernel), List.mem_of_getElem? (i := 1059) (by decide +kernel)⟩
theorem lw_p20 : lw_okq (⟨"StandingLineModel", "layLine", "()V"⟩, 43) := ⟨⟨by decide +kernel, by decide +kernel⟩, List.mem_of_getElem? (i := 783) (by decide +kernel), List.mem_of_getElem? (i := 1066) (by decide +kernel), List.mem_of_getElem? (i := 1067) (by decide +kernel)⟩
theorem lw_p21 : lw_okq (⟨"StandingLineModel", "persons", "()I"⟩, 43) := ⟨⟨by decide +kernel, by decide +kernel⟩, List.mem_of_getElem? (i := 783) (by decide +kernel), List.mem_of_getElem? (i := 1070) (by decide +kernel), List.mem_of_getElem? (i := 1071) (by decide +kernel)⟩
theorem lw_p22 : lw_okq (⟨"StandingLineModel", "layLineOf", "(I)V"⟩, 43) := ⟨⟨by decide +kernel, by decide +kernel⟩, List.mem_of_getElem? (i := 783) (by decide +kernel), List.mem_of_getElem? (i := 1074) (by decide +kernel), List.mem_of_getElem? (i := 1075) (by decide +kernel)⟩
theorem lw_p23 : lw_okq (⟨"StandingLineModel", "addPoint", "(III)V"⟩, 43) := ⟨⟨by decide +kernel, by decide +kernel⟩, List.mem_of_getElem? (i := 783) (by decide +kernel), List.mem_of_getElem? (i := 1078) (by decide +kernel), List.mem_of_getElem? (i := 1079) (by decide +kernel)⟩
theorem lw_p24 : lw_okq (⟨"StandingLineModel", "sideOf", "(II)I"⟩, 43) := ⟨⟨by decide +kernel, by decide +kernel⟩, List.mem_of_getElem? (i := 783) (by decide +kernel), List.mem_of_getElem? (i := 1082) (by decide +kernel), List.mem_of_getElem? (i := 1083) (by decide +kernel)⟩
theorem lw_p25 : lw_okq (⟨"StandingLineModel", "isOn", "(III)Z"⟩, 43) := ⟨⟨by decide +kernel, by decide +kernel⟩, List.mem_of_getElem? (i := 783) (by decide +kernel), List.mem_of_getElem? (i := 1086) (by decide +kernel), List.mem_of_getElem? (i := 1087) (by decide +kernel)⟩
theorem lw_p26 : lw_okq (⟨"StandingLineModel", "turnOf", "(III)I"⟩, 43) := ⟨⟨by decide +kernel, by decide +kernel⟩, List.mem_of_getElem? (i := 783) (by decide +kernel), List.mem_of_getElem? (i := 1093) (by decide +kernel), List.mem_of_getElem? (i := 1094) (by decide +kernel)⟩
theorem lw_p27 : lw_okq (⟨"StandingLineModel", "isNorthOf", "(III)Z"⟩, 43) := ⟨⟨by decide +kernel, by decide +kernel⟩, List.mem_of_getElem? (i := 783) (by decide +kernel), List.mem_of_getElem? (i := 1100) (by decide +kernel), List.mem_of_getElem? (i := 1101) (by decide +kernel)⟩
theorem lw_p28 : lw_okq (⟨"StandingLineModel", "southOf", "()I"⟩, 43) := ⟨⟨by decide +kernel, by decide +kernel⟩, List.mem_of_getElem? (i := 783) (by decide +kernel), List.mem_of_getElem? (i := 1108) (by decide +kernel), List.mem_of_getElem? (i := 1109) (by decide +kernel)⟩
theorem lw_p29 : lw_okq (⟨"StandingLineModel", "pinched", "()I"⟩, 43) := ⟨⟨by decide +kernel, by decide +kernel⟩, List.mem_of_getElem? (i := 783) (by decide +kernel), List.mem_of_getElem? (i := 1112) (by decide +kernel), List.mem_of_getElem? (i := 1113) (by decide +kernel)⟩
theorem lw_p30 : lw_okq (⟨"StandingLineModel", "goesBack", "(I)Z"⟩, 43) := ⟨⟨by decide +kernel, by decide +kernel⟩, List.mem_of_getElem? (i := 783) (by decide +kernel), List.mem_of_getElem? (i := 1116) (by decide +kernel), List.mem_of_getElem? (i := 1117) (by decide +kernel)⟩
theorem lw_p31 : lw_okq (⟨"StandingLineModel", "haveCommon", "(II)Z"⟩, 43) := ⟨⟨by decide +kernel, by decide +kernel⟩, List.mem_of_getElem? (i := 783) (by decide +kernel), List.mem_of_getElem? (i := 1120) (by decide +kernel), List.mem_of_getElem? (i := 1121) (by decide +kernel)⟩
def lw_privs_2 : List (MethodName × Nat) := [(⟨"StandingLineModel", "walk", "(III)V"⟩, 43), (⟨"StandingLineModel", "inherit", "(II)V"⟩, 43), (⟨"StandingLineModel", "back", "(I)I"⟩, 43), (⟨"StandingLineModel", "ofPerson", "(II)I"⟩, 43), (⟨"StandingLineModel", "layLine", "()V"⟩, 43), (⟨"StandingLineModel", "persons", "()I"⟩, 43), (⟨"StandingLineModel", "layLineOf", "(I)V"⟩, 43), (⟨"StandingLineModel", "addPoint", "(III)V"⟩, 43), (⟨"StandingLineModel", "sideOf", "(II)I"⟩, 43), (⟨"StandingLineModel", "isOn", "(III)Z"⟩, 43), (⟨"StandingLineModel", "turnOf", "(III)I"⟩, 43), (⟨"StandingLineModel", "isNorthOf", "(III)Z"⟩, 43), (⟨"StandingLineModel", "southOf", "()I"⟩, 43), (⟨"StandingLineModel", "pinched", "()I"⟩, 43), (⟨"StandingLineModel", "goesBack", "(I)Z"⟩, 43), (⟨"StandingLineModel", "haveCommon", "(II)Z"⟩, 43)]
theorem lw_r2 : ∀ q ∈ lw_privs_2, lw_okq q := List.forall_mem_cons.mpr ⟨lw_p16, List.forall_mem_cons.mpr ⟨lw_p17, List.forall_mem_cons.mpr ⟨lw_p18, List.forall_mem_cons.mpr ⟨lw_p19, List.forall_mem_cons.mpr ⟨lw_p20, List.forall_mem_cons.mpr ⟨lw_p21, List.forall_mem_cons.mpr ⟨lw_p22, List.forall_mem_cons.mpr ⟨lw_p23, List.forall_mem_cons.mpr ⟨lw_p24, List.forall_mem_cons.mpr ⟨lw_p25, List.forall_mem_cons.mpr ⟨lw_p26, List.forall_mem_cons.mpr ⟨lw_p27, List.forall_mem_cons.mpr ⟨lw_p28, List.forall_mem_cons.mpr ⟨lw_p29, List.forall_mem_cons.mpr ⟨lw_p30, List.forall_mem_cons.mpr ⟨lw_p31, fun _ h => absurd h List.not_mem_nil⟩⟩⟩⟩⟩⟩⟩⟩⟩⟩⟩⟩⟩⟩⟩⟩
theorem lw_p32 : lw_okq (⟨"StandingLineModel", "villagesOn", "(I)I"⟩, 43) := ⟨⟨by decide +kernel, by decide +kernel⟩, List.mem_of_getElem? (i := 783) (by decide +kernel), List.mem_of_getElem? (i := 1131) (by decide +kernel), List.mem_of_getElem? (i := 1132) (by decide +kernel)⟩
theorem lw_p33 : lw_okq (⟨"StandingLineModel", "trySway", "(IIII)V"⟩, 43) := ⟨⟨by decide +kernel, by decide +kernel⟩, List.mem_of_getElem? (i := 783) (by decide +kernel), List.mem_of_getElem? (i := 1143) (by decide +kernel), List.mem_of_getElem? (i := 1144) (by decide +kernel)⟩
theorem lw_p34 : lw_okq (⟨"StandingLineModel", "put", "(III)V"⟩, 43) := ⟨⟨by decide +kernel, by decide +kernel⟩, List.mem_of_getElem? (i := 783) (by decide +kernel), List.mem_of_getElem? (i := 1150) (by decide +kernel), List.mem_of_getElem? (i := 1151) (by decide +kernel)⟩
theorem lw_p35 : lw_okq (⟨"StandingLineModel", "southNow", "()I"⟩, 43) := ⟨⟨by decide +kernel, by decide +kernel⟩, List.mem_of_getElem? (i := 783) (by decide +kernel), List.mem_of_getElem? (i := 1158) (by decide +kernel), List.mem_of_getElem? (i := 1159) (by decide +kernel)⟩
theorem lw_p36 : lw_okq (⟨"StandingLineModel", "canStep", "(II)Z"⟩, 43) := ⟨⟨by decide +kernel, by decide +kernel⟩, List.mem_of_getElem? (i := 783) (by decide +kernel), List.mem_of_getElem? (i := 1165) (by decide +kernel), List.mem_of_getElem? (i := 1166) (by decide +kernel)⟩
theorem lw_p37 : lw_okq (⟨"StandingLineModel", "southBy", "(II)I"⟩, 43) := ⟨⟨by decide +kernel, by decide +kernel⟩, List.mem_of_getElem? (i := 783) (by decide +kernel), List.mem_of_getElem? (i := 1169) (by decide +kernel), List.mem_of_getElem? (i := 1170) (by decide +kernel)⟩
theorem lw_p38 : lw_okq (⟨"StandingLineModel", "laySides", "()V"⟩, 43) := ⟨⟨by decide +kernel, by decide +kernel⟩, List.mem_of_getElem? (i := 783) (by decide +kernel), List.mem_of_getElem? (i := 1181) (by decide +kernel), List.mem_of_getElem? (i := 1182) (by decide +kernel)⟩
theorem lw_p39 : lw_okq (⟨"StandingLineModel", "isSame", "(I)Z"⟩, 43) := ⟨⟨by decide +kernel, by decide +kernel⟩, List.mem_of_getElem? (i := 783) (by decide +kernel), List.mem_of_getElem? (i := 1185) (by decide +kernel), List.mem_of_getElem? (i := 1186) (by decide +kernel)⟩
theorem lw_p40 : lw_okq (⟨"StandingLineModel", "waysOf", "(I)I"⟩, 43) := ⟨⟨by decide +kernel, by decide +kernel⟩, List.mem_of_getElem? (i := 783) (by decide +kernel), List.mem_of_getElem? (i := 1189) (by decide +kernel), List.mem_of_getElem? (i := 1190) (by decide +kernel)⟩
theorem lw_p41 : lw_okq (⟨"StandingLineModel", "findMoves", "()V"⟩, 43) := ⟨⟨by decide +kernel, by decide +kernel⟩, List.mem_of_getElem? (i := 783) (by decide +kernel), List.mem_of_getElem? (i := 1205) (by decide +kernel), List.mem_of_getElem? (i := 1206) (by decide +kernel)⟩
theorem lw_p42 : lw_okq (⟨"StandingLineModel", "lookAt", "(I)V"⟩, 43) := ⟨⟨by decide +kernel, by decide +kernel⟩, List.mem_of_getElem? (i := 783) (by decide +kernel), List.mem_of_getElem? (i := 1209) (by decide +kernel), List.mem_of_getElem? (i := 1210) (by decide +kernel)⟩
theorem lw_p43 : lw_okq (⟨"StandingLineModel", "isAsSeen", "()Z"⟩, 43) := ⟨⟨by decide +kernel, by decide +kernel⟩, List.mem_of_getElem? (i := 783) (by decide +kernel), List.mem_of_getElem? (i := 1213) (by decide +kernel), List.mem_of_getElem? (i := 1214) (by decide +kernel)⟩
theorem lw_p44 : lw_okq (⟨"StandingLineModel", "tryMoves", "(I)V"⟩, 43) := ⟨⟨by decide +kernel, by decide +kernel⟩, List.mem_of_getElem? (i := 783) (by decide +kernel), List.mem_of_getElem? (i := 1217) (by decide +kernel), List.mem_of_getElem? (i := 1218) (by decide +kernel)⟩
theorem lw_p45 : lw_okq (⟨"StandingLineModel", "mostMoves", "(I)I"⟩, 43) := ⟨⟨by decide +kernel, by decide +kernel⟩, List.mem_of_getElem? (i := 783) (by decide +kernel), List.mem_of_getElem? (i := 1225) (by decide +kernel), List.mem_of_getElem? (i := 1226) (by decide +kernel)⟩
theorem lw_p46 : lw_okq (⟨"StandingLineModel", "answered", "(I)I"⟩, 43) := ⟨⟨by decide +kernel, by decide +kernel⟩, List.mem_of_getElem? (i := 783) (by decide +kernel), List.mem_of_getElem? (i := 1233) (by decide +kernel), List.mem_of_getElem? (i := 1234) (by decide +kernel)⟩
theorem lw_p47 : lw_okq (⟨"StandingLineModel", "northsBest", "()I"⟩, 43) := ⟨⟨by decide +kernel, by decide +kernel⟩, List.mem_of_getElem? (i := 783) (by decide +kernel), List.mem_of_getElem? (i := 1237) (by decide +kernel), List.mem_of_getElem? (i := 1238) (by decide +kernel)⟩
def lw_privs_3 : List (MethodName × Nat) := [(⟨"StandingLineModel", "villagesOn", "(I)I"⟩, 43), (⟨"StandingLineModel", "trySway", "(IIII)V"⟩, 43), (⟨"StandingLineModel", "put", "(III)V"⟩, 43), (⟨"StandingLineModel", "southNow", "()I"⟩, 43), (⟨"StandingLineModel", "canStep", "(II)Z"⟩, 43), (⟨"StandingLineModel", "southBy", "(II)I"⟩, 43), (⟨"StandingLineModel", "laySides", "()V"⟩, 43), (⟨"StandingLineModel", "isSame", "(I)Z"⟩, 43), (⟨"StandingLineModel", "waysOf", "(I)I"⟩, 43), (⟨"StandingLineModel", "findMoves", "()V"⟩, 43), (⟨"StandingLineModel", "lookAt", "(I)V"⟩, 43), (⟨"StandingLineModel", "isAsSeen", "()Z"⟩, 43), (⟨"StandingLineModel", "tryMoves", "(I)V"⟩, 43), (⟨"StandingLineModel", "mostMoves", "(I)I"⟩, 43), (⟨"StandingLineModel", "answered", "(I)I"⟩, 43), (⟨"StandingLineModel", "northsBest", "()I"⟩, 43)]
theorem lw_r3 : ∀ q ∈ lw_privs_3, lw_okq q := List.forall_mem_cons.mpr ⟨lw_p32, List.forall_mem_cons.mpr ⟨lw_p33, List.forall_mem_cons.mpr ⟨lw_p34, List.forall_mem_cons.mpr ⟨lw_p35, List.forall_mem_cons.mpr ⟨lw_p36, List.forall_mem_cons.mpr ⟨lw_p37, List.forall_mem_cons.mpr ⟨lw_p38, List.forall_mem_cons.mpr ⟨lw_p39, List.forall_mem_cons.mpr ⟨lw_p40, List.forall_mem_cons.mpr ⟨lw_p41, List.forall_mem_cons.mpr ⟨lw_p42, List.forall_mem_cons.mpr ⟨lw_p43, List.forall_mem_cons.mpr ⟨lw_p44, List.forall_mem_cons.mpr ⟨lw_p45, List.forall_mem_cons.mpr ⟨lw_p46, List.forall_mem_cons.mpr ⟨lw_p47, fun _ h => absurd h List.not_mem_nil⟩⟩⟩⟩⟩⟩⟩⟩⟩⟩⟩⟩⟩⟩⟩⟩
theorem lw_p48 : lw_okq (⟨"StandingLineModel", "strayOnce", "(II)V"⟩, 43) := ⟨⟨by decide +kernel, by decide +kernel⟩, List.mem_of_getElem? (i := 783) (by decide +kernel), List.mem_of_getElem? (i := 1247) (by decide +kernel), List.mem_of_getElem? (i := 1248) (by decide +kernel)⟩
theorem lw_p49 : lw_okq (⟨"StandingLineModel", "passAll", "()V"⟩, 43) := ⟨⟨by decide +kernel, by decide +kernel⟩, List.mem_of_getElem? (i := 783) (by decide +kernel), List.mem_of_getElem? (i := 1267) (by decide +kernel), List.mem_of_getElem? (i := 1268) (by decide +kernel)⟩
theorem lw_p50 : lw_okq (⟨"StandingLineModel", "pass", "(I)I"⟩, 43) := ⟨⟨by decide +kernel, by decide +kernel⟩, List.mem_of_getElem? (i := 783) (by decide +kernel), List.mem_of_getElem? (i := 1271) (by decide +kernel), List.mem_of_getElem? (i := 1272) (by decide +kernel)⟩
theorem lw_p51 : lw_okq (⟨"StandingLineModel", "passRow", "([I)V"⟩, 43) := ⟨⟨by decide +kernel, by decide +kernel⟩, List.mem_of_getElem? (i := 783) (by decide +kernel), List.mem_of_getElem? (i := 1275) (by decide +kernel), List.mem_of_getElem? (i := 1276) (by decide +kernel)⟩
theorem lw_p52 : lw_okq (⟨"StandingLineModel", "toldOf", "(II)I"⟩, 43) := ⟨⟨by decide +kernel, by decide +kernel⟩, List.mem_of_getElem? (i := 783) (by decide +kernel), List.mem_of_getElem? (i := 1290) (by decide +kernel), List.mem_of_getElem? (i := 1291) (by decide +kernel)⟩
def lw_privs_4 : List (MethodName × Nat) := [(⟨"StandingLineModel", "strayOnce", "(II)V"⟩, 43), (⟨"StandingLineModel", "passAll", "()V"⟩, 43), (⟨"StandingLineModel", "pass", "(I)I"⟩, 43), (⟨"StandingLineModel", "passRow", "([I)V"⟩, 43), (⟨"StandingLineModel", "toldOf", "(II)I"⟩, 43)]
theorem lw_r4 : ∀ q ∈ lw_privs_4, lw_okq q := List.forall_mem_cons.mpr ⟨lw_p48, List.forall_mem_cons.mpr ⟨lw_p49, List.forall_mem_cons.mpr ⟨lw_p50, List.forall_mem_cons.mpr ⟨lw_p51, List.forall_mem_cons.mpr ⟨lw_p52, fun _ h => absurd h List.not_mem_nil⟩⟩⟩⟩⟩
def lw_privs : List (MethodName × Nat) := lw_privs_1 ++ (lw_privs_2 ++ (lw_privs_3 ++ (lw_privs_4)))
def lw_tbl : List Cond := k2_sels lw_privs ++ tables_1
theorem lw_privs_ok : ∀ q ∈ lw_privs, lw_okq q := by
  show ∀ q ∈ lw_privs_1 ++ (lw_privs_2 ++ (lw_privs_3 ++ (lw_privs_4))), lw_okq q
  exact List.forall_mem_append.mpr ⟨lw_r1, List.forall_mem_append.mpr ⟨lw_r2, List.forall_mem_append.mpr ⟨lw_r3, lw_r4⟩⟩⟩
def RX0 : String := "StandingLine$Book"
def TX0 : u_T := fun k => match k with
  | 0 => ("StandingLine$Book", "line", "LStandingLine$Border;", true)
  | 1 => ("StandingLine$Book", "villages", "LStandingLine$Villages;", true)
  | 2 => ("StandingLine$Book", "sights", "LStandingLine$Sights;", true)
  | _ => ("StandingLine$Book", "isKept", "Z", false)
def tyX0 : Nat → FieldType := fun k => match k with
  | 0 => .object "StandingLine$Border"
  | 1 => .object "StandingLine$Villages"
  | 2 => .object "StandingLine$Sights"
  | _ => .boolean
abbrev wsX00 : List Cond := u_ws RX0 TX0 4
theorem nmX0 : ∀ a, a < 4 → ∀ b, b < 4 → a ≠ b → (TX0 a).2.1 ≠ (TX0 b).2.1 := by decide +kernel
theorem tyX0_ok : ∀ k, k < 4 → parseFieldDescriptor (TX0 k).2.2.1 = some (tyX0 k) := by decide +kernel
abbrev cX0_init : ByteArray := prog_2_method_1_code
def yX0_init : MethodName := ⟨RX0, "<init>", "()V"⟩
abbrev cX0_copyFrom : ByteArray := prog_2_method_2_code
def yX0_copyFrom : MethodName := ⟨RX0, "copyFrom", "(LStandingLine$Book;)V"⟩
def RX1 : String := "StandingLine$Border"
def TX1 : u_T := fun k => match k with
  | 0 => ("StandingLine$Border", "xs", "[I", true)
  | 1 => ("StandingLine$Border", "ys", "[I", true)
  | 2 => ("StandingLine$Border", "walked", "[I", true)
  | 3 => ("StandingLine$Border", "row", "[I", true)
  | 4 => ("StandingLine$Border", "count", "I", false)
  | 5 => ("StandingLine$Border", "west", "I", false)
  | 6 => ("StandingLine$Border", "east", "I", false)
  | _ => ("StandingLine$Border", "reach", "I", false)
def tyX1 : Nat → FieldType := fun k => match k with
  | 0 => .array .int
  | 1 => .array .int
  | 2 => .array .int
  | 3 => .array .int
  | 4 => .int
  | 5 => .int
  | 6 => .int
  | _ => .int
abbrev wsX10 : List Cond := u_ws RX1 TX1 8
theorem nmX1 : ∀ a, a < 8 → ∀ b, b < 8 → a ≠ b → (TX1 a).2.1 ≠ (TX1 b).2.1 := by decide +kernel
theorem tyX1_ok : ∀ k, k < 8 → parseFieldDescriptor (TX1 k).2.2.1 = some (tyX1 k) := by decide +kernel
abbrev cX1_init : ByteArray := prog_3_method_1_code
def yX1_init : MethodName := ⟨RX1, "<init>", "()V"⟩
abbrev cX1_copyFrom : ByteArray := prog_3_method_2_code
def yX1_copyFrom : MethodName := ⟨RX1, "copyFrom", "(LStandingLine$Border;)V"⟩
abbrev cX1_placeOf : ByteArray := prog_3_method_3_code
def yX1_placeOf : MethodName := ⟨RX1, "placeOf", "(I)I"⟩
abbrev cX1_holds : ByteArray := prog_3_method_4_code
def yX1_holds : MethodName := ⟨RX1, "holds", "(I)Z"⟩
abbrev cX1_whoInPlace : ByteArray := prog_3_method_5_code
def yX1_whoInPlace : MethodName := ⟨RX1, "whoInPlace", "(I)I"⟩
abbrev cX1_bitsOfPersons : ByteArray := prog_3_method_6_code
def yX1_bitsOfPersons : MethodName := ⟨RX1, "bitsOfPersons", "()I"⟩
abbrev cX1_measure : ByteArray := prog_3_method_7_code
def yX1_measure : MethodName := ⟨RX1, "measure", "(I)I"⟩
abbrev cX1_factOf : ByteArray := prog_3_method_8_code
def yX1_factOf : MethodName := ⟨RX1, "factOf", "(II)I"⟩
abbrev cX1_isTaken : ByteArray := prog_3_method_9_code
def yX1_isTaken : MethodName := ⟨RX1, "isTaken", "(III)Z"⟩
abbrev cX1_enter : ByteArray := prog_3_method_10_code
def yX1_enter : MethodName := ⟨RX1, "enter", "(IIII)V"⟩
abbrev cX1_drop : ByteArray := prog_3_method_11_code
def yX1_drop : MethodName := ⟨RX1, "drop", "(I)V"⟩
abbrev cX1_put : ByteArray := prog_3_method_12_code
def yX1_put : MethodName := ⟨RX1, "put", "(III)V"⟩
abbrev cX1_inherit : ByteArray := prog_3_method_13_code
def yX1_inherit : MethodName := ⟨RX1, "inherit", "(II)V"⟩
abbrev cX1_endDay : ByteArray := prog_3_method_14_code
def yX1_endDay : MethodName := ⟨RX1, "endDay", "()V"⟩
abbrev cX1_whyNoWalk : ByteArray := prog_3_method_15_code
def yX1_whyNoWalk : MethodName := ⟨RX1, "whyNoWalk", "(III)I"⟩
abbrev cX1_canStep : ByteArray := prog_3_method_16_code
def yX1_canStep : MethodName := ⟨RX1, "canStep", "(II)Z"⟩
abbrev cX1_shift : ByteArray := prog_3_method_17_code
def yX1_shift : MethodName := ⟨RX1, "shift", "(III)V"⟩
abbrev cX1_walk : ByteArray := prog_3_method_18_code
def yX1_walk : MethodName := ⟨RX1, "walk", "(III)V"⟩
abbrev cX1_pieces : ByteArray := prog_3_method_19_code
def yX1_pieces : MethodName := ⟨RX1, "pieces", "()I"⟩
abbrev cX1_cornerX : ByteArray := prog_3_method_20_code
def yX1_cornerX : MethodName := ⟨RX1, "cornerX", "(I)I"⟩
abbrev cX1_cornerY : ByteArray := prog_3_method_21_code
def yX1_cornerY : MethodName := ⟨RX1, "cornerY", "(I)I"⟩
abbrev cX1_twiceSouth : ByteArray := prog_3_method_22_code
def yX1_twiceSouth : MethodName := ⟨RX1, "twiceSouth", "()I"⟩
abbrev cX1_unfairness : ByteArray := prog_3_method_23_code
def yX1_unfairness : MethodName := ⟨RX1, "unfairness", "()I"⟩
abbrev cX1_sideOf : ByteArray := prog_3_method_24_code
def yX1_sideOf : MethodName := ⟨RX1, "sideOf", "(II)I"⟩
abbrev cX1_sideAmong : ByteArray := prog_3_method_25_code
def yX1_sideAmong : MethodName := ⟨RX1, "sideAmong", "(IIII)I"⟩
abbrev cX1_joinSides : ByteArray := prog_3_method_26_code
def yX1_joinSides : MethodName := ⟨RX1, "joinSides", "(II)I"⟩
abbrev cX1_sideOfPiece : ByteArray := prog_3_method_27_code
def yX1_sideOfPiece : MethodName := ⟨RX1, "sideOfPiece", "(IIIIII)I"⟩
abbrev cX1_firstPinch : ByteArray := prog_3_method_28_code
def yX1_firstPinch : MethodName := ⟨RX1, "firstPinch", "()I"⟩
abbrev cX1_foldsBack : ByteArray := prog_3_method_29_code
def yX1_foldsBack : MethodName := ⟨RX1, "foldsBack", "(I)Z"⟩
abbrev cX1_meet : ByteArray := prog_3_method_30_code
def yX1_meet : MethodName := ⟨RX1, "meet", "(II)Z"⟩
abbrev cX1_isCornerOn : ByteArray := prog_3_method_31_code
def yX1_isCornerOn : MethodName := ⟨RX1, "isCornerOn", "(II)Z"⟩
abbrev cX1_parts : ByteArray := prog_3_method_32_code
def yX1_parts : MethodName := ⟨RX1, "parts", "(II)Z"⟩
abbrev cX1_turnTo : ByteArray := prog_3_method_33_code
def yX1_turnTo : MethodName := ⟨RX1, "turnTo", "(II)I"⟩
def RX2 : String := "StandingLine$Days"
def TX2 : u_T := fun k => match k with
  | 0 => ("StandingLine$Days", "acts", "I", false)
  | 1 => ("StandingLine$Days", "steps", "I", false)
  | 2 => ("StandingLine$Days", "failed", "I", false)
  | _ => ("StandingLine$Days", "why", "I", false)
def tyX2 : Nat → FieldType := fun k => match k with
  | 0 => .int
  | 1 => .int
  | 2 => .int
  | _ => .int
abbrev wsX20 : List Cond := u_ws RX2 TX2 4
theorem nmX2 : ∀ a, a < 4 → ∀ b, b < 4 → a ≠ b → (TX2 a).2.1 ≠ (TX2 b).2.1 := by decide +kernel
theorem tyX2_ok : ∀ k, k < 4 → parseFieldDescriptor (TX2 k).2.2.1 = some (tyX2 k) := by decide +kernel
abbrev cX2_init : ByteArray := prog_4_method_1_code
def yX2_init : MethodName := ⟨RX2, "<init>", "()V"⟩
abbrev cX2_pass : ByteArray := prog_4_method_2_code
def yX2_pass : MethodName := ⟨RX2, "pass", "(LStandingLine$Pad;LStandingLine$Border;)V"⟩
abbrev cX2_signsOfAct : ByteArray := prog_4_method_3_code
def yX2_signsOfAct : MethodName := ⟨RX2, "signsOfAct", "(LStandingLine$Pad;I)I"⟩
abbrev cX2_passAct : ByteArray := prog_4_method_4_code
def yX2_passAct : MethodName := ⟨RX2, "passAct", "(LStandingLine$Pad;ILStandingLine$Border;)I"⟩
abbrev cX2_passDeath : ByteArray := prog_4_method_5_code
def yX2_passDeath : MethodName := ⟨RX2, "passDeath", "(LStandingLine$Border;I)I"⟩
abbrev cX2_passHeir : ByteArray := prog_4_method_6_code
def yX2_passHeir : MethodName := ⟨RX2, "passHeir", "(LStandingLine$Border;II)I"⟩
abbrev cX2_passWalk : ByteArray := prog_4_method_7_code
def yX2_passWalk : MethodName := ⟨RX2, "passWalk", "(LStandingLine$Border;III)I"⟩
def RX3 : String := "StandingLine$Deaths"
def TX3 : u_T := fun k => match k with
  | 0 => ("StandingLine$Deaths", "ways", "[I", true)
  | 1 => ("StandingLine$Deaths", "total", "I", false)
  | _ => ("StandingLine$Deaths", "first", "I", false)
def tyX3 : Nat → FieldType := fun k => match k with
  | 0 => .array .int
  | 1 => .int
  | _ => .int
abbrev wsX30 : List Cond := u_ws RX3 TX3 3
theorem nmX3 : ∀ a, a < 3 → ∀ b, b < 3 → a ≠ b → (TX3 a).2.1 ≠ (TX3 b).2.1 := by decide +kernel
theorem tyX3_ok : ∀ k, k < 3 → parseFieldDescriptor (TX3 k).2.2.1 = some (tyX3 k) := by decide +kernel
abbrev cX3_init : ByteArray := prog_5_method_1_code
def yX3_init : MethodName := ⟨RX3, "<init>", "()V"⟩
abbrev cX3_count : ByteArray := prog_5_method_2_code
def yX3_count : MethodName := ⟨RX3, "count", "(LStandingLine$Book;LStandingLine$Border;)V"⟩
abbrev cX3_keepOnly : ByteArray := prog_5_method_3_code
def yX3_keepOnly : MethodName := ⟨RX3, "keepOnly", "(LStandingLine$Border;LStandingLine$Border;I)V"⟩
abbrev cX3_waysBehindDeath : ByteArray := prog_5_method_4_code
def yX3_waysBehindDeath : MethodName := ⟨RX3, "waysBehindDeath", "(I)I"⟩
abbrev cX3_firstToDie : ByteArray := prog_5_method_5_code
def yX3_firstToDie : MethodName := ⟨RX3, "firstToDie", "(I)I"⟩
def RX4 : String := "StandingLine$Moves"
def TX4 : u_T := fun k => match k with
  | 0 => ("StandingLine$Moves", "left", "[I", true)
  | 1 => ("StandingLine$Moves", "count", "I", false)
  | _ => ("StandingLine$Moves", "persons", "I", false)
def tyX4 : Nat → FieldType := fun k => match k with
  | 0 => .array .int
  | 1 => .int
  | _ => .int
abbrev wsX40 : List Cond := u_ws RX4 TX4 3
theorem nmX4 : ∀ a, a < 3 → ∀ b, b < 3 → a ≠ b → (TX4 a).2.1 ≠ (TX4 b).2.1 := by decide +kernel
theorem tyX4_ok : ∀ k, k < 3 → parseFieldDescriptor (TX4 k).2.2.1 = some (tyX4 k) := by decide +kernel
abbrev cX4_init : ByteArray := prog_6_method_1_code
def yX4_init : MethodName := ⟨RX4, "<init>", "()V"⟩
abbrev cX4_gather : ByteArray := prog_6_method_2_code
def yX4_gather : MethodName := ⟨RX4, "gather", "(LStandingLine$Book;LStandingLine$Border;)V"⟩
abbrev cX4_gatherOf : ByteArray := prog_6_method_3_code
def yX4_gatherOf : MethodName := ⟨RX4, "gatherOf", "(LStandingLine$Book;LStandingLine$Border;I)V"⟩
abbrev cX4_take : ByteArray := prog_6_method_4_code
def yX4_take : MethodName := ⟨RX4, "take", "(LStandingLine$Villages;LStandingLine$Border;I)V"⟩
abbrev cX4_mostLeft : ByteArray := prog_6_method_5_code
def yX4_mostLeft : MethodName := ⟨RX4, "mostLeft", "(I)I"⟩
abbrev cX4_bestToAsk : ByteArray := prog_6_method_6_code
def yX4_bestToAsk : MethodName := ⟨RX4, "bestToAsk", "(LStandingLine$Villages;)I"⟩
def RX5 : String := "StandingLine$Pad"
def TX5 : u_T := fun k => match k with
  | 0 => ("StandingLine$Pad", "signs", "[I", true)
  | _ => ("StandingLine$Pad", "length", "I", false)
def tyX5 : Nat → FieldType := fun k => match k with
  | 0 => .array .int
  | _ => .int
abbrev wsX50 : List Cond := u_ws RX5 TX5 2
theorem nmX5 : ∀ a, a < 2 → ∀ b, b < 2 → a ≠ b → (TX5 a).2.1 ≠ (TX5 b).2.1 := by decide +kernel
theorem tyX5_ok : ∀ k, k < 2 → parseFieldDescriptor (TX5 k).2.2.1 = some (tyX5 k) := by decide +kernel
abbrev cX5_init : ByteArray := prog_7_method_1_code
def yX5_init : MethodName := ⟨RX5, "<init>", "()V"⟩
abbrev cX5_add : ByteArray := prog_7_method_2_code
def yX5_add : MethodName := ⟨RX5, "add", "(I)V"⟩
abbrev cX5_signAt : ByteArray := prog_7_method_3_code
def yX5_signAt : MethodName := ⟨RX5, "signAt", "(I)I"⟩
abbrev cX5_firstFault : ByteArray := prog_7_method_4_code
def yX5_firstFault : MethodName := ⟨RX5, "firstFault", "()I"⟩
abbrev cX5_dueBehind : ByteArray := prog_7_method_5_code
def yX5_dueBehind : MethodName := ⟨RX5, "dueBehind", "(II)I"⟩
abbrev cX5_isLetter : ByteArray := prog_7_method_6_code
def yX5_isLetter : MethodName := ⟨RX5, "isLetter", "(I)Z"⟩
abbrev cX5_directionOf : ByteArray := prog_7_method_7_code
def yX5_directionOf : MethodName := ⟨RX5, "directionOf", "(I)I"⟩
def RX6 : String := "StandingLine$Sights"
def TX6 : u_T := fun k => match k with
  | 0 => ("StandingLine$Sights", "xs", "[I", true)
  | 1 => ("StandingLine$Sights", "ys", "[I", true)
  | 2 => ("StandingLine$Sights", "sides", "[I", true)
  | _ => ("StandingLine$Sights", "count", "I", false)
def tyX6 : Nat → FieldType := fun k => match k with
  | 0 => .array .int
  | 1 => .array .int
  | 2 => .array .int
  | _ => .int
abbrev wsX60 : List Cond := u_ws RX6 TX6 4
theorem nmX6 : ∀ a, a < 4 → ∀ b, b < 4 → a ≠ b → (TX6 a).2.1 ≠ (TX6 b).2.1 := by decide +kernel
theorem tyX6_ok : ∀ k, k < 4 → parseFieldDescriptor (TX6 k).2.2.1 = some (tyX6 k) := by decide +kernel
abbrev cX6_init : ByteArray := prog_8_method_1_code
def yX6_init : MethodName := ⟨RX6, "<init>", "()V"⟩
abbrev cX6_copyFrom : ByteArray := prog_8_method_2_code
def yX6_copyFrom : MethodName := ⟨RX6, "copyFrom", "(LStandingLine$Sights;)V"⟩
abbrev cX6_add : ByteArray := prog_8_method_3_code
def yX6_add : MethodName := ⟨RX6, "add", "(III)V"⟩
abbrev cX6_fit : ByteArray := prog_8_method_4_code
def yX6_fit : MethodName := ⟨RX6, "fit", "(LStandingLine$Border;)Z"⟩
def RX7 : String := "StandingLine$Stray"
def TX7 : u_T := fun k => match k with
  | 0 => ("StandingLine$Stray", "ways", "[I", true)
  | 1 => ("StandingLine$Stray", "before", "[I", true)
  | 2 => ("StandingLine$Stray", "startX", "I", false)
  | _ => ("StandingLine$Stray", "startY", "I", false)
def tyX7 : Nat → FieldType := fun k => match k with
  | 0 => .array .int
  | 1 => .array .int
  | 2 => .int
  | _ => .int
abbrev wsX70 : List Cond := u_ws RX7 TX7 4
theorem nmX7 : ∀ a, a < 4 → ∀ b, b < 4 → a ≠ b → (TX7 a).2.1 ≠ (TX7 b).2.1 := by decide +kernel
theorem tyX7_ok : ∀ k, k < 4 → parseFieldDescriptor (TX7 k).2.2.1 = some (tyX7 k) := by decide +kernel
abbrev cX7_init : ByteArray := prog_9_method_1_code
def yX7_init : MethodName := ⟨RX7, "<init>", "()V"⟩
abbrev cX7_at : ByteArray := prog_9_method_2_code
def yX7_at : MethodName := ⟨RX7, "at", "(II)I"⟩
abbrev cX7_walk : ByteArray := prog_9_method_3_code
def yX7_walk : MethodName := ⟨RX7, "walk", "(III)V"⟩
abbrev cX7_clearWays : ByteArray := prog_9_method_4_code
def yX7_clearWays : MethodName := ⟨RX7, "clearWays", "()V"⟩
abbrev cX7_spread : ByteArray := prog_9_method_5_code
def yX7_spread : MethodName := ⟨RX7, "spread", "(I)V"⟩
abbrev cX7_spreadFrom : ByteArray := prog_9_method_6_code
def yX7_spreadFrom : MethodName := ⟨RX7, "spreadFrom", "(III)V"⟩
abbrev cX7_waysTo : ByteArray := prog_9_method_7_code
def yX7_waysTo : MethodName := ⟨RX7, "waysTo", "(LStandingLine$Border;I)I"⟩
def RX8 : String := "StandingLine$Sway"
def TX8 : u_T := fun k => match k with
  | 0 => ("StandingLine$Sway", "steps", "I", false)
  | 1 => ("StandingLine$Sway", "who", "I", false)
  | _ => ("StandingLine$Sway", "where", "I", false)
def tyX8 : Nat → FieldType := fun k => match k with
  | 0 => .int
  | 1 => .int
  | _ => .int
abbrev wsX80 : List Cond := u_ws RX8 TX8 3
theorem nmX8 : ∀ a, a < 3 → ∀ b, b < 3 → a ≠ b → (TX8 a).2.1 ≠ (TX8 b).2.1 := by decide +kernel
theorem tyX8_ok : ∀ k, k < 3 → parseFieldDescriptor (TX8 k).2.2.1 = some (tyX8 k) := by decide +kernel
abbrev cX8_init : ByteArray := prog_10_method_1_code
def yX8_init : MethodName := ⟨RX8, "<init>", "()V"⟩
abbrev cX8_isFound : ByteArray := prog_10_method_2_code
def yX8_isFound : MethodName := ⟨RX8, "isFound", "()Z"⟩
abbrev cX8_find : ByteArray := prog_10_method_3_code
def yX8_find : MethodName := ⟨RX8, "find", "(LStandingLine$Border;III)V"⟩
abbrev cX8_tryPerson : ByteArray := prog_10_method_4_code
def yX8_tryPerson : MethodName := ⟨RX8, "tryPerson", "(LStandingLine$Border;IIII)V"⟩
def RX9 : String := "StandingLine$Villages"
def TX9 : u_T := fun k => match k with
  | 0 => ("StandingLine$Villages", "xs", "[I", true)
  | 1 => ("StandingLine$Villages", "ys", "[I", true)
  | _ => ("StandingLine$Villages", "bits", "I", false)
def tyX9 : Nat → FieldType := fun k => match k with
  | 0 => .array .int
  | 1 => .array .int
  | _ => .int
abbrev wsX90 : List Cond := u_ws RX9 TX9 3
theorem nmX9 : ∀ a, a < 3 → ∀ b, b < 3 → a ≠ b → (TX9 a).2.1 ≠ (TX9 b).2.1 := by decide +kernel
theorem tyX9_ok : ∀ k, k < 3 → parseFieldDescriptor (TX9 k).2.2.1 = some (tyX9 k) := by decide +kernel
abbrev cX9_init : ByteArray := prog_11_method_1_code
def yX9_init : MethodName := ⟨RX9, "<init>", "()V"⟩
abbrev cX9_copyFrom : ByteArray := prog_11_method_2_code
def yX9_copyFrom : MethodName := ⟨RX9, "copyFrom", "(LStandingLine$Villages;)V"⟩
abbrev cX9_holds : ByteArray := prog_11_method_3_code
def yX9_holds : MethodName := ⟨RX9, "holds", "(I)Z"⟩
abbrev cX9_put : ByteArray := prog_11_method_4_code
def yX9_put : MethodName := ⟨RX9, "put", "(III)V"⟩
abbrev cX9_bitsOn : ByteArray := prog_11_method_5_code
def yX9_bitsOn : MethodName := ⟨RX9, "bitsOn", "(LStandingLine$Border;I)I"⟩
def RX10 : String := "StandingLine$Year"
def TX10 : u_T := fun k => match k with
  | _ => ("StandingLine$Year", "steps", "I", false)
def tyX10 : Nat → FieldType := fun k => match k with
  | _ => .int
abbrev wsX100 : List Cond := u_ws RX10 TX10 1
theorem nmX10 : ∀ a, a < 1 → ∀ b, b < 1 → a ≠ b → (TX10 a).2.1 ≠ (TX10 b).2.1 := by decide +kernel
theorem tyX10_ok : ∀ k, k < 1 → parseFieldDescriptor (TX10 k).2.2.1 = some (tyX10 k) := by decide +kernel
abbrev cX10_init : ByteArray := prog_12_method_1_code
def yX10_init : MethodName := ⟨RX10, "<init>", "()V"⟩
abbrev cX10_pass : ByteArray := prog_12_method_2_code
def yX10_pass : MethodName := ⟨RX10, "pass", "(LStandingLine$Border;II)V"⟩
abbrev cX10_walkIfPossible : ByteArray := prog_12_method_3_code
def yX10_walkIfPossible : MethodName := ⟨RX10, "walkIfPossible", "(LStandingLine$Border;III)V"⟩
def RX11 : String := "StandingLine"
def TX11 : u_T := fun k => match k with
  | 0 => ("StandingLine", "book", "LStandingLine$Book;", true)
  | 1 => ("StandingLine", "images", "[LStandingLine$Book;", true)
  | 2 => ("StandingLine", "pad", "LStandingLine$Pad;", true)
  | 3 => ("StandingLine", "days", "LStandingLine$Days;", true)
  | 4 => ("StandingLine", "trial", "LStandingLine$Border;", true)
  | 5 => ("StandingLine", "sways", "LStandingLine$Sway;", true)
  | 6 => ("StandingLine", "deaths", "LStandingLine$Deaths;", true)
  | 7 => ("StandingLine", "moves", "LStandingLine$Moves;", true)
  | 8 => ("StandingLine", "stray", "LStandingLine$Stray;", true)
  | _ => ("StandingLine", "drawn", "LStandingLine$Year;", true)
def tyX11 : Nat → FieldType := fun k => match k with
  | 0 => .object "StandingLine$Book"
  | 1 => .array (.object "StandingLine$Book")
  | 2 => .object "StandingLine$Pad"
  | 3 => .object "StandingLine$Days"
  | 4 => .object "StandingLine$Border"
  | 5 => .object "StandingLine$Sway"
  | 6 => .object "StandingLine$Deaths"
  | 7 => .object "StandingLine$Moves"
  | 8 => .object "StandingLine$Stray"
  | _ => .object "StandingLine$Year"
abbrev wsX110 : List Cond := u_ws RX11 TX11 10
theorem nmX11 : ∀ a, a < 10 → ∀ b, b < 10 → a ≠ b → (TX11 a).2.1 ≠ (TX11 b).2.1 := by decide +kernel
theorem tyX11_ok : ∀ k, k < 10 → parseFieldDescriptor (TX11 k).2.2.1 = some (tyX11 k) := by decide +kernel
abbrev cX11_init : ByteArray := prog_1_method_1_code
def yX11_init : MethodName := ⟨RX11, "<init>", "()V"⟩
abbrev cX11_stand : ByteArray := prog_1_method_2_code
def yX11_stand : MethodName := ⟨RX11, "stand", "(IIII)I"⟩
abbrev cX11_leave : ByteArray := prog_1_method_3_code
def yX11_leave : MethodName := ⟨RX11, "leave", "(I)I"⟩
abbrev cX11_set : ByteArray := prog_1_method_4_code
def yX11_set : MethodName := ⟨RX11, "set", "(II)I"⟩
abbrev cX11_village : ByteArray := prog_1_method_5_code
def yX11_village : MethodName := ⟨RX11, "village", "(III)I"⟩
abbrev cX11_raze : ByteArray := prog_1_method_6_code
def yX11_raze : MethodName := ⟨RX11, "raze", "(I)I"⟩
abbrev cX11_say : ByteArray := prog_1_method_7_code
def yX11_say : MethodName := ⟨RX11, "say", "(I)I"⟩
abbrev cX11_wipe : ByteArray := prog_1_method_8_code
def yX11_wipe : MethodName := ⟨RX11, "wipe", "()I"⟩
abbrev cX11_fault : ByteArray := prog_1_method_9_code
def yX11_fault : MethodName := ⟨RX11, "fault", "()I"⟩
abbrev cX11_judge : ByteArray := prog_1_method_10_code
def yX11_judge : MethodName := ⟨RX11, "judge", "(I)I"⟩
abbrev cX11_behind : ByteArray := prog_1_method_11_code
def yX11_behind : MethodName := ⟨RX11, "behind", "(II)I"⟩
abbrev cX11_side : ByteArray := prog_1_method_12_code
def yX11_side : MethodName := ⟨RX11, "side", "(II)I"⟩
abbrev cX11_south : ByteArray := prog_1_method_13_code
def yX11_south : MethodName := ⟨RX11, "south", "(I)I"⟩
abbrev cX11_lies : ByteArray := prog_1_method_14_code
def yX11_lies : MethodName := ⟨RX11, "lies", "(I)I"⟩
abbrev cX11_done : ByteArray := prog_1_method_15_code
def yX11_done : MethodName := ⟨RX11, "done", "()I"⟩
abbrev cX11_sway : ByteArray := prog_1_method_16_code
def yX11_sway : MethodName := ⟨RX11, "sway", "(IIII)I"⟩
abbrev cX11_fair : ByteArray := prog_1_method_17_code
def yX11_fair : MethodName := ⟨RX11, "fair", "(I)I"⟩
abbrev cX11_cedes : ByteArray := prog_1_method_18_code
def yX11_cedes : MethodName := ⟨RX11, "cedes", "(I)I"⟩
abbrev cX11_orders : ByteArray := prog_1_method_19_code
def yX11_orders : MethodName := ⟨RX11, "orders", "(I)I"⟩
abbrev cX11_seen : ByteArray := prog_1_method_20_code
def yX11_seen : MethodName := ⟨RX11, "seen", "(III)I"⟩
abbrev cX11_forget : ByteArray := prog_1_method_21_code
def yX11_forget : MethodName := ⟨RX11, "forget", "()I"⟩
abbrev cX11_moved : ByteArray := prog_1_method_22_code
def yX11_moved : MethodName := ⟨RX11, "moved", "(I)I"⟩
abbrev cX11_ask : ByteArray := prog_1_method_23_code
def yX11_ask : MethodName := ⟨RX11, "ask", "(I)I"⟩
abbrev cX11_crowns : ByteArray := prog_1_method_24_code
def yX11_crowns : MethodName := ⟨RX11, "crowns", "(I)I"⟩
abbrev cX11_goat : ByteArray := prog_1_method_25_code
def yX11_goat : MethodName := ⟨RX11, "goat", "(IIIII)J"⟩
abbrev cX11_year : ByteArray := prog_1_method_26_code
def yX11_year : MethodName := ⟨RX11, "year", "(III)I"⟩
abbrev cX11_image : ByteArray := prog_1_method_27_code
def yX11_image : MethodName := ⟨RX11, "image", "(I)I"⟩
abbrev cX11_restore : ByteArray := prog_1_method_28_code
def yX11_restore : MethodName := ⟨RX11, "restore", "(I)I"⟩
abbrev cX11_told : ByteArray := prog_1_method_29_code
def yX11_told : MethodName := ⟨RX11, "told", "(I)I"⟩
abbrev cX11_tellPerson : ByteArray := prog_1_method_30_code
def yX11_tellPerson : MethodName := ⟨RX11, "tellPerson", "(II)I"⟩
abbrev cX11_tellVillage : ByteArray := prog_1_method_31_code
def yX11_tellVillage : MethodName := ⟨RX11, "tellVillage", "(I)I"⟩
abbrev cX11_tryDays : ByteArray := prog_1_method_32_code
def yX11_tryDays : MethodName := ⟨RX11, "tryDays", "()I"⟩
abbrev cX11_playTurns : ByteArray := prog_1_method_33_code
def yX11_playTurns : MethodName := ⟨RX11, "playTurns", "(LStandingLine$Border;II)I"⟩
abbrev cX11_isPerson : ByteArray := prog_1_method_34_code
def yX11_isPerson : MethodName := ⟨RX11, "isPerson", "(I)Z"⟩
abbrev cX11_isLand : ByteArray := prog_1_method_35_code
def yX11_isLand : MethodName := ⟨RX11, "isLand", "(II)Z"⟩
abbrev cX11_isSide : ByteArray := prog_1_method_36_code
def yX11_isSide : MethodName := ⟨RX11, "isSide", "(I)Z"⟩
abbrev cX11_pointCode : ByteArray := prog_1_method_37_code
def yX11_pointCode : MethodName := ⟨RX11, "pointCode", "(II)I"⟩
def RX12 : String := "StandingLineModel"
def TX12 : u_T := fun k => match k with
  | 0 => ("StandingLineModel", "many", "I", false)
  | 1 => ("StandingLineModel", "row", "[I", true)
  | 2 => ("StandingLineModel", "xs", "[I", true)
  | 3 => ("StandingLineModel", "ys", "[I", true)
  | 4 => ("StandingLineModel", "walked", "[I", true)
  | 5 => ("StandingLineModel", "west", "I", false)
  | 6 => ("StandingLineModel", "east", "I", false)
  | 7 => ("StandingLineModel", "reach", "I", false)
  | 8 => ("StandingLineModel", "villages", "I", false)
  | 9 => ("StandingLineModel", "villageX", "[I", true)
  | 10 => ("StandingLineModel", "villageY", "[I", true)
  | 11 => ("StandingLineModel", "sightX", "[I", true)
  | 12 => ("StandingLineModel", "sightY", "[I", true)
  | 13 => ("StandingLineModel", "sightSide", "[I", true)
  | 14 => ("StandingLineModel", "sights", "I", false)
  | 15 => ("StandingLineModel", "pad", "[I", true)
  | 16 => ("StandingLineModel", "padMany", "I", false)
  | 17 => ("StandingLineModel", "act", "[I", true)
  | 18 => ("StandingLineModel", "who", "[I", true)
  | 19 => ("StandingLineModel", "which", "[I", true)
  | 20 => ("StandingLineModel", "far", "[I", true)
  | 21 => ("StandingLineModel", "acts", "I", false)
  | 22 => ("StandingLineModel", "stepMany", "I", false)
  | 23 => ("StandingLineModel", "had", "[I", true)
  | 24 => ("StandingLineModel", "badAct", "I", false)
  | 25 => ("StandingLineModel", "badWhy", "I", false)
  | 26 => ("StandingLineModel", "lineX", "[I", true)
  | 27 => ("StandingLineModel", "lineY", "[I", true)
  | 28 => ("StandingLineModel", "pieces", "I", false)
  | 29 => ("StandingLineModel", "swayBy", "I", false)
  | 30 => ("StandingLineModel", "swayWho", "I", false)
  | 31 => ("StandingLineModel", "swayTo", "I", false)
  | 32 => ("StandingLineModel", "ways", "[I", true)
  | 33 => ("StandingLineModel", "sidesNow", "[I", true)
  | 34 => ("StandingLineModel", "moves", "I", false)
  | 35 => ("StandingLineModel", "movers", "I", false)
  | 36 => ("StandingLineModel", "movesBy", "[I", true)
  | 37 => ("StandingLineModel", "strays", "[J", true)
  | 38 => ("StandingLineModel", "straysThen", "[J", true)
  | 39 => ("StandingLineModel", "kept", "[I", true)
  | 40 => ("StandingLineModel", "isKept", "[Z", true)
  | 41 => ("StandingLineModel", "keptAt", "I", false)
  | _ => ("StandingLineModel", "isWriting", "Z", false)
def tyX12 : Nat → FieldType := fun k => match k with
  | 0 => .int
  | 1 => .array .int
  | 2 => .array .int
  | 3 => .array .int
  | 4 => .array .int
  | 5 => .int
  | 6 => .int
  | 7 => .int
  | 8 => .int
  | 9 => .array .int
  | 10 => .array .int
  | 11 => .array .int
  | 12 => .array .int
  | 13 => .array .int
  | 14 => .int
  | 15 => .array .int
  | 16 => .int
  | 17 => .array .int
  | 18 => .array .int
  | 19 => .array .int
  | 20 => .array .int
  | 21 => .int
  | 22 => .int
  | 23 => .array .int
  | 24 => .int
  | 25 => .int
  | 26 => .array .int
  | 27 => .array .int
  | 28 => .int
  | 29 => .int
  | 30 => .int
  | 31 => .int
  | 32 => .array .int
  | 33 => .array .int
  | 34 => .int
  | 35 => .int
  | 36 => .array .int
  | 37 => .array .long
  | 38 => .array .long
  | 39 => .array .int
  | 40 => .array .boolean
  | 41 => .int
  | _ => .boolean
abbrev wsX120 : List Cond := u_ws RX12 TX12 43
theorem nmX12 : ∀ a, a < 43 → ∀ b, b < 43 → a ≠ b → (TX12 a).2.1 ≠ (TX12 b).2.1 := by decide +kernel
theorem tyX12_ok : ∀ k, k < 43 → parseFieldDescriptor (TX12 k).2.2.1 = some (tyX12 k) := by decide +kernel
abbrev cX12_init : ByteArray := prog_14_method_1_code
def yX12_init : MethodName := ⟨RX12, "<init>", "()V"⟩
abbrev cX12_in : ByteArray := prog_14_method_3_code
def yX12_in : MethodName := ⟨RX12, "in", "(JJJ)Z"⟩
abbrev cX12_ones : ByteArray := prog_14_method_4_code
def yX12_ones : MethodName := ⟨RX12, "ones", "(I)I"⟩
abbrev cX12_size : ByteArray := prog_14_method_5_code
def yX12_size : MethodName := ⟨RX12, "size", "(I)I"⟩
abbrev cX12_isLand : ByteArray := prog_14_method_6_code
def yX12_isLand : MethodName := ⟨RX12, "isLand", "(II)Z"⟩
abbrev cX12_isNumber : ByteArray := prog_14_method_7_code
def yX12_isNumber : MethodName := ⟨RX12, "isNumber", "(I)Z"⟩
abbrev cX12_placeOf : ByteArray := prog_14_method_8_code
def yX12_placeOf : MethodName := ⟨RX12, "placeOf", "(I)I"⟩
abbrev cX12_persons : ByteArray := prog_14_method_9_code
def yX12_persons : MethodName := ⟨RX12, "persons", "()I"⟩
abbrev cX12_whoAt : ByteArray := prog_14_method_10_code
def yX12_whoAt : MethodName := ⟨RX12, "whoAt", "(II)I"⟩
abbrev cX12_stand : ByteArray := prog_14_method_11_code
def yX12_stand : MethodName := ⟨RX12, "stand", "(IIII)I"⟩
abbrev cX12_drop : ByteArray := prog_14_method_12_code
def yX12_drop : MethodName := ⟨RX12, "drop", "(I)V"⟩
abbrev cX12_leave : ByteArray := prog_14_method_13_code
def yX12_leave : MethodName := ⟨RX12, "leave", "(I)I"⟩
abbrev cX12_set : ByteArray := prog_14_method_14_code
def yX12_set : MethodName := ⟨RX12, "set", "(II)I"⟩
abbrev cX12_village : ByteArray := prog_14_method_15_code
def yX12_village : MethodName := ⟨RX12, "village", "(III)I"⟩
abbrev cX12_raze : ByteArray := prog_14_method_16_code
def yX12_raze : MethodName := ⟨RX12, "raze", "(I)I"⟩
abbrev cX12_say : ByteArray := prog_14_method_17_code
def yX12_say : MethodName := ⟨RX12, "say", "(I)I"⟩
abbrev cX12_wipe : ByteArray := prog_14_method_18_code
def yX12_wipe : MethodName := ⟨RX12, "wipe", "()I"⟩
abbrev cX12_isLetter : ByteArray := prog_14_method_19_code
def yX12_isLetter : MethodName := ⟨RX12, "isLetter", "(I)Z"⟩
abbrev cX12_close : ByteArray := prog_14_method_20_code
def yX12_close : MethodName := ⟨RX12, "close", "(III)I"⟩
abbrev cX12_begin : ByteArray := prog_14_method_21_code
def yX12_begin : MethodName := ⟨RX12, "begin", "(I)I"⟩
abbrev cX12_deed : ByteArray := prog_14_method_22_code
def yX12_deed : MethodName := ⟨RX12, "deed", "(I)I"⟩
abbrev cX12_readOn : ByteArray := prog_14_method_23_code
def yX12_readOn : MethodName := ⟨RX12, "readOn", "(II)I"⟩
abbrev cX12_fault : ByteArray := prog_14_method_24_code
def yX12_fault : MethodName := ⟨RX12, "fault", "()I"⟩
abbrev cX12_eastBy : ByteArray := prog_14_method_25_code
def yX12_eastBy : MethodName := ⟨RX12, "eastBy", "(I)I"⟩
abbrev cX12_northBy : ByteArray := prog_14_method_26_code
def yX12_northBy : MethodName := ⟨RX12, "northBy", "(I)I"⟩
abbrev cX12_whyNotWalk : ByteArray := prog_14_method_27_code
def yX12_whyNotWalk : MethodName := ⟨RX12, "whyNotWalk", "(III)I"⟩
abbrev cX12_whyNot : ByteArray := prog_14_method_28_code
def yX12_whyNot : MethodName := ⟨RX12, "whyNot", "(IIII)I"⟩
abbrev cX12_walk : ByteArray := prog_14_method_29_code
def yX12_walk : MethodName := ⟨RX12, "walk", "(III)V"⟩
abbrev cX12_inherit : ByteArray := prog_14_method_30_code
def yX12_inherit : MethodName := ⟨RX12, "inherit", "(II)V"⟩
abbrev cX12_happen : ByteArray := prog_14_method_31_code
def yX12_happen : MethodName := ⟨RX12, "happen", "(IIII)V"⟩
abbrev cX12_keepNow : ByteArray := prog_14_method_32_code
def yX12_keepNow : MethodName := ⟨RX12, "keepNow", "()V"⟩
abbrev cX12_back : ByteArray := prog_14_method_33_code
def yX12_back : MethodName := ⟨RX12, "back", "(I)I"⟩
abbrev cX12_goDays : ByteArray := prog_14_method_34_code
def yX12_goDays : MethodName := ⟨RX12, "goDays", "()V"⟩
abbrev cX12_refusal : ByteArray := prog_14_method_35_code
def yX12_refusal : MethodName := ⟨RX12, "refusal", "()I"⟩
abbrev cX12_judge : ByteArray := prog_14_method_36_code
def yX12_judge : MethodName := ⟨RX12, "judge", "(I)I"⟩
abbrev cX12_ofPerson : ByteArray := prog_14_method_37_code
def yX12_ofPerson : MethodName := ⟨RX12, "ofPerson", "(II)I"⟩
abbrev cX12_behind : ByteArray := prog_14_method_38_code
def yX12_behind : MethodName := ⟨RX12, "behind", "(II)I"⟩
abbrev cX12_addPoint : ByteArray := prog_14_method_39_code
def yX12_addPoint : MethodName := ⟨RX12, "addPoint", "(III)V"⟩
abbrev cX12_layLineOf : ByteArray := prog_14_method_40_code
def yX12_layLineOf : MethodName := ⟨RX12, "layLineOf", "(I)V"⟩
abbrev cX12_layLine : ByteArray := prog_14_method_41_code
def yX12_layLine : MethodName := ⟨RX12, "layLine", "()V"⟩
abbrev cX12_turn : ByteArray := prog_14_method_42_code
def yX12_turn : MethodName := ⟨RX12, "turn", "(IIIIII)I"⟩
abbrev cX12_turnOf : ByteArray := prog_14_method_43_code
def yX12_turnOf : MethodName := ⟨RX12, "turnOf", "(III)I"⟩
abbrev cX12_isBetween : ByteArray := prog_14_method_44_code
def yX12_isBetween : MethodName := ⟨RX12, "isBetween", "(III)Z"⟩
abbrev cX12_isOn : ByteArray := prog_14_method_45_code
def yX12_isOn : MethodName := ⟨RX12, "isOn", "(III)Z"⟩
abbrev cX12_isNorthOf : ByteArray := prog_14_method_46_code
def yX12_isNorthOf : MethodName := ⟨RX12, "isNorthOf", "(III)Z"⟩
abbrev cX12_sideOf : ByteArray := prog_14_method_47_code
def yX12_sideOf : MethodName := ⟨RX12, "sideOf", "(II)I"⟩
abbrev cX12_southOf : ByteArray := prog_14_method_48_code
def yX12_southOf : MethodName := ⟨RX12, "southOf", "()I"⟩
abbrev cX12_signOf : ByteArray := prog_14_method_49_code
def yX12_signOf : MethodName := ⟨RX12, "signOf", "(I)I"⟩
abbrev cX12_haveCommon : ByteArray := prog_14_method_50_code
def yX12_haveCommon : MethodName := ⟨RX12, "haveCommon", "(II)Z"⟩
abbrev cX12_goesBack : ByteArray := prog_14_method_51_code
def yX12_goesBack : MethodName := ⟨RX12, "goesBack", "(I)Z"⟩
abbrev cX12_pinched : ByteArray := prog_14_method_52_code
def yX12_pinched : MethodName := ⟨RX12, "pinched", "()I"⟩
abbrev cX12_villagesOn : ByteArray := prog_14_method_53_code
def yX12_villagesOn : MethodName := ⟨RX12, "villagesOn", "(I)I"⟩
abbrev cX12_side : ByteArray := prog_14_method_54_code
def yX12_side : MethodName := ⟨RX12, "side", "(II)I"⟩
abbrev cX12_south : ByteArray := prog_14_method_55_code
def yX12_south : MethodName := ⟨RX12, "south", "(I)I"⟩
abbrev cX12_lies : ByteArray := prog_14_method_56_code
def yX12_lies : MethodName := ⟨RX12, "lies", "(I)I"⟩
abbrev cX12_done : ByteArray := prog_14_method_57_code
def yX12_done : MethodName := ⟨RX12, "done", "()I"⟩
abbrev cX12_put : ByteArray := prog_14_method_58_code
def yX12_put : MethodName := ⟨RX12, "put", "(III)V"⟩
abbrev cX12_trySway : ByteArray := prog_14_method_59_code
def yX12_trySway : MethodName := ⟨RX12, "trySway", "(IIII)V"⟩
abbrev cX12_sway : ByteArray := prog_14_method_60_code
def yX12_sway : MethodName := ⟨RX12, "sway", "(IIII)I"⟩
abbrev cX12_canStep : ByteArray := prog_14_method_61_code
def yX12_canStep : MethodName := ⟨RX12, "canStep", "(II)Z"⟩
abbrev cX12_southNow : ByteArray := prog_14_method_62_code
def yX12_southNow : MethodName := ⟨RX12, "southNow", "()I"⟩
abbrev cX12_southBy : ByteArray := prog_14_method_63_code
def yX12_southBy : MethodName := ⟨RX12, "southBy", "(II)I"⟩
abbrev cX12_unfair : ByteArray := prog_14_method_64_code
def yX12_unfair : MethodName := ⟨RX12, "unfair", "(I)I"⟩
abbrev cX12_fair : ByteArray := prog_14_method_65_code
def yX12_fair : MethodName := ⟨RX12, "fair", "(I)I"⟩
abbrev cX12_cedes : ByteArray := prog_14_method_66_code
def yX12_cedes : MethodName := ⟨RX12, "cedes", "(I)I"⟩
abbrev cX12_laySides : ByteArray := prog_14_method_67_code
def yX12_laySides : MethodName := ⟨RX12, "laySides", "()V"⟩
abbrev cX12_isSame : ByteArray := prog_14_method_68_code
def yX12_isSame : MethodName := ⟨RX12, "isSame", "(I)Z"⟩
abbrev cX12_waysOf : ByteArray := prog_14_method_69_code
def yX12_waysOf : MethodName := ⟨RX12, "waysOf", "(I)I"⟩
abbrev cX12_orders : ByteArray := prog_14_method_70_code
def yX12_orders : MethodName := ⟨RX12, "orders", "(I)I"⟩
abbrev cX12_seen : ByteArray := prog_14_method_71_code
def yX12_seen : MethodName := ⟨RX12, "seen", "(III)I"⟩
abbrev cX12_forget : ByteArray := prog_14_method_72_code
def yX12_forget : MethodName := ⟨RX12, "forget", "()I"⟩
abbrev cX12_isAsSeen : ByteArray := prog_14_method_73_code
def yX12_isAsSeen : MethodName := ⟨RX12, "isAsSeen", "()Z"⟩
abbrev cX12_lookAt : ByteArray := prog_14_method_74_code
def yX12_lookAt : MethodName := ⟨RX12, "lookAt", "(I)V"⟩
abbrev cX12_tryMoves : ByteArray := prog_14_method_75_code
def yX12_tryMoves : MethodName := ⟨RX12, "tryMoves", "(I)V"⟩
abbrev cX12_findMoves : ByteArray := prog_14_method_76_code
def yX12_findMoves : MethodName := ⟨RX12, "findMoves", "()V"⟩
abbrev cX12_moved : ByteArray := prog_14_method_77_code
def yX12_moved : MethodName := ⟨RX12, "moved", "(I)I"⟩
abbrev cX12_mostMoves : ByteArray := prog_14_method_78_code
def yX12_mostMoves : MethodName := ⟨RX12, "mostMoves", "(I)I"⟩
abbrev cX12_ask : ByteArray := prog_14_method_79_code
def yX12_ask : MethodName := ⟨RX12, "ask", "(I)I"⟩
abbrev cX12_northsBest : ByteArray := prog_14_method_80_code
def yX12_northsBest : MethodName := ⟨RX12, "northsBest", "()I"⟩
abbrev cX12_answered : ByteArray := prog_14_method_81_code
def yX12_answered : MethodName := ⟨RX12, "answered", "(I)I"⟩
abbrev cX12_crowns : ByteArray := prog_14_method_82_code
def yX12_crowns : MethodName := ⟨RX12, "crowns", "(I)I"⟩
abbrev cX12_lowest : ByteArray := prog_14_method_83_code
def yX12_lowest : MethodName := ⟨RX12, "lowest", "(JJI)J"⟩
abbrev cX12_strayOnce : ByteArray := prog_14_method_84_code
def yX12_strayOnce : MethodName := ⟨RX12, "strayOnce", "(II)V"⟩
abbrev cX12_goat : ByteArray := prog_14_method_85_code
def yX12_goat : MethodName := ⟨RX12, "goat", "(IIIII)J"⟩
abbrev cX12_year : ByteArray := prog_14_method_86_code
def yX12_year : MethodName := ⟨RX12, "year", "(III)I"⟩
abbrev cX12_pass : ByteArray := prog_14_method_87_code
def yX12_pass : MethodName := ⟨RX12, "pass", "(I)I"⟩
abbrev cX12_passRow : ByteArray := prog_14_method_88_code
def yX12_passRow : MethodName := ⟨RX12, "passRow", "([I)V"⟩
abbrev cX12_passAll : ByteArray := prog_14_method_89_code
def yX12_passAll : MethodName := ⟨RX12, "passAll", "()V"⟩
abbrev cX12_image : ByteArray := prog_14_method_90_code
def yX12_image : MethodName := ⟨RX12, "image", "(I)I"⟩
abbrev cX12_restore : ByteArray := prog_14_method_91_code
def yX12_restore : MethodName := ⟨RX12, "restore", "(I)I"⟩
abbrev cX12_toldOf : ByteArray := prog_14_method_92_code
def yX12_toldOf : MethodName := ⟨RX12, "toldOf", "(II)I"⟩
abbrev cX12_told : ByteArray := prog_14_method_93_code
def yX12_told : MethodName := ⟨RX12, "told", "(I)I"⟩
def RJ6 : String := "java/lang/Integer"
abbrev cJ6_bitCount_0f7a4 : ByteArray := prog_15_method_49_code
def yJ6_bitCount_0f7a4 : MethodName := ⟨RJ6, "bitCount", "(I)I"⟩
abbrev cJ6_signum_0f7a4 : ByteArray := prog_15_method_56_code
def yJ6_signum_0f7a4 : MethodName := ⟨RJ6, "signum", "(I)I"⟩
def RJ9 : String := "java/lang/Math"
abbrev cJ9_abs_0f7a4 : ByteArray := prog_16_method_59_code
def yJ9_abs_0f7a4 : MethodName := ⟨RJ9, "abs", "(I)I"⟩
abbrev cJ9_max_7cf53 : ByteArray := prog_16_method_65_code
def yJ9_max_7cf53 : MethodName := ⟨RJ9, "max", "(II)I"⟩
abbrev cJ9_min_7cf53 : ByteArray := prog_16_method_69_code
def yJ9_min_7cf53 : MethodName := ⟨RJ9, "min", "(II)I"⟩
def RJ10 : String := "java/lang/System"
def RL : String := "StandingLineLaw"
abbrev cL_law : ByteArray := code
def yL_law : MethodName := ⟨RL, "law", "([I)Z"⟩
abbrev vwCl : List vw_C := [(RX0, TX0, 4), (RX1, TX1, 8), (RX2, TX2, 4), (RX3, TX3, 3), (RX4, TX4, 3), (RX5, TX5, 2), (RX6, TX6, 4), (RX7, TX7, 4), (RX8, TX8, 3), (RX9, TX9, 3), (RX10, TX10, 1), (RX11, TX11, 10), (RX12, TX12, 43)]
