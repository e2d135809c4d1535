section
-- ===== PART A: goes FIRST, ahead of the names: the tables' words, and 'selects' of the private methods out of them =====
/-- a private method of a class that the tables say can be made, by its rows of tables_1 -/
def lw_okq (q : MethodName × Nat) : Prop := (q.1.cls ≠ "java/lang/invoke/MethodHandle" ∧ q.1.cls ≠ "java/lang/invoke/VarHandle") ∧ Cond.instantiable q.1.cls q.2 ∈ tables_1 ∧ Cond.privateMethod q.1 ∈ tables_1 ∧ Cond.instanceMethod q.1 ∈ tables_1
theorem lw_p0 : lw_okq (⟨"RoundSlack", "isOrder", "(I)Z"⟩, 19) := ⟨⟨by decide +kernel, by decide +kernel⟩, List.mem_of_getElem? (i := 17) (by decide +kernel), List.mem_of_getElem? (i := 473) (by decide +kernel), List.mem_of_getElem? (i := 474) (by decide +kernel)⟩
theorem lw_p1 : lw_okq (⟨"RoundSlack$Reader", "begin", "()V"⟩, 4) := ⟨⟨by decide +kernel, by decide +kernel⟩, List.mem_of_getElem? (i := 358) (by decide +kernel), List.mem_of_getElem? (i := 512) (by decide +kernel), List.mem_of_getElem? (i := 513) (by decide +kernel)⟩
theorem lw_p2 : lw_okq (⟨"RoundSlack$Reader", "readOrder", "([I)V"⟩, 4) := ⟨⟨by decide +kernel, by decide +kernel⟩, List.mem_of_getElem? (i := 358) (by decide +kernel), List.mem_of_getElem? (i := 516) (by decide +kernel), List.mem_of_getElem? (i := 517) (by decide +kernel)⟩
theorem lw_p3 : lw_okq (⟨"RoundSlack$Reader", "number", "(III)I"⟩, 4) := ⟨⟨by decide +kernel, by decide +kernel⟩, List.mem_of_getElem? (i := 358) (by decide +kernel), List.mem_of_getElem? (i := 520) (by decide +kernel), List.mem_of_getElem? (i := 521) (by decide +kernel)⟩
theorem lw_p4 : lw_okq (⟨"RoundSlack$Reader", "failAt", "(I)V"⟩, 4) := ⟨⟨by decide +kernel, by decide +kernel⟩, List.mem_of_getElem? (i := 358) (by decide +kernel), List.mem_of_getElem? (i := 531) (by decide +kernel), List.mem_of_getElem? (i := 532) (by decide +kernel)⟩
theorem lw_p5 : lw_okq (⟨"RoundSlack$Reader", "pass", "(I)V"⟩, 4) := ⟨⟨by decide +kernel, by decide +kernel⟩, List.mem_of_getElem? (i := 358) (by decide +kernel), List.mem_of_getElem? (i := 535) (by decide +kernel), List.mem_of_getElem? (i := 536) (by decide +kernel)⟩
theorem lw_p6 : lw_okq (⟨"RoundSlack$Reader", "sees", "(I)Z"⟩, 4) := ⟨⟨by decide +kernel, by decide +kernel⟩, List.mem_of_getElem? (i := 358) (by decide +kernel), List.mem_of_getElem? (i := 539) (by decide +kernel), List.mem_of_getElem? (i := 540) (by decide +kernel)⟩
theorem lw_p7 : lw_okq (⟨"RoundSlack$Reader", "readLoad", "(I)I"⟩, 4) := ⟨⟨by decide +kernel, by decide +kernel⟩, List.mem_of_getElem? (i := 358) (by decide +kernel), List.mem_of_getElem? (i := 543) (by decide +kernel), List.mem_of_getElem? (i := 544) (by decide +kernel)⟩
theorem lw_p8 : lw_okq (⟨"RoundSlack$Reader", "isAtEnd", "()Z"⟩, 4) := ⟨⟨by decide +kernel, by decide +kernel⟩, List.mem_of_getElem? (i := 358) (by decide +kernel), List.mem_of_getElem? (i := 547) (by decide +kernel), List.mem_of_getElem? (i := 548) (by decide +kernel)⟩
theorem lw_p9 : lw_okq (⟨"RoundSlack$Reader", "readRound", "(LRoundSlack$Rounds;II)V"⟩, 4) := ⟨⟨by decide +kernel, by decide +kernel⟩, List.mem_of_getElem? (i := 358) (by decide +kernel), List.mem_of_getElem? (i := 563) (by decide +kernel), List.mem_of_getElem? (i := 564) (by decide +kernel)⟩
theorem lw_p10 : lw_okq (⟨"RoundSlack$Judge", "costOfPart", "(I)I"⟩, 3) := ⟨⟨by decide +kernel, by decide +kernel⟩, List.mem_of_getElem? (i := 205) (by decide +kernel), List.mem_of_getElem? (i := 593) (by decide +kernel), List.mem_of_getElem? (i := 594) (by decide +kernel)⟩
theorem lw_p11 : lw_okq (⟨"RoundSlack", "isStopOrReturn", "(II)Z"⟩, 19) := ⟨⟨by decide +kernel, by decide +kernel⟩, List.mem_of_getElem? (i := 17) (by decide +kernel), List.mem_of_getElem? (i := 649) (by decide +kernel), List.mem_of_getElem? (i := 650) (by decide +kernel)⟩
theorem lw_p12 : lw_okq (⟨"RoundSlack$Moves", "lastPlaceFor", "(II)I"⟩, 12) := ⟨⟨by decide +kernel, by decide +kernel⟩, List.mem_of_getElem? (i := 250) (by decide +kernel), List.mem_of_getElem? (i := 740) (by decide +kernel), List.mem_of_getElem? (i := 741) (by decide +kernel)⟩
theorem lw_p13 : lw_okq (⟨"RoundSlack$Moves", "changes", "(IIII)Z"⟩, 12) := ⟨⟨by decide +kernel, by decide +kernel⟩, List.mem_of_getElem? (i := 250) (by decide +kernel), List.mem_of_getElem? (i := 754) (by decide +kernel), List.mem_of_getElem? (i := 755) (by decide +kernel)⟩
theorem lw_p14 : lw_okq (⟨"RoundSlack$Moves", "shape", "(IIII)V"⟩, 12) := ⟨⟨by decide +kernel, by decide +kernel⟩, List.mem_of_getElem? (i := 250) (by decide +kernel), List.mem_of_getElem? (i := 760) (by decide +kernel), List.mem_of_getElem? (i := 761) (by decide +kernel)⟩
theorem lw_p15 : lw_okq (⟨"RoundSlack$Moves", "crossTail", "(IIII)V"⟩, 12) := ⟨⟨by decide +kernel, by decide +kernel⟩, List.mem_of_getElem? (i := 250) (by decide +kernel), List.mem_of_getElem? (i := 766) (by decide +kernel), List.mem_of_getElem? (i := 767) (by decide +kernel)⟩
def lw_privs_1 : List (MethodName × Nat) := [(⟨"RoundSlack", "isOrder", "(I)Z"⟩, 19), (⟨"RoundSlack$Reader", "begin", "()V"⟩, 4), (⟨"RoundSlack$Reader", "readOrder", "([I)V"⟩, 4), (⟨"RoundSlack$Reader", "number", "(III)I"⟩, 4), (⟨"RoundSlack$Reader", "failAt", "(I)V"⟩, 4), (⟨"RoundSlack$Reader", "pass", "(I)V"⟩, 4), (⟨"RoundSlack$Reader", "sees", "(I)Z"⟩, 4), (⟨"RoundSlack$Reader", "readLoad", "(I)I"⟩, 4), (⟨"RoundSlack$Reader", "isAtEnd", "()Z"⟩, 4), (⟨"RoundSlack$Reader", "readRound", "(LRoundSlack$Rounds;II)V"⟩, 4), (⟨"RoundSlack$Judge", "costOfPart", "(I)I"⟩, 3), (⟨"RoundSlack", "isStopOrReturn", "(II)Z"⟩, 19), (⟨"RoundSlack$Moves", "lastPlaceFor", "(II)I"⟩, 12), (⟨"RoundSlack$Moves", "changes", "(IIII)Z"⟩, 12), (⟨"RoundSlack$Moves", "shape", "(IIII)V"⟩, 12), (⟨"RoundSlack$Moves", "crossTail", "(IIII)V"⟩, 12)]
theorem lw_r1 : ∀ q ∈ lw_privs_1, lw_okq q := List.forall_mem_cons.mpr ⟨lw_p0, List.forall_mem_cons.mpr ⟨lw_p1, List.forall_mem_cons.mpr ⟨lw_p2, List.forall_mem_cons.mpr ⟨lw_p3, List.forall_mem_cons.mpr ⟨lw_p4, List.forall_mem_cons.mpr ⟨lw_p5, List.forall_mem_cons.mpr ⟨lw_p6, List.forall_mem_cons.mpr ⟨lw_p7, List.forall_mem_cons.mpr ⟨lw_p8, List.forall_mem_cons.mpr ⟨lw_p9, List.forall_mem_cons.mpr ⟨lw_p10, List.forall_mem_cons.mpr ⟨lw_p11, List.forall_mem_cons.mpr ⟨lw_p12, List.forall_mem_cons.mpr ⟨lw_p13, List.forall_mem_cons.mpr ⟨lw_p14, List.forall_mem_cons.mpr ⟨lw_p15, fun _ h => absurd h List.not_mem_nil⟩⟩⟩⟩⟩⟩⟩⟩⟩⟩⟩⟩⟩⟩⟩⟩
theorem lw_p16 : lw_okq (⟨"RoundSlack$Moves", "mostC", "(III)I"⟩, 12) := ⟨⟨by decide +kernel, by decide +kernel⟩, List.mem_of_getElem? (i := 250) (by decide +kernel), List.mem_of_getElem? (i := 788) (by decide +kernel), List.mem_of_getElem? (i := 789) (by decide +kernel)⟩
theorem lw_p17 : lw_okq (⟨"RoundSlack$Moves", "note", "(III)V"⟩, 12) := ⟨⟨by decide +kernel, by decide +kernel⟩, List.mem_of_getElem? (i := 250) (by decide +kernel), List.mem_of_getElem? (i := 794) (by decide +kernel), List.mem_of_getElem? (i := 795) (by decide +kernel)⟩
theorem lw_p18 : lw_okq (⟨"RoundSlack$Filling", "cheapestVan", "()I"⟩, 9) := ⟨⟨by decide +kernel, by decide +kernel⟩, List.mem_of_getElem? (i := 302) (by decide +kernel), List.mem_of_getElem? (i := 845) (by decide +kernel), List.mem_of_getElem? (i := 846) (by decide +kernel)⟩
theorem lw_p19 : lw_okq (⟨"RoundSlack$Filling", "nearestTo", "(I)I"⟩, 9) := ⟨⟨by decide +kernel, by decide +kernel⟩, List.mem_of_getElem? (i := 302) (by decide +kernel), List.mem_of_getElem? (i := 868) (by decide +kernel), List.mem_of_getElem? (i := 869) (by decide +kernel)⟩
theorem lw_p20 : lw_okq (⟨"RoundSlack", "endsFourTimes", "(II)Z"⟩, 19) := ⟨⟨by decide +kernel, by decide +kernel⟩, List.mem_of_getElem? (i := 17) (by decide +kernel), List.mem_of_getElem? (i := 916) (by decide +kernel), List.mem_of_getElem? (i := 917) (by decide +kernel)⟩
theorem lw_p21 : lw_okq (⟨"RoundSlack", "thinkOfRow", "(II)Z"⟩, 19) := ⟨⟨by decide +kernel, by decide +kernel⟩, List.mem_of_getElem? (i := 17) (by decide +kernel), List.mem_of_getElem? (i := 920) (by decide +kernel), List.mem_of_getElem? (i := 921) (by decide +kernel)⟩
theorem lw_p22 : lw_okq (⟨"RoundSlackModel", "isEmpty", "()Z"⟩, 35) := ⟨⟨by decide +kernel, by decide +kernel⟩, List.mem_of_getElem? (i := 943) (by decide +kernel), List.mem_of_getElem? (i := 1062) (by decide +kernel), List.mem_of_getElem? (i := 1063) (by decide +kernel)⟩
theorem lw_p23 : lw_okq (⟨"RoundSlackModel", "stopsOf", "(I)I"⟩, 35) := ⟨⟨by decide +kernel, by decide +kernel⟩, List.mem_of_getElem? (i := 943) (by decide +kernel), List.mem_of_getElem? (i := 1066) (by decide +kernel), List.mem_of_getElem? (i := 1067) (by decide +kernel)⟩
theorem lw_p24 : lw_okq (⟨"RoundSlackModel", "forgets", "(I)I"⟩, 35) := ⟨⟨by decide +kernel, by decide +kernel⟩, List.mem_of_getElem? (i := 943) (by decide +kernel), List.mem_of_getElem? (i := 1070) (by decide +kernel), List.mem_of_getElem? (i := 1071) (by decide +kernel)⟩
theorem lw_p25 : lw_okq (⟨"RoundSlackModel", "adds", "(IIIIIII)V"⟩, 35) := ⟨⟨by decide +kernel, by decide +kernel⟩, List.mem_of_getElem? (i := 943) (by decide +kernel), List.mem_of_getElem? (i := 1078) (by decide +kernel), List.mem_of_getElem? (i := 1079) (by decide +kernel)⟩
theorem lw_p26 : lw_okq (⟨"RoundSlackModel", "isOrder", "(I)Z"⟩, 35) := ⟨⟨by decide +kernel, by decide +kernel⟩, List.mem_of_getElem? (i := 943) (by decide +kernel), List.mem_of_getElem? (i := 1086) (by decide +kernel), List.mem_of_getElem? (i := 1087) (by decide +kernel)⟩
theorem lw_p27 : lw_okq (⟨"RoundSlackModel", "isLeft", "(I)Z"⟩, 35) := ⟨⟨by decide +kernel, by decide +kernel⟩, List.mem_of_getElem? (i := 943) (by decide +kernel), List.mem_of_getElem? (i := 1090) (by decide +kernel), List.mem_of_getElem? (i := 1091) (by decide +kernel)⟩
theorem lw_p28 : lw_okq (⟨"RoundSlackModel", "vanOf", "(I)I"⟩, 35) := ⟨⟨by decide +kernel, by decide +kernel⟩, List.mem_of_getElem? (i := 943) (by decide +kernel), List.mem_of_getElem? (i := 1094) (by decide +kernel), List.mem_of_getElem? (i := 1095) (by decide +kernel)⟩
theorem lw_p29 : lw_okq (⟨"RoundSlackModel", "ofOrder", "(II)I"⟩, 35) := ⟨⟨by decide +kernel, by decide +kernel⟩, List.mem_of_getElem? (i := 943) (by decide +kernel), List.mem_of_getElem? (i := 1098) (by decide +kernel), List.mem_of_getElem? (i := 1099) (by decide +kernel)⟩
theorem lw_p30 : lw_okq (⟨"RoundSlackModel", "readsOrder", "(I)Z"⟩, 35) := ⟨⟨by decide +kernel, by decide +kernel⟩, List.mem_of_getElem? (i := 943) (by decide +kernel), List.mem_of_getElem? (i := 1125) (by decide +kernel), List.mem_of_getElem? (i := 1126) (by decide +kernel)⟩
theorem lw_p31 : lw_okq (⟨"RoundSlackModel", "readsNumber", "(III)Z"⟩, 35) := ⟨⟨by decide +kernel, by decide +kernel⟩, List.mem_of_getElem? (i := 943) (by decide +kernel), List.mem_of_getElem? (i := 1129) (by decide +kernel), List.mem_of_getElem? (i := 1130) (by decide +kernel)⟩
def lw_privs_2 : List (MethodName × Nat) := [(⟨"RoundSlack$Moves", "mostC", "(III)I"⟩, 12), (⟨"RoundSlack$Moves", "note", "(III)V"⟩, 12), (⟨"RoundSlack$Filling", "cheapestVan", "()I"⟩, 9), (⟨"RoundSlack$Filling", "nearestTo", "(I)I"⟩, 9), (⟨"RoundSlack", "endsFourTimes", "(II)Z"⟩, 19), (⟨"RoundSlack", "thinkOfRow", "(II)Z"⟩, 19), (⟨"RoundSlackModel", "isEmpty", "()Z"⟩, 35), (⟨"RoundSlackModel", "stopsOf", "(I)I"⟩, 35), (⟨"RoundSlackModel", "forgets", "(I)I"⟩, 35), (⟨"RoundSlackModel", "adds", "(IIIIIII)V"⟩, 35), (⟨"RoundSlackModel", "isOrder", "(I)Z"⟩, 35), (⟨"RoundSlackModel", "isLeft", "(I)Z"⟩, 35), (⟨"RoundSlackModel", "vanOf", "(I)I"⟩, 35), (⟨"RoundSlackModel", "ofOrder", "(II)I"⟩, 35), (⟨"RoundSlackModel", "readsOrder", "(I)Z"⟩, 35), (⟨"RoundSlackModel", "readsNumber", "(III)Z"⟩, 35)]
theorem lw_r2 : ∀ q ∈ lw_privs_2, lw_okq q := List.forall_mem_cons.mpr ⟨lw_p16, List.forall_mem_cons.mpr ⟨lw_p17, List.forall_mem_cons.mpr ⟨lw_p18, List.forall_mem_cons.mpr ⟨lw_p19, List.forall_mem_cons.mpr ⟨lw_p20, List.forall_mem_cons.mpr ⟨lw_p21, List.forall_mem_cons.mpr ⟨lw_p22, List.forall_mem_cons.mpr ⟨lw_p23, List.forall_mem_cons.mpr ⟨lw_p24, List.forall_mem_cons.mpr ⟨lw_p25, List.forall_mem_cons.mpr ⟨lw_p26, List.forall_mem_cons.mpr ⟨lw_p27, List.forall_mem_cons.mpr ⟨lw_p28, List.forall_mem_cons.mpr ⟨lw_p29, List.forall_mem_cons.mpr ⟨lw_p30, List.forall_mem_cons.mpr ⟨lw_p31, fun _ h => absurd h List.not_mem_nil⟩⟩⟩⟩⟩⟩⟩⟩⟩⟩⟩⟩⟩⟩⟩⟩
theorem lw_p32 : lw_okq (⟨"RoundSlackModel", "number", "(III)I"⟩, 35) := ⟨⟨by decide +kernel, by decide +kernel⟩, List.mem_of_getElem? (i := 943) (by decide +kernel), List.mem_of_getElem? (i := 1133) (by decide +kernel), List.mem_of_getElem? (i := 1134) (by decide +kernel)⟩
theorem lw_p33 : lw_okq (⟨"RoundSlackModel", "here", "()I"⟩, 35) := ⟨⟨by decide +kernel, by decide +kernel⟩, List.mem_of_getElem? (i := 943) (by decide +kernel), List.mem_of_getElem? (i := 1137) (by decide +kernel), List.mem_of_getElem? (i := 1138) (by decide +kernel)⟩
theorem lw_p34 : lw_okq (⟨"RoundSlackModel", "takesSign", "(I)Z"⟩, 35) := ⟨⟨by decide +kernel, by decide +kernel⟩, List.mem_of_getElem? (i := 943) (by decide +kernel), List.mem_of_getElem? (i := 1141) (by decide +kernel), List.mem_of_getElem? (i := 1142) (by decide +kernel)⟩
theorem lw_p35 : lw_okq (⟨"RoundSlackModel", "empties", "()V"⟩, 35) := ⟨⟨by decide +kernel, by decide +kernel⟩, List.mem_of_getElem? (i := 943) (by decide +kernel), List.mem_of_getElem? (i := 1149) (by decide +kernel), List.mem_of_getElem? (i := 1150) (by decide +kernel)⟩
theorem lw_p36 : lw_okq (⟨"RoundSlackModel", "readsVan", "(I)I"⟩, 35) := ⟨⟨by decide +kernel, by decide +kernel⟩, List.mem_of_getElem? (i := 943) (by decide +kernel), List.mem_of_getElem? (i := 1153) (by decide +kernel), List.mem_of_getElem? (i := 1154) (by decide +kernel)⟩
theorem lw_p37 : lw_okq (⟨"RoundSlackModel", "readsStop", "(I)Z"⟩, 35) := ⟨⟨by decide +kernel, by decide +kernel⟩, List.mem_of_getElem? (i := 943) (by decide +kernel), List.mem_of_getElem? (i := 1157) (by decide +kernel), List.mem_of_getElem? (i := 1158) (by decide +kernel)⟩
theorem lw_p38 : lw_okq (⟨"RoundSlackModel", "sizeOf", "([II)I"⟩, 35) := ⟨⟨by decide +kernel, by decide +kernel⟩, List.mem_of_getElem? (i := 943) (by decide +kernel), List.mem_of_getElem? (i := 1161) (by decide +kernel), List.mem_of_getElem? (i := 1162) (by decide +kernel)⟩
theorem lw_p39 : lw_okq (⟨"RoundSlackModel", "isGood", "([I)Z"⟩, 35) := ⟨⟨by decide +kernel, by decide +kernel⟩, List.mem_of_getElem? (i := 943) (by decide +kernel), List.mem_of_getElem? (i := 1168) (by decide +kernel), List.mem_of_getElem? (i := 1169) (by decide +kernel)⟩
theorem lw_p40 : lw_okq (⟨"RoundSlackModel", "isGoodOf", "([II)Z"⟩, 35) := ⟨⟨by decide +kernel, by decide +kernel⟩, List.mem_of_getElem? (i := 943) (by decide +kernel), List.mem_of_getElem? (i := 1172) (by decide +kernel), List.mem_of_getElem? (i := 1173) (by decide +kernel)⟩
theorem lw_p41 : lw_okq (⟨"RoundSlackModel", "wholeOf", "([II)V"⟩, 35) := ⟨⟨by decide +kernel, by decide +kernel⟩, List.mem_of_getElem? (i := 943) (by decide +kernel), List.mem_of_getElem? (i := 1176) (by decide +kernel), List.mem_of_getElem? (i := 1177) (by decide +kernel)⟩
theorem lw_p42 : lw_okq (⟨"RoundSlackModel", "nodesOf", "([IIII)V"⟩, 35) := ⟨⟨by decide +kernel, by decide +kernel⟩, List.mem_of_getElem? (i := 943) (by decide +kernel), List.mem_of_getElem? (i := 1180) (by decide +kernel), List.mem_of_getElem? (i := 1181) (by decide +kernel)⟩
theorem lw_p43 : lw_okq (⟨"RoundSlackModel", "at", "([III)I"⟩, 35) := ⟨⟨by decide +kernel, by decide +kernel⟩, List.mem_of_getElem? (i := 943) (by decide +kernel), List.mem_of_getElem? (i := 1184) (by decide +kernel), List.mem_of_getElem? (i := 1185) (by decide +kernel)⟩
theorem lw_p44 : lw_okq (⟨"RoundSlackModel", "openOf", "(II)I"⟩, 35) := ⟨⟨by decide +kernel, by decide +kernel⟩, List.mem_of_getElem? (i := 943) (by decide +kernel), List.mem_of_getElem? (i := 1188) (by decide +kernel), List.mem_of_getElem? (i := 1189) (by decide +kernel)⟩
theorem lw_p45 : lw_okq (⟨"RoundSlackModel", "drives", "(III)V"⟩, 35) := ⟨⟨by decide +kernel, by decide +kernel⟩, List.mem_of_getElem? (i := 943) (by decide +kernel), List.mem_of_getElem? (i := 1192) (by decide +kernel), List.mem_of_getElem? (i := 1193) (by decide +kernel)⟩
theorem lw_p46 : lw_okq (⟨"RoundSlackModel", "serviceOf", "(I)I"⟩, 35) := ⟨⟨by decide +kernel, by decide +kernel⟩, List.mem_of_getElem? (i := 943) (by decide +kernel), List.mem_of_getElem? (i := 1196) (by decide +kernel), List.mem_of_getElem? (i := 1197) (by decide +kernel)⟩
theorem lw_p47 : lw_okq (⟨"RoundSlackModel", "wayOf", "(II)I"⟩, 35) := ⟨⟨by decide +kernel, by decide +kernel⟩, List.mem_of_getElem? (i := 943) (by decide +kernel), List.mem_of_getElem? (i := 1200) (by decide +kernel), List.mem_of_getElem? (i := 1201) (by decide +kernel)⟩
def lw_privs_3 : List (MethodName × Nat) := [(⟨"RoundSlackModel", "number", "(III)I"⟩, 35), (⟨"RoundSlackModel", "here", "()I"⟩, 35), (⟨"RoundSlackModel", "takesSign", "(I)Z"⟩, 35), (⟨"RoundSlackModel", "empties", "()V"⟩, 35), (⟨"RoundSlackModel", "readsVan", "(I)I"⟩, 35), (⟨"RoundSlackModel", "readsStop", "(I)Z"⟩, 35), (⟨"RoundSlackModel", "sizeOf", "([II)I"⟩, 35), (⟨"RoundSlackModel", "isGood", "([I)Z"⟩, 35), (⟨"RoundSlackModel", "isGoodOf", "([II)Z"⟩, 35), (⟨"RoundSlackModel", "wholeOf", "([II)V"⟩, 35), (⟨"RoundSlackModel", "nodesOf", "([IIII)V"⟩, 35), (⟨"RoundSlackModel", "at", "([III)I"⟩, 35), (⟨"RoundSlackModel", "openOf", "(II)I"⟩, 35), (⟨"RoundSlackModel", "drives", "(III)V"⟩, 35), (⟨"RoundSlackModel", "serviceOf", "(I)I"⟩, 35), (⟨"RoundSlackModel", "wayOf", "(II)I"⟩, 35)]
theorem lw_r3 : ∀ q ∈ lw_privs_3, lw_okq q := List.forall_mem_cons.mpr ⟨lw_p32, List.forall_mem_cons.mpr ⟨lw_p33, List.forall_mem_cons.mpr ⟨lw_p34, List.forall_mem_cons.mpr ⟨lw_p35, List.forall_mem_cons.mpr ⟨lw_p36, List.forall_mem_cons.mpr ⟨lw_p37, List.forall_mem_cons.mpr ⟨lw_p38, List.forall_mem_cons.mpr ⟨lw_p39, List.forall_mem_cons.mpr ⟨lw_p40, List.forall_mem_cons.mpr ⟨lw_p41, List.forall_mem_cons.mpr ⟨lw_p42, List.forall_mem_cons.mpr ⟨lw_p43, List.forall_mem_cons.mpr ⟨lw_p44, List.forall_mem_cons.mpr ⟨lw_p45, List.forall_mem_cons.mpr ⟨lw_p46, List.forall_mem_cons.mpr ⟨lw_p47, fun _ h => absurd h List.not_mem_nil⟩⟩⟩⟩⟩⟩⟩⟩⟩⟩⟩⟩⟩⟩⟩⟩
theorem lw_p48 : lw_okq (⟨"RoundSlackModel", "closeOf", "(II)I"⟩, 35) := ⟨⟨by decide +kernel, by decide +kernel⟩, List.mem_of_getElem? (i := 943) (by decide +kernel), List.mem_of_getElem? (i := 1206) (by decide +kernel), List.mem_of_getElem? (i := 1207) (by decide +kernel)⟩
theorem lw_p49 : lw_okq (⟨"RoundSlackModel", "topOf", "()I"⟩, 35) := ⟨⟨by decide +kernel, by decide +kernel⟩, List.mem_of_getElem? (i := 943) (by decide +kernel), List.mem_of_getElem? (i := 1210) (by decide +kernel), List.mem_of_getElem? (i := 1211) (by decide +kernel)⟩
theorem lw_p50 : lw_okq (⟨"RoundSlackModel", "sumOf", "(I)I"⟩, 35) := ⟨⟨by decide +kernel, by decide +kernel⟩, List.mem_of_getElem? (i := 943) (by decide +kernel), List.mem_of_getElem? (i := 1214) (by decide +kernel), List.mem_of_getElem? (i := 1215) (by decide +kernel)⟩
theorem lw_p51 : lw_okq (⟨"RoundSlackModel", "becomes", "()V"⟩, 35) := ⟨⟨by decide +kernel, by decide +kernel⟩, List.mem_of_getElem? (i := 943) (by decide +kernel), List.mem_of_getElem? (i := 1218) (by decide +kernel), List.mem_of_getElem? (i := 1219) (by decide +kernel)⟩
theorem lw_p52 : lw_okq (⟨"RoundSlackModel", "stopsIn", "()I"⟩, 35) := ⟨⟨by decide +kernel, by decide +kernel⟩, List.mem_of_getElem? (i := 943) (by decide +kernel), List.mem_of_getElem? (i := 1222) (by decide +kernel), List.mem_of_getElem? (i := 1223) (by decide +kernel)⟩
theorem lw_p53 : lw_okq (⟨"RoundSlackModel", "writes", "(I)V"⟩, 35) := ⟨⟨by decide +kernel, by decide +kernel⟩, List.mem_of_getElem? (i := 943) (by decide +kernel), List.mem_of_getElem? (i := 1230) (by decide +kernel), List.mem_of_getElem? (i := 1231) (by decide +kernel)⟩
theorem lw_p54 : lw_okq (⟨"RoundSlackModel", "placeOf", "(I)I"⟩, 35) := ⟨⟨by decide +kernel, by decide +kernel⟩, List.mem_of_getElem? (i := 943) (by decide +kernel), List.mem_of_getElem? (i := 1246) (by decide +kernel), List.mem_of_getElem? (i := 1247) (by decide +kernel)⟩
theorem lw_p55 : lw_okq (⟨"RoundSlackModel", "isStop", "(II)Z"⟩, 35) := ⟨⟨by decide +kernel, by decide +kernel⟩, List.mem_of_getElem? (i := 943) (by decide +kernel), List.mem_of_getElem? (i := 1262) (by decide +kernel), List.mem_of_getElem? (i := 1263) (by decide +kernel)⟩
theorem lw_p56 : lw_okq (⟨"RoundSlackModel", "drivesTo", "(II)V"⟩, 35) := ⟨⟨by decide +kernel, by decide +kernel⟩, List.mem_of_getElem? (i := 943) (by decide +kernel), List.mem_of_getElem? (i := 1266) (by decide +kernel), List.mem_of_getElem? (i := 1267) (by decide +kernel)⟩
theorem lw_p57 : lw_okq (⟨"RoundSlackModel", "looks", "()V"⟩, 35) := ⟨⟨by decide +kernel, by decide +kernel⟩, List.mem_of_getElem? (i := 943) (by decide +kernel), List.mem_of_getElem? (i := 1270) (by decide +kernel), List.mem_of_getElem? (i := 1271) (by decide +kernel)⟩
theorem lw_p58 : lw_okq (⟨"RoundSlackModel", "loadBehind", "(II)I"⟩, 35) := ⟨⟨by decide +kernel, by decide +kernel⟩, List.mem_of_getElem? (i := 943) (by decide +kernel), List.mem_of_getElem? (i := 1274) (by decide +kernel), List.mem_of_getElem? (i := 1275) (by decide +kernel)⟩
theorem lw_p59 : lw_okq (⟨"RoundSlackModel", "latestOf", "(II)I"⟩, 35) := ⟨⟨by decide +kernel, by decide +kernel⟩, List.mem_of_getElem? (i := 943) (by decide +kernel), List.mem_of_getElem? (i := 1282) (by decide +kernel), List.mem_of_getElem? (i := 1283) (by decide +kernel)⟩
theorem lw_p60 : lw_okq (⟨"RoundSlackModel", "toldOf", "(II)I"⟩, 35) := ⟨⟨by decide +kernel, by decide +kernel⟩, List.mem_of_getElem? (i := 943) (by decide +kernel), List.mem_of_getElem? (i := 1295) (by decide +kernel), List.mem_of_getElem? (i := 1296) (by decide +kernel)⟩
theorem lw_p61 : lw_okq (⟨"RoundSlackModel", "driveOf", "()I"⟩, 35) := ⟨⟨by decide +kernel, by decide +kernel⟩, List.mem_of_getElem? (i := 943) (by decide +kernel), List.mem_of_getElem? (i := 1299) (by decide +kernel), List.mem_of_getElem? (i := 1300) (by decide +kernel)⟩
theorem lw_p62 : lw_okq (⟨"RoundSlackModel", "hoursOf", "(II)I"⟩, 35) := ⟨⟨by decide +kernel, by decide +kernel⟩, List.mem_of_getElem? (i := 943) (by decide +kernel), List.mem_of_getElem? (i := 1303) (by decide +kernel), List.mem_of_getElem? (i := 1304) (by decide +kernel)⟩
theorem lw_p63 : lw_okq (⟨"RoundSlackModel", "costOf", "([I)I"⟩, 35) := ⟨⟨by decide +kernel, by decide +kernel⟩, List.mem_of_getElem? (i := 943) (by decide +kernel), List.mem_of_getElem? (i := 1315) (by decide +kernel), List.mem_of_getElem? (i := 1316) (by decide +kernel)⟩
def lw_privs_4 : List (MethodName × Nat) := [(⟨"RoundSlackModel", "closeOf", "(II)I"⟩, 35), (⟨"RoundSlackModel", "topOf", "()I"⟩, 35), (⟨"RoundSlackModel", "sumOf", "(I)I"⟩, 35), (⟨"RoundSlackModel", "becomes", "()V"⟩, 35), (⟨"RoundSlackModel", "stopsIn", "()I"⟩, 35), (⟨"RoundSlackModel", "writes", "(I)V"⟩, 35), (⟨"RoundSlackModel", "placeOf", "(I)I"⟩, 35), (⟨"RoundSlackModel", "isStop", "(II)Z"⟩, 35), (⟨"RoundSlackModel", "drivesTo", "(II)V"⟩, 35), (⟨"RoundSlackModel", "looks", "()V"⟩, 35), (⟨"RoundSlackModel", "loadBehind", "(II)I"⟩, 35), (⟨"RoundSlackModel", "latestOf", "(II)I"⟩, 35), (⟨"RoundSlackModel", "toldOf", "(II)I"⟩, 35), (⟨"RoundSlackModel", "driveOf", "()I"⟩, 35), (⟨"RoundSlackModel", "hoursOf", "(II)I"⟩, 35), (⟨"RoundSlackModel", "costOf", "([I)I"⟩, 35)]
theorem lw_r4 : ∀ q ∈ lw_privs_4, lw_okq q := List.forall_mem_cons.mpr ⟨lw_p48, List.forall_mem_cons.mpr ⟨lw_p49, List.forall_mem_cons.mpr ⟨lw_p50, List.forall_mem_cons.mpr ⟨lw_p51, List.forall_mem_cons.mpr ⟨lw_p52, List.forall_mem_cons.mpr ⟨lw_p53, List.forall_mem_cons.mpr ⟨lw_p54, List.forall_mem_cons.mpr ⟨lw_p55, List.forall_mem_cons.mpr ⟨lw_p56, List.forall_mem_cons.mpr ⟨lw_p57, List.forall_mem_cons.mpr ⟨lw_p58, List.forall_mem_cons.mpr ⟨lw_p59, List.forall_mem_cons.mpr ⟨lw_p60, List.forall_mem_cons.mpr ⟨lw_p61, List.forall_mem_cons.mpr ⟨lw_p62, List.forall_mem_cons.mpr ⟨lw_p63, fun _ h => absurd h List.not_mem_nil⟩⟩⟩⟩⟩⟩⟩⟩⟩⟩⟩⟩⟩⟩⟩⟩
theorem lw_p64 : lw_okq (⟨"RoundSlackModel", "costOfVan", "([II)I"⟩, 35) := ⟨⟨by decide +kernel, by decide +kernel⟩, List.mem_of_getElem? (i := 943) (by decide +kernel), List.mem_of_getElem? (i := 1319) (by decide +kernel), List.mem_of_getElem? (i := 1320) (by decide +kernel)⟩
theorem lw_p65 : lw_okq (⟨"RoundSlackModel", "isPut", "(III)Z"⟩, 35) := ⟨⟨by decide +kernel, by decide +kernel⟩, List.mem_of_getElem? (i := 943) (by decide +kernel), List.mem_of_getElem? (i := 1335) (by decide +kernel), List.mem_of_getElem? (i := 1336) (by decide +kernel)⟩
theorem lw_p66 : lw_okq (⟨"RoundSlackModel", "isGoodWith", "(III)Z"⟩, 35) := ⟨⟨by decide +kernel, by decide +kernel⟩, List.mem_of_getElem? (i := 943) (by decide +kernel), List.mem_of_getElem? (i := 1339) (by decide +kernel), List.mem_of_getElem? (i := 1340) (by decide +kernel)⟩
theorem lw_p67 : lw_okq (⟨"RoundSlackModel", "tries", "()V"⟩, 35) := ⟨⟨by decide +kernel, by decide +kernel⟩, List.mem_of_getElem? (i := 943) (by decide +kernel), List.mem_of_getElem? (i := 1343) (by decide +kernel), List.mem_of_getElem? (i := 1344) (by decide +kernel)⟩
theorem lw_p68 : lw_okq (⟨"RoundSlackModel", "marks", "()V"⟩, 35) := ⟨⟨by decide +kernel, by decide +kernel⟩, List.mem_of_getElem? (i := 943) (by decide +kernel), List.mem_of_getElem? (i := 1347) (by decide +kernel), List.mem_of_getElem? (i := 1348) (by decide +kernel)⟩
theorem lw_p69 : lw_okq (⟨"RoundSlackModel", "steps", "()V"⟩, 35) := ⟨⟨by decide +kernel, by decide +kernel⟩, List.mem_of_getElem? (i := 943) (by decide +kernel), List.mem_of_getElem? (i := 1351) (by decide +kernel), List.mem_of_getElem? (i := 1352) (by decide +kernel)⟩
theorem lw_p70 : lw_okq (⟨"RoundSlackModel", "moreBy", "(I)I"⟩, 35) := ⟨⟨by decide +kernel, by decide +kernel⟩, List.mem_of_getElem? (i := 943) (by decide +kernel), List.mem_of_getElem? (i := 1359) (by decide +kernel), List.mem_of_getElem? (i := 1360) (by decide +kernel)⟩
theorem lw_p71 : lw_okq (⟨"RoundSlackModel", "isMove", "(IIII)Z"⟩, 35) := ⟨⟨by decide +kernel, by decide +kernel⟩, List.mem_of_getElem? (i := 943) (by decide +kernel), List.mem_of_getElem? (i := 1375) (by decide +kernel), List.mem_of_getElem? (i := 1376) (by decide +kernel)⟩
theorem lw_p72 : lw_okq (⟨"RoundSlackModel", "isInRound", "(I)Z"⟩, 35) := ⟨⟨by decide +kernel, by decide +kernel⟩, List.mem_of_getElem? (i := 943) (by decide +kernel), List.mem_of_getElem? (i := 1379) (by decide +kernel), List.mem_of_getElem? (i := 1380) (by decide +kernel)⟩
theorem lw_p73 : lw_okq (⟨"RoundSlackModel", "mayBe", "(IIII)Z"⟩, 35) := ⟨⟨by decide +kernel, by decide +kernel⟩, List.mem_of_getElem? (i := 943) (by decide +kernel), List.mem_of_getElem? (i := 1383) (by decide +kernel), List.mem_of_getElem? (i := 1384) (by decide +kernel)⟩
theorem lw_p74 : lw_okq (⟨"RoundSlackModel", "makes", "(IIII)V"⟩, 35) := ⟨⟨by decide +kernel, by decide +kernel⟩, List.mem_of_getElem? (i := 943) (by decide +kernel), List.mem_of_getElem? (i := 1387) (by decide +kernel), List.mem_of_getElem? (i := 1388) (by decide +kernel)⟩
theorem lw_p75 : lw_okq (⟨"RoundSlackModel", "crosses", "(IIII)V"⟩, 35) := ⟨⟨by decide +kernel, by decide +kernel⟩, List.mem_of_getElem? (i := 943) (by decide +kernel), List.mem_of_getElem? (i := 1391) (by decide +kernel), List.mem_of_getElem? (i := 1392) (by decide +kernel)⟩
theorem lw_p76 : lw_okq (⟨"RoundSlackModel", "turns", "(III)V"⟩, 35) := ⟨⟨by decide +kernel, by decide +kernel⟩, List.mem_of_getElem? (i := 943) (by decide +kernel), List.mem_of_getElem? (i := 1395) (by decide +kernel), List.mem_of_getElem? (i := 1396) (by decide +kernel)⟩
theorem lw_p77 : lw_okq (⟨"RoundSlackModel", "isOtherwise", "()Z"⟩, 35) := ⟨⟨by decide +kernel, by decide +kernel⟩, List.mem_of_getElem? (i := 943) (by decide +kernel), List.mem_of_getElem? (i := 1399) (by decide +kernel), List.mem_of_getElem? (i := 1400) (by decide +kernel)⟩
theorem lw_p78 : lw_okq (⟨"RoundSlackModel", "gained", "()I"⟩, 35) := ⟨⟨by decide +kernel, by decide +kernel⟩, List.mem_of_getElem? (i := 943) (by decide +kernel), List.mem_of_getElem? (i := 1407) (by decide +kernel), List.mem_of_getElem? (i := 1408) (by decide +kernel)⟩
theorem lw_p79 : lw_okq (⟨"RoundSlackModel", "goesOver", "(I)V"⟩, 35) := ⟨⟨by decide +kernel, by decide +kernel⟩, List.mem_of_getElem? (i := 943) (by decide +kernel), List.mem_of_getElem? (i := 1419) (by decide +kernel), List.mem_of_getElem? (i := 1420) (by decide +kernel)⟩
def lw_privs_5 : List (MethodName × Nat) := [(⟨"RoundSlackModel", "costOfVan", "([II)I"⟩, 35), (⟨"RoundSlackModel", "isPut", "(III)Z"⟩, 35), (⟨"RoundSlackModel", "isGoodWith", "(III)Z"⟩, 35), (⟨"RoundSlackModel", "tries", "()V"⟩, 35), (⟨"RoundSlackModel", "marks", "()V"⟩, 35), (⟨"RoundSlackModel", "steps", "()V"⟩, 35), (⟨"RoundSlackModel", "moreBy", "(I)I"⟩, 35), (⟨"RoundSlackModel", "isMove", "(IIII)Z"⟩, 35), (⟨"RoundSlackModel", "isInRound", "(I)Z"⟩, 35), (⟨"RoundSlackModel", "mayBe", "(IIII)Z"⟩, 35), (⟨"RoundSlackModel", "makes", "(IIII)V"⟩, 35), (⟨"RoundSlackModel", "crosses", "(IIII)V"⟩, 35), (⟨"RoundSlackModel", "turns", "(III)V"⟩, 35), (⟨"RoundSlackModel", "isOtherwise", "()Z"⟩, 35), (⟨"RoundSlackModel", "gained", "()I"⟩, 35), (⟨"RoundSlackModel", "goesOver", "(I)V"⟩, 35)]
theorem lw_r5 : ∀ q ∈ lw_privs_5, lw_okq q := List.forall_mem_cons.mpr ⟨lw_p64, List.forall_mem_cons.mpr ⟨lw_p65, List.forall_mem_cons.mpr ⟨lw_p66, List.forall_mem_cons.mpr ⟨lw_p67, List.forall_mem_cons.mpr ⟨lw_p68, List.forall_mem_cons.mpr ⟨lw_p69, List.forall_mem_cons.mpr ⟨lw_p70, List.forall_mem_cons.mpr ⟨lw_p71, List.forall_mem_cons.mpr ⟨lw_p72, List.forall_mem_cons.mpr ⟨lw_p73, List.forall_mem_cons.mpr ⟨lw_p74, List.forall_mem_cons.mpr ⟨lw_p75, List.forall_mem_cons.mpr ⟨lw_p76, List.forall_mem_cons.mpr ⟨lw_p77, List.forall_mem_cons.mpr ⟨lw_p78, List.forall_mem_cons.mpr ⟨lw_p79, fun _ h => absurd h List.not_mem_nil⟩⟩⟩⟩⟩⟩⟩⟩⟩⟩⟩⟩⟩⟩⟩⟩
theorem lw_p80 : lw_okq (⟨"RoundSlackModel", "goesBy", "(IIII)V"⟩, 35) := ⟨⟨by decide +kernel, by decide +kernel⟩, List.mem_of_getElem? (i := 943) (by decide +kernel), List.mem_of_getElem? (i := 1423) (by decide +kernel), List.mem_of_getElem? (i := 1424) (by decide +kernel)⟩
theorem lw_p81 : lw_okq (⟨"RoundSlackModel", "descends", "(I)I"⟩, 35) := ⟨⟨by decide +kernel, by decide +kernel⟩, List.mem_of_getElem? (i := 943) (by decide +kernel), List.mem_of_getElem? (i := 1435) (by decide +kernel), List.mem_of_getElem? (i := 1436) (by decide +kernel)⟩
theorem lw_p82 : lw_okq (⟨"RoundSlackModel", "prices", "(II)V"⟩, 35) := ⟨⟨by decide +kernel, by decide +kernel⟩, List.mem_of_getElem? (i := 943) (by decide +kernel), List.mem_of_getElem? (i := 1443) (by decide +kernel), List.mem_of_getElem? (i := 1444) (by decide +kernel)⟩
theorem lw_p83 : lw_okq (⟨"RoundSlackModel", "regretOf", "(II)I"⟩, 35) := ⟨⟨by decide +kernel, by decide +kernel⟩, List.mem_of_getElem? (i := 943) (by decide +kernel), List.mem_of_getElem? (i := 1456) (by decide +kernel), List.mem_of_getElem? (i := 1457) (by decide +kernel)⟩
theorem lw_p84 : lw_okq (⟨"RoundSlackModel", "sorts", "(I)V"⟩, 35) := ⟨⟨by decide +kernel, by decide +kernel⟩, List.mem_of_getElem? (i := 943) (by decide +kernel), List.mem_of_getElem? (i := 1460) (by decide +kernel), List.mem_of_getElem? (i := 1461) (by decide +kernel)⟩
theorem lw_p85 : lw_okq (⟨"RoundSlackModel", "firstOf", "(I)I"⟩, 35) := ⟨⟨by decide +kernel, by decide +kernel⟩, List.mem_of_getElem? (i := 943) (by decide +kernel), List.mem_of_getElem? (i := 1468) (by decide +kernel), List.mem_of_getElem? (i := 1469) (by decide +kernel)⟩
theorem lw_p86 : lw_okq (⟨"RoundSlackModel", "fills", "(I)I"⟩, 35) := ⟨⟨by decide +kernel, by decide +kernel⟩, List.mem_of_getElem? (i := 943) (by decide +kernel), List.mem_of_getElem? (i := 1476) (by decide +kernel), List.mem_of_getElem? (i := 1477) (by decide +kernel)⟩
theorem lw_p87 : lw_okq (⟨"RoundSlackModel", "ruins", "(II)I"⟩, 35) := ⟨⟨by decide +kernel, by decide +kernel⟩, List.mem_of_getElem? (i := 943) (by decide +kernel), List.mem_of_getElem? (i := 1484) (by decide +kernel), List.mem_of_getElem? (i := 1485) (by decide +kernel)⟩
theorem lw_p88 : lw_okq (⟨"RoundSlackModel", "nearest", "(I)I"⟩, 35) := ⟨⟨by decide +kernel, by decide +kernel⟩, List.mem_of_getElem? (i := 943) (by decide +kernel), List.mem_of_getElem? (i := 1488) (by decide +kernel), List.mem_of_getElem? (i := 1489) (by decide +kernel)⟩
theorem lw_p89 : lw_okq (⟨"RoundSlackModel", "marksBack", "()V"⟩, 35) := ⟨⟨by decide +kernel, by decide +kernel⟩, List.mem_of_getElem? (i := 943) (by decide +kernel), List.mem_of_getElem? (i := 1497) (by decide +kernel), List.mem_of_getElem? (i := 1498) (by decide +kernel)⟩
theorem lw_p90 : lw_okq (⟨"RoundSlackModel", "leftMany", "()I"⟩, 35) := ⟨⟨by decide +kernel, by decide +kernel⟩, List.mem_of_getElem? (i := 943) (by decide +kernel), List.mem_of_getElem? (i := 1505) (by decide +kernel), List.mem_of_getElem? (i := 1506) (by decide +kernel)⟩
theorem lw_p91 : lw_okq (⟨"RoundSlackModel", "toldPlaces", "(II)I"⟩, 35) := ⟨⟨by decide +kernel, by decide +kernel⟩, List.mem_of_getElem? (i := 943) (by decide +kernel), List.mem_of_getElem? (i := 1532) (by decide +kernel), List.mem_of_getElem? (i := 1533) (by decide +kernel)⟩
def lw_privs_6 : List (MethodName × Nat) := [(⟨"RoundSlackModel", "goesBy", "(IIII)V"⟩, 35), (⟨"RoundSlackModel", "descends", "(I)I"⟩, 35), (⟨"RoundSlackModel", "prices", "(II)V"⟩, 35), (⟨"RoundSlackModel", "regretOf", "(II)I"⟩, 35), (⟨"RoundSlackModel", "sorts", "(I)V"⟩, 35), (⟨"RoundSlackModel", "firstOf", "(I)I"⟩, 35), (⟨"RoundSlackModel", "fills", "(I)I"⟩, 35), (⟨"RoundSlackModel", "ruins", "(II)I"⟩, 35), (⟨"RoundSlackModel", "nearest", "(I)I"⟩, 35), (⟨"RoundSlackModel", "marksBack", "()V"⟩, 35), (⟨"RoundSlackModel", "leftMany", "()I"⟩, 35), (⟨"RoundSlackModel", "toldPlaces", "(II)I"⟩, 35)]
theorem lw_r6 : ∀ q ∈ lw_privs_6, lw_okq q := List.forall_mem_cons.mpr ⟨lw_p80, List.forall_mem_cons.mpr ⟨lw_p81, List.forall_mem_cons.mpr ⟨lw_p82, List.forall_mem_cons.mpr ⟨lw_p83, List.forall_mem_cons.mpr ⟨lw_p84, List.forall_mem_cons.mpr ⟨lw_p85, List.forall_mem_cons.mpr ⟨lw_p86, List.forall_mem_cons.mpr ⟨lw_p87, List.forall_mem_cons.mpr ⟨lw_p88, List.forall_mem_cons.mpr ⟨lw_p89, List.forall_mem_cons.mpr ⟨lw_p90, List.forall_mem_cons.mpr ⟨lw_p91, fun _ h => absurd h List.not_mem_nil⟩⟩⟩⟩⟩⟩⟩⟩⟩⟩⟩⟩
def lw_privs : List (MethodName × Nat) := lw_privs_1 ++ (lw_privs_2 ++ (lw_privs_3 ++ (lw_privs_4 ++ (lw_privs_5 ++ (lw_privs_6)))))
def lw_tbl : List Cond := k2_sels lw_privs ++ tables_1
theorem lw_privs_ok : ∀ q ∈ lw_privs, lw_okq q := by
  show ∀ q ∈ lw_privs_1 ++ (lw_privs_2 ++ (lw_privs_3 ++ (lw_privs_4 ++ (lw_privs_5 ++ (lw_privs_6))))), lw_okq q
  exact List.forall_mem_append.mpr ⟨lw_r1, List.forall_mem_append.mpr ⟨lw_r2, List.forall_mem_append.mpr ⟨lw_r3, List.forall_mem_append.mpr ⟨lw_r4, List.forall_mem_append.mpr ⟨lw_r5, lw_r6⟩⟩⟩⟩⟩
/-! classes, fields, types (out of claim/NAMES.whole.lean.txt) -/
def RX0 : String := "RoundSlack$Book"
def TX0 : u_T := fun k => match k with
  | 0 => ("RoundSlack$Book", "count", "I", false)
  | 1 => ("RoundSlack$Book", "x", "[I", true)
  | 2 => ("RoundSlack$Book", "y", "[I", true)
  | 3 => ("RoundSlack$Book", "open", "[I", true)
  | 4 => ("RoundSlack$Book", "close", "[I", true)
  | 5 => ("RoundSlack$Book", "service", "[I", true)
  | 6 => ("RoundSlack$Book", "down", "[I", true)
  | 7 => ("RoundSlack$Book", "up", "[I", true)
  | 8 => ("RoundSlack$Book", "penalty", "[I", true)
  | _ => ("RoundSlack$Book", "ways", "[[I", true)
def tyX0 : Nat → FieldType := fun k => match k with
  | 0 => .int
  | 1 => .array .int
  | 2 => .array .int
  | 3 => .array .int
  | 4 => .array .int
  | 5 => .array .int
  | 6 => .array .int
  | 7 => .array .int
  | 8 => .array .int
  | _ => .array (.array .int)
theorem nmX0 : ∀ a, a < 10 → ∀ b, b < 10 → a ≠ b → (TX0 a).2.1 ≠ (TX0 b).2.1 := by decide +kernel
theorem tyX0_ok : ∀ k, k < 10 → parseFieldDescriptor (TX0 k).2.2.1 = some (tyX0 k) := by decide +kernel
set_option maxRecDepth 20000 in
theorem inX0 : ∀ w ∈ u_ws RX0 TX0 10, w ∈ lw_tbl := fun w h => by
  have e : u_ws RX0 TX0 10 = ([160, 162, 164, 166, 168, 170, 172, 174, 176, 178] : List Nat).filterMap (fun i => lw_tbl[i]?) := by decide +kernel
  rw [e] at h
  obtain ⟨i, -, hi⟩ := List.mem_filterMap.mp h
  exact List.mem_of_getElem? hi
def RX1 : String := "RoundSlack$Drive"
def TX1 : u_T := fun k => match k with
  | 0 => ("RoundSlack$Drive", "book", "LRoundSlack$Book;", true)
  | 1 => ("RoundSlack$Drive", "fleet", "LRoundSlack$Fleet;", true)
  | 2 => ("RoundSlack$Drive", "comes", "I", false)
  | 3 => ("RoundSlack$Drive", "begins", "I", false)
  | 4 => ("RoundSlack$Drive", "leaves", "I", false)
  | _ => ("RoundSlack$Drive", "aboard", "I", false)
def tyX1 : Nat → FieldType := fun k => match k with
  | 0 => .object "RoundSlack$Book"
  | 1 => .object "RoundSlack$Fleet"
  | 2 => .int
  | 3 => .int
  | 4 => .int
  | _ => .int
theorem nmX1 : ∀ a, a < 6 → ∀ b, b < 6 → a ≠ b → (TX1 a).2.1 ≠ (TX1 b).2.1 := by decide +kernel
theorem tyX1_ok : ∀ k, k < 6 → parseFieldDescriptor (TX1 k).2.2.1 = some (tyX1 k) := by decide +kernel
set_option maxRecDepth 20000 in
theorem inX1 : ∀ w ∈ u_ws RX1 TX1 6, w ∈ lw_tbl := fun w h => by
  have e : u_ws RX1 TX1 6 = ([328, 330, 332, 334, 336, 338] : List Nat).filterMap (fun i => lw_tbl[i]?) := by decide +kernel
  rw [e] at h
  obtain ⟨i, -, hi⟩ := List.mem_filterMap.mp h
  exact List.mem_of_getElem? hi
def RX2 : String := "RoundSlack$Filling"
def TX2 : u_T := fun k => match k with
  | 0 => ("RoundSlack$Filling", "book", "LRoundSlack$Book;", true)
  | 1 => ("RoundSlack$Filling", "rounds", "LRoundSlack$Rounds;", true)
  | 2 => ("RoundSlack$Filling", "referee", "LRoundSlack$Judge;", true)
  | 3 => ("RoundSlack$Filling", "least", "[I", true)
  | 4 => ("RoundSlack$Filling", "place", "[I", true)
  | 5 => ("RoundSlack$Filling", "sorted", "[I", true)
  | 6 => ("RoundSlack$Filling", "chosen", "I", false)
  | 7 => ("RoundSlack$Filling", "chosenVan", "I", false)
  | _ => ("RoundSlack$Filling", "chosenPlace", "I", false)
def tyX2 : Nat → FieldType := fun k => match k with
  | 0 => .object "RoundSlack$Book"
  | 1 => .object "RoundSlack$Rounds"
  | 2 => .object "RoundSlack$Judge"
  | 3 => .array .int
  | 4 => .array .int
  | 5 => .array .int
  | 6 => .int
  | 7 => .int
  | _ => .int
theorem nmX2 : ∀ a, a < 9 → ∀ b, b < 9 → a ≠ b → (TX2 a).2.1 ≠ (TX2 b).2.1 := by decide +kernel
theorem tyX2_ok : ∀ k, k < 9 → parseFieldDescriptor (TX2 k).2.2.1 = some (tyX2 k) := by decide +kernel
set_option maxRecDepth 20000 in
theorem inX2 : ∀ w ∈ u_ws RX2 TX2 9, w ∈ lw_tbl := fun w h => by
  have e : u_ws RX2 TX2 9 = ([411, 413, 415, 417, 419, 421, 423, 425, 427] : List Nat).filterMap (fun i => lw_tbl[i]?) := by decide +kernel
  rw [e] at h
  obtain ⟨i, -, hi⟩ := List.mem_filterMap.mp h
  exact List.mem_of_getElem? hi
def RX3 : String := "RoundSlack$Fleet"
def TX3 : u_T := fun k => match k with
  | 0 => ("RoundSlack$Fleet", "capacity", "[I", true)
  | 1 => ("RoundSlack$Fleet", "start", "[I", true)
  | 2 => ("RoundSlack$Fleet", "end", "[I", true)
  | _ => ("RoundSlack$Fleet", "prices", "[I", true)
def tyX3 : Nat → FieldType := fun k => match k with
  | 0 => .array .int
  | 1 => .array .int
  | 2 => .array .int
  | _ => .array .int
theorem nmX3 : ∀ a, a < 4 → ∀ b, b < 4 → a ≠ b → (TX3 a).2.1 ≠ (TX3 b).2.1 := by decide +kernel
theorem tyX3_ok : ∀ k, k < 4 → parseFieldDescriptor (TX3 k).2.2.1 = some (tyX3 k) := by decide +kernel
set_option maxRecDepth 20000 in
theorem inX3 : ∀ w ∈ u_ws RX3 TX3 4, w ∈ lw_tbl := fun w h => by
  have e : u_ws RX3 TX3 4 = ([202, 204, 206, 208] : List Nat).filterMap (fun i => lw_tbl[i]?) := by decide +kernel
  rw [e] at h
  obtain ⟨i, -, hi⟩ := List.mem_filterMap.mp h
  exact List.mem_of_getElem? hi
def RX4 : String := "RoundSlack$Judge"
def TX4 : u_T := fun k => match k with
  | 0 => ("RoundSlack$Judge", "book", "LRoundSlack$Book;", true)
  | 1 => ("RoundSlack$Judge", "fleet", "LRoundSlack$Fleet;", true)
  | _ => ("RoundSlack$Judge", "part", "LRoundSlack$Piece;", true)
def tyX4 : Nat → FieldType := fun k => match k with
  | 0 => .object "RoundSlack$Book"
  | 1 => .object "RoundSlack$Fleet"
  | _ => .object "RoundSlack$Piece"
theorem nmX4 : ∀ a, a < 3 → ∀ b, b < 3 → a ≠ b → (TX4 a).2.1 ≠ (TX4 b).2.1 := by decide +kernel
theorem tyX4_ok : ∀ k, k < 3 → parseFieldDescriptor (TX4 k).2.2.1 = some (tyX4 k) := by decide +kernel
set_option maxRecDepth 20000 in
theorem inX4 : ∀ w ∈ u_ws RX4 TX4 3, w ∈ lw_tbl := fun w h => by
  have e : u_ws RX4 TX4 3 = ([305, 307, 309] : List Nat).filterMap (fun i => lw_tbl[i]?) := by decide +kernel
  rw [e] at h
  obtain ⟨i, -, hi⟩ := List.mem_filterMap.mp h
  exact List.mem_of_getElem? hi
def RX5 : String := "RoundSlack$Moves"
def TX5 : u_T := fun k => match k with
  | 0 => ("RoundSlack$Moves", "rounds", "LRoundSlack$Rounds;", true)
  | 1 => ("RoundSlack$Moves", "referee", "LRoundSlack$Judge;", true)
  | 2 => ("RoundSlack$Moves", "costNow", "[I", true)
  | 3 => ("RoundSlack$Moves", "then", "LRoundSlack$Rounds;", true)
  | 4 => ("RoundSlack$Moves", "oneVan", "I", false)
  | 5 => ("RoundSlack$Moves", "otherVan", "I", false)
  | 6 => ("RoundSlack$Moves", "gained", "I", false)
  | 7 => ("RoundSlack$Moves", "fit", "I", false)
  | 8 => ("RoundSlack$Moves", "bestA", "I", false)
  | 9 => ("RoundSlack$Moves", "bestB", "I", false)
  | 10 => ("RoundSlack$Moves", "bestC", "I", false)
  | _ => ("RoundSlack$Moves", "bestGain", "I", false)
def tyX5 : Nat → FieldType := fun k => match k with
  | 0 => .object "RoundSlack$Rounds"
  | 1 => .object "RoundSlack$Judge"
  | 2 => .array .int
  | 3 => .object "RoundSlack$Rounds"
  | 4 => .int
  | 5 => .int
  | 6 => .int
  | 7 => .int
  | 8 => .int
  | 9 => .int
  | 10 => .int
  | _ => .int
theorem nmX5 : ∀ a, a < 12 → ∀ b, b < 12 → a ≠ b → (TX5 a).2.1 ≠ (TX5 b).2.1 := by decide +kernel
theorem tyX5_ok : ∀ k, k < 12 → parseFieldDescriptor (TX5 k).2.2.1 = some (tyX5 k) := by decide +kernel
set_option maxRecDepth 20000 in
theorem inX5 : ∀ w ∈ u_ws RX5 TX5 12, w ∈ lw_tbl := fun w h => by
  have e : u_ws RX5 TX5 12 = ([368, 370, 372, 374, 376, 378, 380, 382, 384, 386, 388, 390] : List Nat).filterMap (fun i => lw_tbl[i]?) := by decide +kernel
  rw [e] at h
  obtain ⟨i, -, hi⟩ := List.mem_filterMap.mp h
  exact List.mem_of_getElem? hi
def RX6 : String := "RoundSlack$Piece"
def TX6 : u_T := fun k => match k with
  | 0 => ("RoundSlack$Piece", "book", "LRoundSlack$Book;", true)
  | 1 => ("RoundSlack$Piece", "last", "I", false)
  | 2 => ("RoundSlack$Piece", "early", "I", false)
  | 3 => ("RoundSlack$Piece", "late", "I", false)
  | 4 => ("RoundSlack$Piece", "downs", "I", false)
  | 5 => ("RoundSlack$Piece", "ups", "I", false)
  | 6 => ("RoundSlack$Piece", "duration", "I", false)
  | 7 => ("RoundSlack$Piece", "length", "I", false)
  | 8 => ("RoundSlack$Piece", "top", "I", false)
  | _ => ("RoundSlack$Piece", "inTime", "Z", false)
def tyX6 : Nat → FieldType := fun k => match k with
  | 0 => .object "RoundSlack$Book"
  | 1 => .int
  | 2 => .int
  | 3 => .int
  | 4 => .int
  | 5 => .int
  | 6 => .int
  | 7 => .int
  | 8 => .int
  | _ => .boolean
theorem nmX6 : ∀ a, a < 10 → ∀ b, b < 10 → a ≠ b → (TX6 a).2.1 ≠ (TX6 b).2.1 := by decide +kernel
theorem tyX6_ok : ∀ k, k < 10 → parseFieldDescriptor (TX6 k).2.2.1 = some (tyX6 k) := by decide +kernel
set_option maxRecDepth 20000 in
theorem inX6 : ∀ w ∈ u_ws RX6 TX6 10, w ∈ lw_tbl := fun w h => by
  have e : u_ws RX6 TX6 10 = ([275, 277, 279, 281, 283, 285, 287, 289, 291, 293] : List Nat).filterMap (fun i => lw_tbl[i]?) := by decide +kernel
  rw [e] at h
  obtain ⟨i, -, hi⟩ := List.mem_filterMap.mp h
  exact List.mem_of_getElem? hi
def RX7 : String := "RoundSlack$Reader"
def TX7 : u_T := fun k => match k with
  | 0 => ("RoundSlack$Reader", "tape", "LRoundSlack$Text;", true)
  | 1 => ("RoundSlack$Reader", "at", "I", false)
  | 2 => ("RoundSlack$Reader", "fault", "I", false)
  | _ => ("RoundSlack$Reader", "parts", "[[I", true)
def tyX7 : Nat → FieldType := fun k => match k with
  | 0 => .object "RoundSlack$Text"
  | 1 => .int
  | 2 => .int
  | _ => .array (.array .int)
theorem nmX7 : ∀ a, a < 4 → ∀ b, b < 4 → a ≠ b → (TX7 a).2.1 ≠ (TX7 b).2.1 := by decide +kernel
theorem tyX7_ok : ∀ k, k < 4 → parseFieldDescriptor (TX7 k).2.2.1 = some (tyX7 k) := by decide +kernel
set_option maxRecDepth 20000 in
theorem inX7 : ∀ w ∈ u_ws RX7 TX7 4, w ∈ lw_tbl := fun w h => by
  have e : u_ws RX7 TX7 4 = ([461, 463, 465, 467] : List Nat).filterMap (fun i => lw_tbl[i]?) := by decide +kernel
  rw [e] at h
  obtain ⟨i, -, hi⟩ := List.mem_filterMap.mp h
  exact List.mem_of_getElem? hi
def RX8 : String := "RoundSlack$Rounds"
def TX8 : u_T := fun k => match k with
  | 0 => ("RoundSlack$Rounds", "size", "[I", true)
  | _ => ("RoundSlack$Rounds", "stop", "[[I", true)
def tyX8 : Nat → FieldType := fun k => match k with
  | 0 => .array .int
  | _ => .array (.array .int)
theorem nmX8 : ∀ a, a < 2 → ∀ b, b < 2 → a ≠ b → (TX8 a).2.1 ≠ (TX8 b).2.1 := by decide +kernel
theorem tyX8_ok : ∀ k, k < 2 → parseFieldDescriptor (TX8 k).2.2.1 = some (tyX8 k) := by decide +kernel
set_option maxRecDepth 20000 in
theorem inX8 : ∀ w ∈ u_ws RX8 TX8 2, w ∈ lw_tbl := fun w h => by
  have e : u_ws RX8 TX8 2 = ([230, 232] : List Nat).filterMap (fun i => lw_tbl[i]?) := by decide +kernel
  rw [e] at h
  obtain ⟨i, -, hi⟩ := List.mem_filterMap.mp h
  exact List.mem_of_getElem? hi
def RX9 : String := "RoundSlack$Steps"
def TX9 : u_T := fun k => match k with
  | 0 => ("RoundSlack$Steps", "ring", "[LRoundSlack$Rounds;", true)
  | 1 => ("RoundSlack$Steps", "next", "I", false)
  | _ => ("RoundSlack$Steps", "count", "I", false)
def tyX9 : Nat → FieldType := fun k => match k with
  | 0 => .array (.object "RoundSlack$Rounds")
  | 1 => .int
  | _ => .int
theorem nmX9 : ∀ a, a < 3 → ∀ b, b < 3 → a ≠ b → (TX9 a).2.1 ≠ (TX9 b).2.1 := by decide +kernel
theorem tyX9_ok : ∀ k, k < 3 → parseFieldDescriptor (TX9 k).2.2.1 = some (tyX9 k) := by decide +kernel
set_option maxRecDepth 20000 in
theorem inX9 : ∀ w ∈ u_ws RX9 TX9 3, w ∈ lw_tbl := fun w h => by
  have e : u_ws RX9 TX9 3 = ([248, 250, 252] : List Nat).filterMap (fun i => lw_tbl[i]?) := by decide +kernel
  rw [e] at h
  obtain ⟨i, -, hi⟩ := List.mem_filterMap.mp h
  exact List.mem_of_getElem? hi
def RX10 : String := "RoundSlack$Text"
def TX10 : u_T := fun k => match k with
  | 0 => ("RoundSlack$Text", "bytes", "[B", true)
  | _ => ("RoundSlack$Text", "length", "I", false)
def tyX10 : Nat → FieldType := fun k => match k with
  | 0 => .array .byte
  | _ => .int
theorem nmX10 : ∀ a, a < 2 → ∀ b, b < 2 → a ≠ b → (TX10 a).2.1 ≠ (TX10 b).2.1 := by decide +kernel
theorem tyX10_ok : ∀ k, k < 2 → parseFieldDescriptor (TX10 k).2.2.1 = some (tyX10 k) := by decide +kernel
set_option maxRecDepth 20000 in
theorem inX10 : ∀ w ∈ u_ws RX10 TX10 2, w ∈ lw_tbl := fun w h => by
  have e : u_ws RX10 TX10 2 = ([443, 445] : List Nat).filterMap (fun i => lw_tbl[i]?) := by decide +kernel
  rw [e] at h
  obtain ⟨i, -, hi⟩ := List.mem_filterMap.mp h
  exact List.mem_of_getElem? hi
def RX11 : String := "RoundSlack"
def TX11 : u_T := fun k => match k with
  | 0 => ("RoundSlack", "book", "LRoundSlack$Book;", true)
  | 1 => ("RoundSlack", "fleet", "LRoundSlack$Fleet;", true)
  | 2 => ("RoundSlack", "rounds", "LRoundSlack$Rounds;", true)
  | 3 => ("RoundSlack", "bookOfImage", "LRoundSlack$Book;", true)
  | 4 => ("RoundSlack", "fleetOfImage", "LRoundSlack$Fleet;", true)
  | 5 => ("RoundSlack", "roundsOfImage", "LRoundSlack$Rounds;", true)
  | 6 => ("RoundSlack", "imageTaken", "Z", false)
  | 7 => ("RoundSlack", "aside", "LRoundSlack$Rounds;", true)
  | 8 => ("RoundSlack", "steps", "LRoundSlack$Steps;", true)
  | 9 => ("RoundSlack", "part", "LRoundSlack$Piece;", true)
  | 10 => ("RoundSlack", "referee", "LRoundSlack$Judge;", true)
  | 11 => ("RoundSlack", "drive", "LRoundSlack$Drive;", true)
  | 12 => ("RoundSlack", "moves", "LRoundSlack$Moves;", true)
  | 13 => ("RoundSlack", "filling", "LRoundSlack$Filling;", true)
  | 14 => ("RoundSlack", "tape", "LRoundSlack$Text;", true)
  | 15 => ("RoundSlack", "sheet", "LRoundSlack$Text;", true)
  | 16 => ("RoundSlack", "reader", "LRoundSlack$Reader;", true)
  | 17 => ("RoundSlack", "rowInts", "[[I", true)
  | _ => ("RoundSlack", "rowSize", "[I", true)
def tyX11 : Nat → FieldType := fun k => match k with
  | 0 => .object "RoundSlack$Book"
  | 1 => .object "RoundSlack$Fleet"
  | 2 => .object "RoundSlack$Rounds"
  | 3 => .object "RoundSlack$Book"
  | 4 => .object "RoundSlack$Fleet"
  | 5 => .object "RoundSlack$Rounds"
  | 6 => .boolean
  | 7 => .object "RoundSlack$Rounds"
  | 8 => .object "RoundSlack$Steps"
  | 9 => .object "RoundSlack$Piece"
  | 10 => .object "RoundSlack$Judge"
  | 11 => .object "RoundSlack$Drive"
  | 12 => .object "RoundSlack$Moves"
  | 13 => .object "RoundSlack$Filling"
  | 14 => .object "RoundSlack$Text"
  | 15 => .object "RoundSlack$Text"
  | 16 => .object "RoundSlack$Reader"
  | 17 => .array (.array .int)
  | _ => .array .int
theorem nmX11 : ∀ a, a < 19 → ∀ b, b < 19 → a ≠ b → (TX11 a).2.1 ≠ (TX11 b).2.1 := by decide +kernel
theorem tyX11_ok : ∀ k, k < 19 → parseFieldDescriptor (TX11 k).2.2.1 = some (tyX11 k) := by decide +kernel
set_option maxRecDepth 20000 in
theorem inX11 : ∀ w ∈ u_ws RX11 TX11 19, w ∈ lw_tbl := fun w h => by
  have e : u_ws RX11 TX11 19 = ([490, 492, 494, 496, 498, 500, 502, 504, 506, 508, 510, 512, 514, 516, 518, 520, 522, 524, 526] : List Nat).filterMap (fun i => lw_tbl[i]?) := by decide +kernel
  rw [e] at h
  obtain ⟨i, -, hi⟩ := List.mem_filterMap.mp h
  exact List.mem_of_getElem? hi
def RX12 : String := "RoundSlackModel"
def TX12 : u_T := fun k => match k with
  | 0 => ("RoundSlackModel", "g", "[I", true)
  | 1 => ("RoundSlackModel", "kept", "[I", true)
  | 2 => ("RoundSlackModel", "isKept", "Z", false)
  | 3 => ("RoundSlackModel", "done", "[I", true)
  | 4 => ("RoundSlackModel", "steps", "I", false)
  | 5 => ("RoundSlackModel", "now", "[I", true)
  | 6 => ("RoundSlackModel", "tried", "[I", true)
  | 7 => ("RoundSlackModel", "node", "[I", true)
  | 8 => ("RoundSlackModel", "nodes", "I", false)
  | 9 => ("RoundSlackModel", "comes", "I", false)
  | 10 => ("RoundSlackModel", "begins", "I", false)
  | 11 => ("RoundSlackModel", "leaves", "I", false)
  | 12 => ("RoundSlackModel", "isLate", "Z", false)
  | 13 => ("RoundSlackModel", "tape", "[I", true)
  | 14 => ("RoundSlackModel", "came", "[I", true)
  | 15 => ("RoundSlackModel", "paper", "[I", true)
  | 16 => ("RoundSlackModel", "fed", "I", false)
  | 17 => ("RoundSlackModel", "place", "I", false)
  | 18 => ("RoundSlackModel", "papered", "I", false)
  | 19 => ("RoundSlackModel", "told", "I", false)
  | 20 => ("RoundSlackModel", "before", "[I", true)
  | 21 => ("RoundSlackModel", "tail", "[I", true)
  | 22 => ("RoundSlackModel", "bestA", "I", false)
  | 23 => ("RoundSlackModel", "bestB", "I", false)
  | 24 => ("RoundSlackModel", "bestC", "I", false)
  | 25 => ("RoundSlackModel", "bestGain", "I", false)
  | 26 => ("RoundSlackModel", "mayMany", "I", false)
  | 27 => ("RoundSlackModel", "bestPlace", "I", false)
  | 28 => ("RoundSlackModel", "bestPrice", "I", false)
  | 29 => ("RoundSlackModel", "sorted", "[I", true)
  | 30 => ("RoundSlackModel", "leastPrice", "I", false)
  | 31 => ("RoundSlackModel", "leastVan", "I", false)
  | 32 => ("RoundSlackModel", "leastPlace", "I", false)
  | 33 => ("RoundSlackModel", "count", "[I", true)
  | _ => ("RoundSlackModel", "item", "[I", true)
def tyX12 : Nat → FieldType := fun k => match k with
  | 0 => .array .int
  | 1 => .array .int
  | 2 => .boolean
  | 3 => .array .int
  | 4 => .int
  | 5 => .array .int
  | 6 => .array .int
  | 7 => .array .int
  | 8 => .int
  | 9 => .int
  | 10 => .int
  | 11 => .int
  | 12 => .boolean
  | 13 => .array .int
  | 14 => .array .int
  | 15 => .array .int
  | 16 => .int
  | 17 => .int
  | 18 => .int
  | 19 => .int
  | 20 => .array .int
  | 21 => .array .int
  | 22 => .int
  | 23 => .int
  | 24 => .int
  | 25 => .int
  | 26 => .int
  | 27 => .int
  | 28 => .int
  | 29 => .array .int
  | 30 => .int
  | 31 => .int
  | 32 => .int
  | 33 => .array .int
  | _ => .array .int
theorem nmX12 : ∀ a, a < 35 → ∀ b, b < 35 → a ≠ b → (TX12 a).2.1 ≠ (TX12 b).2.1 := by decide +kernel
theorem tyX12_ok : ∀ k, k < 35 → parseFieldDescriptor (TX12 k).2.2.1 = some (tyX12 k) := by decide +kernel
set_option maxRecDepth 20000 in
theorem inX12 : ∀ w ∈ u_ws RX12 TX12 35, w ∈ lw_tbl := fun w h => by
  have e : u_ws RX12 TX12 35 = ([1075, 1077, 1079, 1081, 1083, 1085, 1087, 1089, 1091, 1093, 1095, 1097, 1099, 1101, 1103, 1105, 1107, 1109, 1111, 1113, 1115, 1117, 1119, 1121, 1123, 1125, 1127, 1129, 1131, 1133, 1135, 1137, 1139, 1141, 1143] : List Nat).filterMap (fun i => lw_tbl[i]?) := by decide +kernel
  rw [e] at h
  obtain ⟨i, -, hi⟩ := List.mem_filterMap.mp h
  exact List.mem_of_getElem? hi
abbrev vwCl : List vw_C := [(RX0, TX0, 10), (RX1, TX1, 6), (RX2, TX2, 9), (RX3, TX3, 4), (RX4, TX4, 3), (RX5, TX5, 12), (RX6, TX6, 10), (RX7, TX7, 4), (RX8, TX8, 2), (RX9, TX9, 3), (RX10, TX10, 2), (RX11, TX11, 19), (RX12, TX12, 35)]
def RL : String := "RoundSlackLaw"
def am_names : List String := [RX0, RX1, RX2, RX3, RX4, RX5, RX6, RX7, RX8, RX9, RX10, RX11, RX12, RL]
def lw_gt : List Cond := lw_tbl.filter goodWord
end
section
/-! AM: an abstract machine over whole numbers; a step is 'none' where the machine would throw or a number would leave its range -/
abbrev AV : Type := Int ⊕ (Int ⊕ Nat)
abbrev vI (x : Int) : AV := Sum.inl x
abbrev vL (x : Int) : AV := Sum.inr (Sum.inl x)
abbrev vR (o : Nat) : AV := Sum.inr (Sum.inr o)
abbrev vU : AV := vL 0
abbrev AO : Type := Nat × Nat × List Nat
abbrev AH : Type := (Nat → Nat → Int) × List AO
abbrev RI : Type := Nat × Nat × Int × List (Int × Nat)
abbrev inR (x : Int) : Prop := -2147483648 ≤ x ∧ x ≤ 2147483647
abbrev inL (x : Int) : Prop := -9223372036854775808 ≤ x ∧ x ≤ 9223372036854775807
def iup (I : Nat → Nat → Int) (o k : Nat) (x : Int) : Nat → Nat → Int := fun o' k' => if o' = o ∧ k' = k then x else I o' k'
def iclr (I : Nat → Nat → Int) (n : Nat) : Nat → Nat → Int := fun o' k' => if n ≤ o' ∧ o' < 1000 then 0 else I o' k'
def icp (I : Nat → Nat → Int) (src sp dst dp n : Nat) : Nat → Nat → Int := fun o' k' => if o' = dst ∧ dp ≤ k' ∧ k' < dp + n then I src (sp + (k' - dp)) else I o' k'
def okRefs (n : Nat) (l : List AV) : Bool := l.all (fun v => match v with | .inr (.inr o) => decide (o < n ∨ 1000 ≤ o) | _ => true)
def okS (S : List AO) : Bool := S.all (fun q => q.2.2.all (fun r => decide (r < S.length ∨ r = 3000)))
def wcat (l : List AV) : Nat := (l.map (fun v => match v with | .inr (.inl _) => 2 | _ => 1)).sum
def bop (a : Nat) (x y : Int) : Option Int :=
  if a = 0 then (if inR (x + y) then some (x + y) else none)
  else if a = 1 then (if inR (x - y) then some (x - y) else none)
  else if a = 2 then (if inR (x * y) then some (x * y) else none)
  else if a = 3 then (if y ≠ 0 ∧ inR (x.tdiv y) then some (x.tdiv y) else none)
  else if a = 4 then (if y ≠ 0 ∧ inR (x.tdiv y) then some (x.tmod y) else none)
  else if a = 5 then some (Int32.ofInt x <<< (Int32.ofInt y &&& 31)).toInt
  else if a = 6 then some (Int32.ofInt x >>> (Int32.ofInt y &&& 31)).toInt
  else if a = 7 then some (Int32.ofInt x &&& Int32.ofInt y).toInt
  else if a = 8 then some (Int32.ofInt x ||| Int32.ofInt y).toInt
  else if a = 9 then some (Int32.ofInt x ^^^ Int32.ofInt y).toInt
  else none
abbrev cop (b : Nat) (x y : Int) : Prop :=
  if b = 0 then x = y else if b = 1 then ¬ x = y else if b = 2 then x < y else if b = 3 then y ≤ x else if b = 4 then y < x else x ≤ y
def tlook : List (Int × Nat) → Int → Nat → Nat
  | [], _, d => d
  | q :: l, x, d => if x = q.1 then q.2 else tlook l x d
abbrev PF : Type := Nat → Int → List (Int × Nat) → Nat → List AV → List AV → AH → Option (Nat × List AV × List AV × AH)
def p0 : PF := fun a b tb np ls st h => (if inR b then some (np, ls, vI b :: st, h) else none)
def p1 : PF := fun a b tb np ls st h => (if inL b then some (np, ls, vL b :: st, h) else none)
def p2 : PF := fun a b tb np ls st h => (match ls[a]? with | some (.inl x) => some (np, ls, vI x :: st, h) | _ => none)
def p3 : PF := fun a b tb np ls st h => (match ls[a]? with | some (.inr (.inr o)) => some (np, ls, vR o :: st, h) | _ => none)
def p4 : PF := fun a b tb np ls st h => (match st with | .inl x :: r => (if a < ls.length then some (np, ls.set a (vI x), r, h) else none) | _ => none)
def p5 : PF := fun a b tb np ls st h => (match st with | .inr (.inr o) :: r => (if a < ls.length then some (np, ls.set a (vR o), r, h) else none) | _ => none)
def p6 : PF := fun a b tb np ls st h => (match ls[a]? with | some (.inl x) => (if inR (x + b) then some (np, ls.set a (vI (x + b)), st, h) else none) | _ => none)
def p7 : PF := fun a b tb np ls st h => (match st with | .inr (.inr o) :: r => (match h.2[o]? with | some (kd, sz, _) => (if kd = a ∧ b.toNat < sz then some (np, ls, vI (h.1 o b.toNat) :: r, h) else none) | none => none) | _ => none)
def p8 : PF := fun a b tb np ls st h => (match st with | .inr (.inr o) :: r => (match h.2[o]? with | some (kd, sz, rf) => (match rf[b.toNat]? with | some q => (if kd = a ∧ b.toNat < sz ∧ q < 1000 then some (np, ls, vR q :: r, h) else none) | none => none) | none => none) | _ => none)
def p9 : PF := fun a b tb np ls st h => (match st with | .inl x :: .inr (.inr o) :: r => (match h.2[o]? with | some (kd, sz, _) => (if kd = a ∧ b.toNat < sz ∧ (tb = [] ∨ x = 0 ∨ x = 1) then some (np, ls, r, (iup h.1 o b.toNat x, h.2)) else none) | none => none) | _ => none)
def p10 : PF := fun a b tb np ls st h => (match st with | .inr (.inr q) :: .inr (.inr o) :: r => (match h.2[o]? with | some (kd, sz, rf) => (if kd = a ∧ b.toNat < sz ∧ q < h.2.length ∧ b.toNat < rf.length then some (np, ls, r, (h.1, h.2.set o (kd, sz, rf.set b.toNat q))) else none) | none => none) | _ => none)
def p11 : PF := fun a b tb np ls st h => (match st with | .inl i :: .inr (.inr o) :: r => (match h.2[o]? with | some (kd, sz, _) => (if kd = a ∧ 0 ≤ i ∧ i < sz then some (np, ls, vI (h.1 o i.toNat) :: r, h) else none) | none => none) | _ => none)
def p12 : PF := fun a b tb np ls st h => (match st with | .inl i :: .inr (.inr o) :: r => (match h.2[o]? with | some (kd, sz, rf) => (match rf[i.toNat]? with | some q => (if (kd = 102 ∨ kd = 103) ∧ 0 ≤ i ∧ i < sz ∧ q < 1000 then some (np, ls, vR q :: r, h) else none) | none => none) | none => none) | _ => none)
def p13 : PF := fun a b tb np ls st h => (match st with | .inl x :: .inl i :: .inr (.inr o) :: r => (match h.2[o]? with | some (kd, sz, _) => (if kd = a ∧ 0 ≤ i ∧ i < sz ∧ (a = 100 ∨ (-128 ≤ x ∧ x ≤ 127)) then some (np, ls, r, (iup h.1 o i.toNat x, h.2)) else none) | none => none) | _ => none)
def p14 : PF := fun a b tb np ls st h => (match st with | .inr (.inr q) :: .inl i :: .inr (.inr o) :: r => (match h.2[o]?, h.2[q]? with | some (kd, sz, rf), some (kq, _, _) => (if kd = 103 ∧ kq = 8 ∧ 0 ≤ i ∧ i < sz ∧ i.toNat < rf.length then some (np, ls, r, (h.1, h.2.set o (kd, sz, rf.set i.toNat q))) else none) | _, _ => none) | _ => none)
def p15 : PF := fun a b tb np ls st h => (match st with | .inr (.inr o) :: r => (match h.2[o]? with | some (kd, sz, _) => (if 100 ≤ kd ∧ kd ≤ 103 ∧ sz ≤ 100000 then some (np, ls, vI sz :: r, h) else none) | none => none) | _ => none)
def p16 : PF := fun a b tb np ls st h => (match st with | .inl y :: .inl x :: r => (match bop a x y with | some z => some (np, ls, vI z :: r, h) | none => none) | _ => none)
def p17 : PF := fun a b tb np ls st h => (match st with | .inl x :: r => (if -128 ≤ x ∧ x ≤ 127 then some (np, ls, vI x :: r, h) else none) | _ => none)
def p18 : PF := fun a b tb np ls st h => (match st with | .inl x :: r => some (np, ls, vL x :: r, h) | _ => none)
def p19 : PF := fun a b tb np ls st h => (match st with | .inr (.inl y) :: .inr (.inl x) :: r => some (np, ls, vI (if y < x then 1 else if x = y then 0 else -1) :: r, h) | _ => none)
def p20 : PF := fun a b tb np ls st h => (match st with | .inl x :: r => some ((if cop a x 0 then b.toNat else np), ls, r, h) | _ => none)
def p21 : PF := fun a b tb np ls st h => (match st with | .inl y :: .inl x :: r => some ((if cop a x y then b.toNat else np), ls, r, h) | _ => none)
def p22 : PF := fun a b tb np ls st h => some (b.toNat, ls, st, h)
def p23 : PF := fun a b tb np ls st h => (match st with | .inl x :: r => some (tlook tb x b.toNat, ls, r, h) | _ => none)
def p24 : PF := fun a b tb np ls st h => (match st with | .inl x :: r => some (np, ls, vI x :: vI x :: r, h) | .inr (.inr o) :: r => some (np, ls, vR o :: vR o :: r, h) | _ => none)
def p25 : PF := fun a b tb np ls st h => (match st with | .inl y :: .inr (.inr o) :: r => some (np, ls, vI y :: vR o :: vI y :: vR o :: r, h) | _ => none)
def p26 : PF := fun a b tb np ls st h => (match st with | .inl _ :: r => some (np, ls, r, h) | _ => none)
def p27 : PF := fun a b tb np ls st h => (if h.2.length < 1000 ∧ okS h.2 = true ∧ okRefs h.2.length ls = true ∧ okRefs h.2.length st = true then some (np, ls, vR h.2.length :: st, (iclr h.1 h.2.length, h.2 ++ [(a, b.toNat, List.replicate b.toNat 3000)])) else none)
def p28 : PF := fun a b tb np ls st h => (match st with | .inl n :: r => (if 0 ≤ n ∧ n ≤ 100000 ∧ h.2.length < 1000 ∧ okS h.2 = true ∧ okRefs h.2.length ls = true ∧ okRefs h.2.length r = true then some (np, ls, vR h.2.length :: r, (iclr h.1 h.2.length, h.2 ++ [(a, n.toNat, [])])) else none) | _ => none)
def p29 : PF := fun a b tb np ls st h => (match st with | .inl n :: r => (if 0 ≤ n ∧ n ≤ 100000 ∧ h.2.length < 1000 ∧ okS h.2 = true ∧ okRefs h.2.length ls = true ∧ okRefs h.2.length r = true then some (np, ls, vR h.2.length :: r, (iclr h.1 h.2.length, h.2 ++ [(103, n.toNat, List.replicate n.toNat 3000)])) else none) | _ => none)
def p30 : PF := fun a b tb np ls st h => (match st with | .inl k :: .inl n :: r => (if 0 ≤ n ∧ n ≤ 900 ∧ 0 ≤ k ∧ k ≤ 1000 ∧ h.2.length + 1 + n.toNat ≤ 1000 ∧ okS h.2 = true ∧ okRefs h.2.length ls = true ∧ okRefs h.2.length r = true then some (np, ls, vR h.2.length :: r, (iclr h.1 h.2.length, (h.2 ++ [(102, n.toNat, (List.range n.toNat).map (fun i => h.2.length + 1 + i))]) ++ List.replicate n.toNat (100, k.toNat, []))) else none) | _ => none)
def p31 : PF := fun a b tb np ls st h => (match st with | .inl x :: r => (if inR (-x) ∧ wcat r ≤ 8 then some (np, ls, vI (if 0 ≤ x then x else -x) :: r, h) else none) | _ => none)
def p32 : PF := fun a b tb np ls st h => (match st with | .inl y :: .inl x :: r => (if wcat r ≤ 8 then some (np, ls, vI (if x < y then y else x) :: r, h) else none) | _ => none)
def p33 : PF := fun a b tb np ls st h => (match st with | .inl y :: .inl x :: r => (if wcat r ≤ 8 then some (np, ls, vI (if y < x then y else x) :: r, h) else none) | _ => none)
def p34 : PF := fun a b tb np ls st h => (match st with | .inl n :: .inl dp :: .inr (.inr d) :: .inl sp :: .inr (.inr c) :: r => (match h.2[c]?, h.2[d]? with | some (kc, zc, _), some (kd, zd, _) => (if kc = 100 ∧ kd = 100 ∧ 0 ≤ sp ∧ 0 ≤ dp ∧ 0 ≤ n ∧ sp + n ≤ zc ∧ dp + n ≤ zd ∧ wcat r ≤ 8 then some (np, ls, r, (icp h.1 c sp.toNat d dp.toNat n.toNat, h.2)) else none) | _, _ => none) | _ => none)
def p35 : PF := fun a b tb np ls st h => (match st with | .inr (.inr _) :: r => (if wcat r ≤ 8 then some (np, ls, r, h) else none) | _ => none)
def p36 : PF := fun a b tb np ls st h => (match st with | .inl i :: .inr (.inr o) :: r => (if o = 1000 ∧ 0 ≤ i ∧ i < h.1 1001 0 then some (np, ls, vI (h.1 1000 i.toNat) :: r, h) else none) | _ => none)
def p37 : PF := fun a b tb np ls st h => (match st with | .inr (.inr o) :: r => (if o = 1000 then some (np, ls, vI (h.1 1001 0) :: r, h) else none) | _ => none)
def pfs : List PF := [p0, p1, p2, p3, p4, p5, p6, p7, p8, p9, p10, p11, p12, p13, p14, p15, p16, p17, p18, p19, p20, p21, p22, p23, p24, p25, p26, p27, p28, p29, p30, p31, p32, p33, p34, p35, p36, p37]
def pstep (op a : Nat) (b : Int) (tb : List (Int × Nat)) (np : Nat) (ls st : List AV) (h : AH) : Option (Nat × List AV × List AV × AH) := match pfs[op]? with | some f => f a b tb np ls st h | none => none
/-! what a step keeps -/
def okV (v : AV) : Prop := match v with | .inl x => inR x | .inr (.inl x) => inL x | .inr (.inr _) => True
def okL (l : List AV) : Prop := ∀ v ∈ l, okV v
def okI (I : Nat → Nat → Int) : Prop := ∀ o k, inR (I o k)
def sl (S : List AO) : Nat := (S.map (fun q => q.2.1)).sum
theorem okL_cons {v : AV} {l : List AV} : okL (v :: l) ↔ okV v ∧ okL l := by simp [okL]
theorem okL_nil : okL [] := by simp [okL]
theorem okL_app {a b : List AV} : okL (a ++ b) ↔ okL a ∧ okL b := by
  simp only [okL, List.mem_append]
  exact ⟨fun h => ⟨fun v hv => h v (Or.inl hv), fun v hv => h v (Or.inr hv)⟩, fun h v hv => hv.elim (h.1 v) (h.2 v)⟩
theorem okL_get {l : List AV} {k : Nat} {v : AV} (h : okL l) (hk : l[k]? = some v) : okV v := h v (List.mem_of_getElem? hk)
theorem okL_set {l : List AV} {k : Nat} {v : AV} (h : okL l) (hv : okV v) : okL (l.set k v) := fun w hw => by
  rcases List.mem_or_eq_of_mem_set hw with h1 | h1
  · exact h w h1
  · rw [h1]; exact hv
theorem okI_up {I : Nat → Nat → Int} {o k : Nat} {x : Int} (h : okI I) (hx : inR x) : okI (iup I o k x) := fun o' k' => by
  unfold iup
  split
  · exact hx
  · exact h _ _
theorem okI_clr {I : Nat → Nat → Int} {n : Nat} (h : okI I) : okI (iclr I n) := fun o' k' => by
  unfold iclr
  split
  · exact ⟨by decide, by decide⟩
  · exact h _ _
theorem okI_cp {I : Nat → Nat → Int} {a b c d n : Nat} (h : okI I) : okI (icp I a b c d n) := fun o' k' => by
  unfold icp
  split <;> exact h _ _
theorem i32_in (x : Int32) : inR x.toInt := ⟨by have := x.le_toInt; omega, by have := x.toInt_lt; omega⟩
theorem bop_in {a : Nat} {x y z : Int} (hx : inR x) (hy : inR y) (h : bop a x y = some z) : inR z := by
  unfold bop at h
  repeat' split at h
  all_goals first
    | (cases h; assumption)
    | (cases h; exact i32_in _)
    | (cases h; rename_i hh; exact hh.2)
    | (cases h; done)
    | skip
  · cases h
    rename_i hh
    have h2 : x.tmod y = x - y * x.tdiv y := by have := Int.mul_tdiv_add_tmod x y; omega
    have h3 : (x.tmod y).natAbs < y.natAbs := by rw [Int.natAbs_tmod]; exact Nat.mod_lt _ (by omega)
    have h4 : (x.tmod y).natAbs ≤ x.natAbs := by rw [Int.natAbs_tmod]; exact Nat.mod_le _ _
    unfold inR at *
    omega
theorem sl_set {S : List AO} {o kd sz : Nat} {rf rf' : List Nat} (h : S[o]? = some (kd, sz, rf)) : sl S ≤ sl (S.set o (kd, sz, rf')) := by
  induction S generalizing o with
  | nil => simp [sl]
  | cons q S ih =>
    cases o with
    | zero => simp at h; subst h; simp [sl]
    | succ o => simp at h; have := ih h; simp [sl] at this ⊢; omega
theorem sl_app {S T : List AO} : sl (S ++ T) = sl S + sl T := by simp [sl]
def okPF (f : PF) : Prop := ∀ {a : Nat} {b : Int} {tb : List (Int × Nat)} {np pc' : Nat} {ls st ls' st' : List AV} {h h' : AH}, f a b tb np ls st h = some (pc', ls', st', h') → okL ls → okL st → okI h.1 → okL ls' ∧ okL st' ∧ okI h'.1 ∧ h.2.length ≤ h'.2.length ∧ sl h.2 ≤ sl h'.2 ∧ ls'.length = ls.length
theorem ok_p0 : okPF p0 := by
  intro a b tb np pc' ls st ls' st' h h' e hl hs hI
  unfold p0 at e
  (try dsimp only at e)
  (repeat' split at e)
  all_goals first
    | (cases e; done)
    | (cases e; exact ⟨hl, okL_cons.mpr ⟨by assumption, hs⟩, hI, Nat.le_refl _, Nat.le_refl _, rfl⟩)
theorem ok_p1 : okPF p1 := by
  intro a b tb np pc' ls st ls' st' h h' e hl hs hI
  unfold p1 at e
  (try dsimp only at e)
  (repeat' split at e)
  all_goals first
    | (cases e; done)
    | (cases e; exact ⟨hl, okL_cons.mpr ⟨by assumption, hs⟩, hI, Nat.le_refl _, Nat.le_refl _, rfl⟩)
theorem ok_p2 : okPF p2 := by
  intro a b tb np pc' ls st ls' st' h h' e hl hs hI
  unfold p2 at e
  (try dsimp only at e)
  (repeat' split at e)
  all_goals first
    | (cases e; done)
    | (cases e; exact ⟨hl, okL_cons.mpr ⟨okL_get hl (by assumption), hs⟩, hI, Nat.le_refl _, Nat.le_refl _, rfl⟩)
theorem ok_p3 : okPF p3 := by
  intro a b tb np pc' ls st ls' st' h h' e hl hs hI
  unfold p3 at e
  (try dsimp only at e)
  (repeat' split at e)
  all_goals first
    | (cases e; done)
    | (cases e; exact ⟨hl, okL_cons.mpr ⟨okL_get hl (by assumption), hs⟩, hI, Nat.le_refl _, Nat.le_refl _, rfl⟩)
theorem ok_p4 : okPF p4 := by
  intro a b tb np pc' ls st ls' st' h h' e hl hs hI
  unfold p4 at e
  (try dsimp only at e)
  (repeat' split at e)
  all_goals first
    | (cases e; done)
    | (cases e; exact ⟨okL_set hl (okL_cons.mp hs).1, (okL_cons.mp hs).2, hI, Nat.le_refl _, Nat.le_refl _, by simp⟩)
theorem ok_p5 : okPF p5 := by
  intro a b tb np pc' ls st ls' st' h h' e hl hs hI
  unfold p5 at e
  (try dsimp only at e)
  (repeat' split at e)
  all_goals first
    | (cases e; done)
    | (cases e; exact ⟨okL_set hl (okL_cons.mp hs).1, (okL_cons.mp hs).2, hI, Nat.le_refl _, Nat.le_refl _, by simp⟩)
theorem ok_p6 : okPF p6 := by
  intro a b tb np pc' ls st ls' st' h h' e hl hs hI
  unfold p6 at e
  (try dsimp only at e)
  (repeat' split at e)
  all_goals first
    | (cases e; done)
    | (cases e; exact ⟨okL_set hl (by assumption), hs, hI, Nat.le_refl _, Nat.le_refl _, by simp⟩)
theorem ok_p7 : okPF p7 := by
  intro a b tb np pc' ls st ls' st' h h' e hl hs hI
  unfold p7 at e
  (try dsimp only at e)
  (repeat' split at e)
  all_goals first
    | (cases e; done)
    | (cases e; exact ⟨hl, okL_cons.mpr ⟨hI _ _, (okL_cons.mp hs).2⟩, hI, Nat.le_refl _, Nat.le_refl _, rfl⟩)
theorem ok_p8 : okPF p8 := by
  intro a b tb np pc' ls st ls' st' h h' e hl hs hI
  unfold p8 at e
  (try dsimp only at e)
  (repeat' split at e)
  all_goals first
    | (cases e; done)
    | (cases e; exact ⟨hl, okL_cons.mpr ⟨trivial, (okL_cons.mp hs).2⟩, hI, Nat.le_refl _, Nat.le_refl _, rfl⟩)
theorem ok_p9 : okPF p9 := by
  intro a b tb np pc' ls st ls' st' h h' e hl hs hI
  unfold p9 at e
  (try dsimp only at e)
  (repeat' split at e)
  all_goals first
    | (cases e; done)
    | (cases e; exact ⟨hl, (okL_cons.mp (okL_cons.mp hs).2).2, okI_up hI (okL_cons.mp hs).1, Nat.le_refl _, Nat.le_refl _, rfl⟩)
theorem ok_p10 : okPF p10 := by
  intro a b tb np pc' ls st ls' st' h h' e hl hs hI
  unfold p10 at e
  (try dsimp only at e)
  (repeat' split at e)
  all_goals first
    | (cases e; done)
    | (cases e; exact ⟨hl, (okL_cons.mp (okL_cons.mp hs).2).2, hI, by simp, sl_set (by assumption), rfl⟩)
theorem ok_p11 : okPF p11 := by
  intro a b tb np pc' ls st ls' st' h h' e hl hs hI
  unfold p11 at e
  (try dsimp only at e)
  (repeat' split at e)
  all_goals first
    | (cases e; done)
    | (cases e; exact ⟨hl, okL_cons.mpr ⟨hI _ _, (okL_cons.mp (okL_cons.mp hs).2).2⟩, hI, Nat.le_refl _, Nat.le_refl _, rfl⟩)
theorem ok_p12 : okPF p12 := by
  intro a b tb np pc' ls st ls' st' h h' e hl hs hI
  unfold p12 at e
  (try dsimp only at e)
  (repeat' split at e)
  all_goals first
    | (cases e; done)
    | (cases e; exact ⟨hl, okL_cons.mpr ⟨trivial, (okL_cons.mp (okL_cons.mp hs).2).2⟩, hI, Nat.le_refl _, Nat.le_refl _, rfl⟩)
theorem ok_p13 : okPF p13 := by
  intro a b tb np pc' ls st ls' st' h h' e hl hs hI
  unfold p13 at e
  (try dsimp only at e)
  (repeat' split at e)
  all_goals first
    | (cases e; done)
    | (cases e; exact ⟨hl, (okL_cons.mp (okL_cons.mp (okL_cons.mp hs).2).2).2, okI_up hI (okL_cons.mp hs).1, Nat.le_refl _, Nat.le_refl _, rfl⟩)
theorem ok_p14 : okPF p14 := by
  intro a b tb np pc' ls st ls' st' h h' e hl hs hI
  unfold p14 at e
  (try dsimp only at e)
  (repeat' split at e)
  all_goals first
    | (cases e; done)
    | (cases e; exact ⟨hl, (okL_cons.mp (okL_cons.mp (okL_cons.mp hs).2).2).2, hI, by simp, sl_set (by assumption), rfl⟩)
theorem ok_p15 : okPF p15 := by
  intro a b tb np pc' ls st ls' st' h h' e hl hs hI
  unfold p15 at e
  (try dsimp only at e)
  (repeat' split at e)
  all_goals first
    | (cases e; done)
    | (cases e; exact ⟨hl, okL_cons.mpr ⟨by simp only [okV]; omega, (okL_cons.mp hs).2⟩, hI, Nat.le_refl _, Nat.le_refl _, rfl⟩)
theorem ok_p16 : okPF p16 := by
  intro a b tb np pc' ls st ls' st' h h' e hl hs hI
  unfold p16 at e
  (try dsimp only at e)
  (repeat' split at e)
  all_goals first
    | (cases e; done)
    | (cases e; exact ⟨hl, okL_cons.mpr ⟨bop_in (okL_cons.mp (okL_cons.mp hs).2).1 (okL_cons.mp hs).1 (by assumption), (okL_cons.mp (okL_cons.mp hs).2).2⟩, hI, Nat.le_refl _, Nat.le_refl _, rfl⟩)
theorem ok_p17 : okPF p17 := by
  intro a b tb np pc' ls st ls' st' h h' e hl hs hI
  unfold p17 at e
  (try dsimp only at e)
  (repeat' split at e)
  all_goals first
    | (cases e; done)
    | (cases e; exact ⟨hl, hs, hI, Nat.le_refl _, Nat.le_refl _, rfl⟩)
theorem ok_p18 : okPF p18 := by
  intro a b tb np pc' ls st ls' st' h h' e hl hs hI
  unfold p18 at e
  (try dsimp only at e)
  (repeat' split at e)
  all_goals first
    | (cases e; done)
    | (cases e; exact ⟨hl, okL_cons.mpr ⟨by have := (okL_cons.mp hs).1; simp only [okV] at this ⊢; omega, (okL_cons.mp hs).2⟩, hI, Nat.le_refl _, Nat.le_refl _, rfl⟩)
theorem ok_p19 : okPF p19 := by
  intro a b tb np pc' ls st ls' st' h h' e hl hs hI
  unfold p19 at e
  (try dsimp only at e)
  (repeat' split at e)
  all_goals first
    | (cases e; done)
    | (cases e; exact ⟨hl, okL_cons.mpr ⟨by simp only [okV]; decide, (okL_cons.mp (okL_cons.mp hs).2).2⟩, hI, Nat.le_refl _, Nat.le_refl _, rfl⟩)
theorem ok_p20 : okPF p20 := by
  intro a b tb np pc' ls st ls' st' h h' e hl hs hI
  unfold p20 at e
  (try dsimp only at e)
  (repeat' split at e)
  all_goals first
    | (cases e; done)
    | (cases e; exact ⟨hl, (okL_cons.mp hs).2, hI, Nat.le_refl _, Nat.le_refl _, rfl⟩)
theorem ok_p21 : okPF p21 := by
  intro a b tb np pc' ls st ls' st' h h' e hl hs hI
  unfold p21 at e
  (try dsimp only at e)
  (repeat' split at e)
  all_goals first
    | (cases e; done)
    | (cases e; exact ⟨hl, (okL_cons.mp (okL_cons.mp hs).2).2, hI, Nat.le_refl _, Nat.le_refl _, rfl⟩)
theorem ok_p22 : okPF p22 := by
  intro a b tb np pc' ls st ls' st' h h' e hl hs hI
  unfold p22 at e
  (try dsimp only at e)
  (repeat' split at e)
  all_goals first
    | (cases e; done)
    | (cases e; exact ⟨hl, hs, hI, Nat.le_refl _, Nat.le_refl _, rfl⟩)
theorem ok_p23 : okPF p23 := by
  intro a b tb np pc' ls st ls' st' h h' e hl hs hI
  unfold p23 at e
  (try dsimp only at e)
  (repeat' split at e)
  all_goals first
    | (cases e; done)
    | (cases e; exact ⟨hl, (okL_cons.mp hs).2, hI, Nat.le_refl _, Nat.le_refl _, rfl⟩)
theorem ok_p24 : okPF p24 := by
  intro a b tb np pc' ls st ls' st' h h' e hl hs hI
  unfold p24 at e
  (try dsimp only at e)
  (repeat' split at e)
  all_goals first
    | (cases e; done)
    | (cases e; exact ⟨hl, okL_cons.mpr ⟨(okL_cons.mp hs).1, hs⟩, hI, Nat.le_refl _, Nat.le_refl _, rfl⟩)
theorem ok_p25 : okPF p25 := by
  intro a b tb np pc' ls st ls' st' h h' e hl hs hI
  unfold p25 at e
  (try dsimp only at e)
  (repeat' split at e)
  all_goals first
    | (cases e; done)
    | (cases e; exact ⟨hl, okL_cons.mpr ⟨(okL_cons.mp hs).1, okL_cons.mpr ⟨(okL_cons.mp (okL_cons.mp hs).2).1, hs⟩⟩, hI, Nat.le_refl _, Nat.le_refl _, rfl⟩)
theorem ok_p26 : okPF p26 := by
  intro a b tb np pc' ls st ls' st' h h' e hl hs hI
  unfold p26 at e
  (try dsimp only at e)
  (repeat' split at e)
  all_goals first
    | (cases e; done)
    | (cases e; exact ⟨hl, (okL_cons.mp hs).2, hI, Nat.le_refl _, Nat.le_refl _, rfl⟩)
theorem ok_p27 : okPF p27 := by
  intro a b tb np pc' ls st ls' st' h h' e hl hs hI
  unfold p27 at e
  (try dsimp only at e)
  (repeat' split at e)
  all_goals first
    | (cases e; done)
    | (cases e; exact ⟨hl, okL_cons.mpr ⟨trivial, hs⟩, okI_clr hI, by simp, by simp [sl_app], rfl⟩)
theorem ok_p28 : okPF p28 := by
  intro a b tb np pc' ls st ls' st' h h' e hl hs hI
  unfold p28 at e
  (try dsimp only at e)
  (repeat' split at e)
  all_goals first
    | (cases e; done)
    | (cases e; exact ⟨hl, okL_cons.mpr ⟨trivial, (okL_cons.mp hs).2⟩, okI_clr hI, by simp, by simp [sl_app], rfl⟩)
theorem ok_p29 : okPF p29 := by
  intro a b tb np pc' ls st ls' st' h h' e hl hs hI
  unfold p29 at e
  (try dsimp only at e)
  (repeat' split at e)
  all_goals first
    | (cases e; done)
    | (cases e; exact ⟨hl, okL_cons.mpr ⟨trivial, (okL_cons.mp hs).2⟩, okI_clr hI, by simp, by simp [sl_app], rfl⟩)
theorem ok_p30 : okPF p30 := by
  intro a b tb np pc' ls st ls' st' h h' e hl hs hI
  unfold p30 at e
  (try dsimp only at e)
  (repeat' split at e)
  all_goals first
    | (cases e; done)
    | (cases e; exact ⟨hl, okL_cons.mpr ⟨trivial, (okL_cons.mp (okL_cons.mp hs).2).2⟩, okI_clr hI, by simp, by simp only [sl_app]; omega, rfl⟩)
theorem ok_p31 : okPF p31 := by
  intro a b tb np pc' ls st ls' st' h h' e hl hs hI
  unfold p31 at e
  (try dsimp only at e)
  (repeat' split at e)
  all_goals first
    | (cases e; done)
    | (cases e; exact ⟨hl, okL_cons.mpr ⟨by first | exact (okL_cons.mp hs).1 | exact (‹inR (-_) ∧ _›).1, (okL_cons.mp hs).2⟩, hI, Nat.le_refl _, Nat.le_refl _, rfl⟩)
theorem ok_p32 : okPF p32 := by
  intro a b tb np pc' ls st ls' st' h h' e hl hs hI
  unfold p32 at e
  (try dsimp only at e)
  (repeat' split at e)
  all_goals first
    | (cases e; done)
    | (cases e; exact ⟨hl, okL_cons.mpr ⟨by first | exact (okL_cons.mp hs).1 | exact (okL_cons.mp (okL_cons.mp hs).2).1, (okL_cons.mp (okL_cons.mp hs).2).2⟩, hI, Nat.le_refl _, Nat.le_refl _, rfl⟩)
theorem ok_p33 : okPF p33 := by
  intro a b tb np pc' ls st ls' st' h h' e hl hs hI
  unfold p33 at e
  (try dsimp only at e)
  (repeat' split at e)
  all_goals first
    | (cases e; done)
    | (cases e; exact ⟨hl, okL_cons.mpr ⟨by first | exact (okL_cons.mp hs).1 | exact (okL_cons.mp (okL_cons.mp hs).2).1, (okL_cons.mp (okL_cons.mp hs).2).2⟩, hI, Nat.le_refl _, Nat.le_refl _, rfl⟩)
theorem ok_p34 : okPF p34 := by
  intro a b tb np pc' ls st ls' st' h h' e hl hs hI
  unfold p34 at e
  (try dsimp only at e)
  (repeat' split at e)
  all_goals first
    | (cases e; done)
    | (cases e; exact ⟨hl, (okL_cons.mp (okL_cons.mp (okL_cons.mp (okL_cons.mp (okL_cons.mp hs).2).2).2).2).2, okI_cp hI, Nat.le_refl _, Nat.le_refl _, rfl⟩)
theorem ok_p35 : okPF p35 := by
  intro a b tb np pc' ls st ls' st' h h' e hl hs hI
  unfold p35 at e
  (try dsimp only at e)
  (repeat' split at e)
  all_goals first
    | (cases e; done)
    | (cases e; exact ⟨hl, (okL_cons.mp hs).2, hI, Nat.le_refl _, Nat.le_refl _, rfl⟩)
theorem ok_p36 : okPF p36 := by
  intro a b tb np pc' ls st ls' st' h h' e hl hs hI
  unfold p36 at e
  (try dsimp only at e)
  (repeat' split at e)
  all_goals first
    | (cases e; done)
    | (cases e; exact ⟨hl, okL_cons.mpr ⟨hI _ _, (okL_cons.mp (okL_cons.mp hs).2).2⟩, hI, Nat.le_refl _, Nat.le_refl _, rfl⟩)
theorem ok_p37 : okPF p37 := by
  intro a b tb np pc' ls st ls' st' h h' e hl hs hI
  unfold p37 at e
  (try dsimp only at e)
  (repeat' split at e)
  all_goals first
    | (cases e; done)
    | (cases e; exact ⟨hl, okL_cons.mpr ⟨hI _ _, (okL_cons.mp hs).2⟩, hI, Nat.le_refl _, Nat.le_refl _, rfl⟩)
theorem pfs_ok : ∀ f ∈ pfs, okPF f := by
  unfold pfs
  simp only [List.forall_mem_cons]
  exact ⟨ok_p0, ok_p1, ok_p2, ok_p3, ok_p4, ok_p5, ok_p6, ok_p7, ok_p8, ok_p9, ok_p10, ok_p11, ok_p12, ok_p13, ok_p14, ok_p15, ok_p16, ok_p17, ok_p18, ok_p19, ok_p20, ok_p21, ok_p22, ok_p23, ok_p24, ok_p25, ok_p26, ok_p27, ok_p28, ok_p29, ok_p30, ok_p31, ok_p32, ok_p33, ok_p34, ok_p35, ok_p36, ok_p37, fun f h => absurd h List.not_mem_nil⟩
theorem pstep_ok {op a : Nat} {b : Int} {tb : List (Int × Nat)} {np pc' : Nat} {ls st ls' st' : List AV} {h h' : AH} (e : pstep op a b tb np ls st h = some (pc', ls', st', h')) (hl : okL ls) (hs : okL st) (hI : okI h.1) : okL ls' ∧ okL st' ∧ okI h'.1 ∧ h.2.length ≤ h'.2.length ∧ sl h.2 ≤ sl h'.2 ∧ ls'.length = ls.length := by
  unfold pstep at e
  split at e
  · rename_i f hf
    exact pfs_ok f (List.mem_of_getElem? hf) e hl hs hI
  · cases e
end
